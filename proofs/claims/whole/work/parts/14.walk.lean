def qw_X12_replaceNote_62 (a0 : Nat) (Q : Int32 → ql_H → Prop) (xl2 : Int32) (xl3 : Int32) (xl4 : Int32) (rs0 : Option Nat) (xs1 : Int32) (h : ql_H) : Prop :=
ql_rv h rs0 13 fun b1 => qw_X12_fails b1 xs1 h (fun x1 h =>
if x1 = 0 then (ql_gR h (some a0) 13 0 fun r3 =>
ql_rv h (some a0) 13 fun b3 => qw_X12_keeps b3 r3 h (fun h =>
ql_rv h (some a0) 13 fun b5 => qw_X12_amends b5 xl4 h (fun x5 h =>
ql_rv h (some a0) 13 fun b6 => qw_X12_puts b6 xl4 x5 xl2 xl3 h (fun h =>
ql_rv h (some a0) 13 fun b8 => qw_X12_of b8 xl4 (4 : Int32) h (fun x8 h =>
Q x8 h))))) else (Q (0 : Int32) h))
def qw_X12_replaceNote (a0 : Nat) (xp1 : Int32) (xp2 : Int32) (xp3 : Int32) (h : ql_H) (Q : Int32 → ql_H → Prop) : Prop :=
ql_rv h (some a0) 13 fun b10 => qw_X12_placeOf b10 xp1 h (fun x10 h =>
if 0 ≤ x10 then (ql_rv h (some a0) 13 fun b12 => qw_X12_long0 b12 x10 h (fun x12 h =>
qw_X12_in xp2 (0 : Int32) (x12 - (1 : Int32)) h (fun x14 h =>
if x14 = 0 then (qw_X12_replaceNote_62 a0 Q xp2 xp3 x10 (some a0) (2 : Int32) h) else (qw_X12_isNote xp3 h (fun x15 h =>
if x15 = 0 then (qw_X12_replaceNote_62 a0 Q xp2 xp3 x10 (some a0) (3 : Int32) h) else (ql_rv h (some a0) 13 fun b16 => qw_X12_isClosed b16 x10 h (fun x16 h =>
if x16 = 0 then (qw_X12_replaceNote_62 a0 Q xp2 xp3 x10 (some a0) (0 : Int32) h) else (qw_X12_replaceNote_62 a0 Q xp2 xp3 x10 (some a0) (4 : Int32) h)))))))) else (qw_X12_replaceNote_62 a0 Q xp2 xp3 x10 (some a0) (1 : Int32) h))
set_option maxHeartbeats 4000000 in
set_option maxRecDepth 100000 in
theorem qm_X12_replaceNote (l : Launch) (hl9 : l.stackTraces = false) (D : ql_D) (h0 : ql_H) (a0 : Nat) (xp1 : Int32) (xp2 : Int32) (xp3 : Int32) (Q : Int32 → ql_H → Prop) (X : String → ql_H → Prop) (w : qw_X12_replaceNote a0 xp1 xp2 xp3 h0 Q) : ql_M D l yX12_replaceNote cX12_replaceNote 5 (some .int) ({ frames := 8, cells := 0, slots := 0, locals := 139 } : Room) h0 [.ref a0, .int xp1, .int xp2, .int xp3] (ql_rI Q) X 0 0 := by
  refine ql_ofW (by decide) (Nat.le_of_ble_eq_true rfl) ?_
  intro p e s m below meth c ls C hr hlocks hnm htab S hl
  have hl : lv_has ls 5 [(0, .ref a0), (1, .int xp1), (2, .int xp2), (3, .int xp3)] := hl
  have hB62 : ∀ (xl2 : Int32) (xl3 : Int32) (xl4 : Int32) (rs0 : Option Nat) (xs1 : Int32) (h : ql_H) (H : Heap) (locs : List Loc) (ls : Array Slot), ql_S D h0 s H locs h → lv_has ls 5 [(0, .ref a0), (2, .int xl2), (3, .int xl3), (4, .int xl4)] → qw_X12_replaceNote_62 a0 Q xl2 xl3 xl4 rs0 xs1 h → W p l e ({ frames := 8, cells := 0, slots := 0, locals := 139 } : Room) s m ([.ref a0, .int xp1, .int xp2, .int xp3] : List Value).toArray below meth c H locs 0 0 (vx_MQ below (ql_Q D h0 (ql_rI Q)) (ql_X D h0 X) ([.ref a0, .int xp1, .int xp2, .int xp3] : List Value).toArray s 0 0 (ql_A h0)) (F0 m 62 ls [.int xs1, va_rf rs0]) := by
    intro xl2 xl3 xl4 rs0 xs1 h H locs ls S hl w
    unfold qw_X12_replaceNote_62 at w
    refine ql_VI (As := [.int xs1]) (rest := []) C S htab hlocks hl qy_X12_fails qi_X12_fails qs_X12_fails gw_1749 (ci := 13) rfl w (fun b w => qm_X12_fails l hl9 D _ b xs1 _ _ w) rfl ⟨Nat.le_of_ble_eq_true rfl, Nat.le_of_ble_eq_true rfl⟩ ⟨rfl, rfl⟩ (by exact Nat.le_of_ble_eq_true rfl) (fun b e9 => by cases e9; rfl) dX12_replaceNote_62 ⟨Nat.le_of_ble_eq_true rfl, Nat.le_of_ble_eq_true rfl⟩ ⟨Nat.le_of_ble_eq_true rfl, Nat.le_of_ble_eq_true rfl⟩ (fun x1 h H locs S w => ?_)
    refine W.cs (cells' := 0) (slots' := 0) rfl rfl ?_
    refine lv_if_eq (tgt := 70) C.1.1 C.1.2.1 dX12_replaceNote_65 (by decide) (fun c9 => ?_) (fun c9 => ?_)
    · replace w := ql_if w c9
      refine ql_aload_n (r := (some a0)) C dX12_replaceNote_70 rfl (lv_at hl 0 rfl) ?_
      refine ql_aload_n (r := (some a0)) C dX12_replaceNote_71 rfl (lv_at hl 0 rfl) ?_
      refine ql_getR C S qf_13_0 gw_1668 dX12_replaceNote_72 w (fun r3 w => ?_)
      refine ql_VV (As := [va_rf r3]) (rest := []) C S htab hlocks hl qy_X12_keeps qi_X12_keeps qs_X12_keeps gw_1753 (ci := 13) rfl w (fun b w => qm_X12_keeps l hl9 D _ b r3 _ _ w) rfl ⟨Nat.le_of_ble_eq_true rfl, Nat.le_of_ble_eq_true rfl⟩ ⟨rfl, rfl⟩ (by exact Nat.le_of_ble_eq_true rfl) (fun b e9 => by cases e9; rfl) dX12_replaceNote_75 ⟨Nat.le_of_ble_eq_true rfl, Nat.le_of_ble_eq_true rfl⟩ ⟨Nat.le_of_ble_eq_true rfl, Nat.le_of_ble_eq_true rfl⟩ (fun h H locs S w => ?_)
      refine W.cs (cells' := 0) (slots' := 0) rfl rfl ?_
      refine ql_aload_n (r := (some a0)) C dX12_replaceNote_78 rfl (lv_at hl 0 rfl) ?_
      refine lv_iload C.1.1 C.1.2.1 dX12_replaceNote_79 (lv_at hl 3 rfl) ?_
      refine ql_aload_n (r := (some a0)) C dX12_replaceNote_81 rfl (lv_at hl 0 rfl) ?_
      refine lv_iload C.1.1 C.1.2.1 dX12_replaceNote_82 (lv_at hl 3 rfl) ?_
      refine ql_VI (As := [.int xl4]) (rest := [.int xl4, .ref a0]) C S htab hlocks hl qy_X12_amends qi_X12_amends qs_X12_amends gw_1792 (ci := 13) rfl w (fun b w => qm_X12_amends l hl9 D _ b xl4 _ _ w) rfl ⟨Nat.le_of_ble_eq_true rfl, Nat.le_of_ble_eq_true rfl⟩ ⟨rfl, rfl⟩ (by exact Nat.le_of_ble_eq_true rfl) (fun b e9 => by cases e9; rfl) dX12_replaceNote_84 ⟨Nat.le_of_ble_eq_true rfl, Nat.le_of_ble_eq_true rfl⟩ ⟨Nat.le_of_ble_eq_true rfl, Nat.le_of_ble_eq_true rfl⟩ (fun x5 h H locs S w => ?_)
      refine W.cs (cells' := 0) (slots' := 0) rfl rfl ?_
      refine lv_iload_n C.1.1 C.1.2.1 dX12_replaceNote_87 rfl (lv_at hl 1 rfl) ?_
      refine lv_iload_n C.1.1 C.1.2.1 dX12_replaceNote_88 rfl (lv_at hl 2 rfl) ?_
      refine ql_VV (As := [.int xl4, .int x5, .int xl2, .int xl3]) (rest := []) C S htab hlocks hl qy_X12_puts qi_X12_puts qs_X12_puts gw_1764 (ci := 13) rfl w (fun b w => qm_X12_puts l hl9 D _ b xl4 x5 xl2 xl3 _ _ w) rfl ⟨Nat.le_of_ble_eq_true rfl, Nat.le_of_ble_eq_true rfl⟩ ⟨rfl, rfl⟩ (by exact Nat.le_of_ble_eq_true rfl) (fun b e9 => by cases e9; rfl) dX12_replaceNote_89 ⟨Nat.le_of_ble_eq_true rfl, Nat.le_of_ble_eq_true rfl⟩ ⟨Nat.le_of_ble_eq_true rfl, Nat.le_of_ble_eq_true rfl⟩ (fun h H locs S w => ?_)
      refine W.cs (cells' := 0) (slots' := 0) rfl rfl ?_
      refine ql_aload_n (r := (some a0)) C dX12_replaceNote_92 rfl (lv_at hl 0 rfl) ?_
      refine lv_iload C.1.1 C.1.2.1 dX12_replaceNote_93 (lv_at hl 3 rfl) ?_
      refine lv_iconst (v := (4 : Int32)) C.1.1 C.1.2.1 dX12_replaceNote_95 (by decide) ?_
      refine ql_VI (As := [.int xl4, .int (4 : Int32)]) (rest := []) C S htab hlocks hl qy_X12_of qi_X12_of qs_X12_of gw_1745 (ci := 13) rfl w (fun b w => qm_X12_of l hl9 D _ b xl4 (4 : Int32) _ _ w) rfl ⟨Nat.le_of_ble_eq_true rfl, Nat.le_of_ble_eq_true rfl⟩ ⟨rfl, rfl⟩ (by exact Nat.le_of_ble_eq_true rfl) (fun b e9 => by cases e9; rfl) dX12_replaceNote_96 ⟨Nat.le_of_ble_eq_true rfl, Nat.le_of_ble_eq_true rfl⟩ ⟨Nat.le_of_ble_eq_true rfl, Nat.le_of_ble_eq_true rfl⟩ (fun x8 h H locs S w => ?_)
      refine W.cs (cells' := 0) (slots' := 0) rfl rfl ?_
      exact ql_iret C S hr hlocks dX12_replaceNote_99 ⟨Nat.le_of_ble_eq_true rfl, Nat.le_of_ble_eq_true rfl⟩ w
    · replace w := ql_ifn w c9
      refine lv_iconst (v := (0 : Int32)) C.1.1 C.1.2.1 dX12_replaceNote_68 (by decide) ?_
      exact ql_iret C S hr hlocks dX12_replaceNote_69 ⟨Nat.le_of_ble_eq_true rfl, Nat.le_of_ble_eq_true rfl⟩ w
  unfold qw_X12_replaceNote at w
  refine ql_aload_n (r := (some a0)) C dX12_replaceNote_0 rfl (lv_at hl 0 rfl) ?_
  refine lv_iload_n C.1.1 C.1.2.1 dX12_replaceNote_1 rfl (lv_at hl 1 rfl) ?_
  refine ql_VI (As := [.int xp1]) (rest := []) C S htab hlocks hl qy_X12_placeOf qi_X12_placeOf qs_X12_placeOf gw_1772 (ci := 13) rfl w (fun b w => qm_X12_placeOf l hl9 D _ b xp1 _ _ w) rfl ⟨Nat.le_of_ble_eq_true rfl, Nat.le_of_ble_eq_true rfl⟩ ⟨rfl, rfl⟩ (by exact Nat.le_of_ble_eq_true rfl) (fun b e9 => by cases e9; rfl) dX12_replaceNote_2 ⟨Nat.le_of_ble_eq_true rfl, Nat.le_of_ble_eq_true rfl⟩ ⟨Nat.le_of_ble_eq_true rfl, Nat.le_of_ble_eq_true rfl⟩ (fun x10 h H locs S w => ?_)
  refine W.cs (cells' := 0) (slots' := 0) rfl rfl ?_
  refine lv_istore (lv' := [(4, .int x10), (0, .ref a0), (1, .int xp1), (2, .int xp2), (3, .int xp3)]) C.1.1 C.1.2.1 dX12_replaceNote_5 hl (by decide) rfl (fun ls hl => ?_)
  refine ql_aload_n (r := (some a0)) C dX12_replaceNote_7 rfl (lv_at hl 1 rfl) ?_
  refine lv_iload C.1.1 C.1.2.1 dX12_replaceNote_8 (lv_at hl 0 rfl) ?_
  refine lv_if_ge (tgt := 17) C.1.1 C.1.2.1 dX12_replaceNote_10 (by decide) (fun c9 => ?_) (fun c9 => ?_)
  · replace w := ql_if w c9
    refine lv_iload_n C.1.1 C.1.2.1 dX12_replaceNote_17 rfl (lv_at hl 3 rfl) ?_
    refine lv_iconst (v := (0 : Int32)) C.1.1 C.1.2.1 dX12_replaceNote_18 (by decide) ?_
    refine ql_aload_n (r := (some a0)) C dX12_replaceNote_19 rfl (lv_at hl 1 rfl) ?_
    refine lv_iload C.1.1 C.1.2.1 dX12_replaceNote_20 (lv_at hl 0 rfl) ?_
    refine ql_VI (As := [.int x10]) (rest := [.int (0 : Int32), .int xp2, .ref a0]) C S htab hlocks hl qy_X12_long0 qi_X12_long0 qs_X12_long0 gw_1776 (ci := 13) rfl w (fun b w => qm_X12_long0 l hl9 D _ b x10 _ _ w) rfl ⟨Nat.le_of_ble_eq_true rfl, Nat.le_of_ble_eq_true rfl⟩ ⟨rfl, rfl⟩ (by exact Nat.le_of_ble_eq_true rfl) (fun b e9 => by cases e9; rfl) dX12_replaceNote_22 ⟨Nat.le_of_ble_eq_true rfl, Nat.le_of_ble_eq_true rfl⟩ ⟨Nat.le_of_ble_eq_true rfl, Nat.le_of_ble_eq_true rfl⟩ (fun x12 h H locs S w => ?_)
    refine W.cs (cells' := 0) (slots' := 0) rfl rfl ?_
    refine lv_iconst (v := (1 : Int32)) C.1.1 C.1.2.1 dX12_replaceNote_25 (by decide) ?_
    refine lv_isub C.1.1 C.1.2.1 dX12_replaceNote_26 ?_
    refine ql_SI (As := [.int xp2, .int (0 : Int32), .int (x12 - (1 : Int32))]) (rest := [.ref a0]) C S htab hlocks hl qy_X12_in qi_X12_in gw_1735 (qm_X12_in l hl9 D _ xp2 (0 : Int32) (x12 - (1 : Int32)) _ _ w) rfl ⟨Nat.le_of_ble_eq_true rfl, Nat.le_of_ble_eq_true rfl⟩ ⟨rfl, rfl⟩ (by exact Nat.le_of_ble_eq_true rfl) rfl dX12_replaceNote_27 ⟨Nat.le_of_ble_eq_true rfl, Nat.le_of_ble_eq_true rfl⟩ ⟨Nat.le_of_ble_eq_true rfl, Nat.le_of_ble_eq_true rfl⟩ (fun x14 h H locs S w => ?_)
    refine W.cs (cells' := 0) (slots' := 0) rfl rfl ?_
    refine lv_if_ne (tgt := 37) C.1.1 C.1.2.1 dX12_replaceNote_30 (by decide) (fun c9 => ?_) (fun c9 => ?_)
    · replace w := ql_ifn w c9
      refine lv_iload_n C.1.1 C.1.2.1 dX12_replaceNote_37 rfl (lv_at hl 4 rfl) ?_
      refine ql_SI (As := [.int xp3]) (rest := [.ref a0]) C S htab hlocks hl qy_X12_isNote qi_X12_isNote gw_1738 (qm_X12_isNote l hl9 D _ xp3 _ _ w) rfl ⟨Nat.le_of_ble_eq_true rfl, Nat.le_of_ble_eq_true rfl⟩ ⟨rfl, rfl⟩ (by exact Nat.le_of_ble_eq_true rfl) rfl dX12_replaceNote_38 ⟨Nat.le_of_ble_eq_true rfl, Nat.le_of_ble_eq_true rfl⟩ ⟨Nat.le_of_ble_eq_true rfl, Nat.le_of_ble_eq_true rfl⟩ (fun x15 h H locs S w => ?_)
      refine W.cs (cells' := 0) (slots' := 0) rfl rfl ?_
      refine lv_if_ne (tgt := 48) C.1.1 C.1.2.1 dX12_replaceNote_41 (by decide) (fun c9 => ?_) (fun c9 => ?_)
      · replace w := ql_ifn w c9
        refine ql_aload_n (r := (some a0)) C dX12_replaceNote_48 rfl (lv_at hl 1 rfl) ?_
        refine lv_iload C.1.1 C.1.2.1 dX12_replaceNote_49 (lv_at hl 0 rfl) ?_
        refine ql_VI (As := [.int x10]) (rest := [.ref a0]) C S htab hlocks hl qy_X12_isClosed qi_X12_isClosed qs_X12_isClosed gw_1784 (ci := 13) rfl w (fun b w => qm_X12_isClosed l hl9 D _ b x10 _ _ w) rfl ⟨Nat.le_of_ble_eq_true rfl, Nat.le_of_ble_eq_true rfl⟩ ⟨rfl, rfl⟩ (by exact Nat.le_of_ble_eq_true rfl) (fun b e9 => by cases e9; rfl) dX12_replaceNote_51 ⟨Nat.le_of_ble_eq_true rfl, Nat.le_of_ble_eq_true rfl⟩ ⟨Nat.le_of_ble_eq_true rfl, Nat.le_of_ble_eq_true rfl⟩ (fun x16 h H locs S w => ?_)
        refine W.cs (cells' := 0) (slots' := 0) rfl rfl ?_
        refine lv_if_eq (tgt := 61) C.1.1 C.1.2.1 dX12_replaceNote_54 (by decide) (fun c9 => ?_) (fun c9 => ?_)
        · replace w := ql_if w c9
          refine lv_iconst (v := (0 : Int32)) C.1.1 C.1.2.1 dX12_replaceNote_61 (by decide) ?_
          exact hB62 xp2 xp3 x10 (some a0) (0 : Int32) _ _ _ _ S (lv_sub hl [1, 3, 4, 0] rfl) w
        · replace w := ql_ifn w c9
          refine lv_iconst (v := (4 : Int32)) C.1.1 C.1.2.1 dX12_replaceNote_57 (by decide) ?_
          refine lv_goto (tgt := 62) C.1.1 C.1.2.1 dX12_replaceNote_58 (by decide) ?_
          exact hB62 xp2 xp3 x10 (some a0) (4 : Int32) _ _ _ _ S (lv_sub hl [1, 3, 4, 0] rfl) w
      · replace w := ql_if w c9
        refine lv_iconst (v := (3 : Int32)) C.1.1 C.1.2.1 dX12_replaceNote_44 (by decide) ?_
        refine lv_goto (tgt := 62) C.1.1 C.1.2.1 dX12_replaceNote_45 (by decide) ?_
        exact hB62 xp2 xp3 x10 (some a0) (3 : Int32) _ _ _ _ S (lv_sub hl [1, 3, 4, 0] rfl) w
    · replace w := ql_if w c9
      refine lv_iconst (v := (2 : Int32)) C.1.1 C.1.2.1 dX12_replaceNote_33 (by decide) ?_
      refine lv_goto (tgt := 62) C.1.1 C.1.2.1 dX12_replaceNote_34 (by decide) ?_
      exact hB62 xp2 xp3 x10 (some a0) (2 : Int32) _ _ _ _ S (lv_sub hl [1, 3, 4, 0] rfl) w
  · replace w := ql_ifn w c9
    refine lv_iconst (v := (1 : Int32)) C.1.1 C.1.2.1 dX12_replaceNote_13 (by decide) ?_
    refine lv_goto (tgt := 62) C.1.1 C.1.2.1 dX12_replaceNote_14 (by decide) ?_
    exact hB62 xp2 xp3 x10 (some a0) (1 : Int32) _ _ _ _ S (lv_sub hl [1, 3, 4, 0] rfl) w
def qw_X12_deleteNote_97 (a0 : Nat) (Q : Int32 → ql_H → Prop) : Nat → Int32 → Int32 → Int32 → Int32 → ql_H → Prop
  | 0, _, _, _, _, _ => False
  | n + 1, xl3, xl4, xl5, xl6, h =>
    if xl5 ≤ (xl6 + (1 : Int32)) then (ql_rv h (some a0) 13 fun b0 => qw_X12_puts b0 xl3 xl4 (xl5 - (1 : Int32)) (97 : Int32) h (fun h =>
    ql_rv h (some a0) 13 fun b1 => qw_X12_lays b1 xl3 (xl4 + (1 : Int32)) (xl5 - (1 : Int32)) h (fun h =>
    ql_rv h (some a0) 13 fun b3 => qw_X12_of b3 xl3 (4 : Int32) h (fun x3 h =>
    Q x3 h)))) else (ql_rv h (some a0) 13 fun b5 => qw_X12_note b5 xl3 xl4 (xl6 + (1 : Int32)) h (fun x5 h =>
    ql_rv h (some a0) 13 fun b6 => qw_X12_puts b6 xl3 xl4 xl6 x5 h (fun h =>
    qw_X12_deleteNote_97 a0 Q n xl3 xl4 xl5 (xl6 + (1 : Int32)) h)))
def qw_X12_deleteNote_60 (a0 : Nat) (Q : Int32 → ql_H → Prop) (xl2 : Int32) (xl3 : Int32) (rs0 : Option Nat) (xs1 : Int32) (h : ql_H) : Prop :=
ql_rv h rs0 13 fun b8 => qw_X12_fails b8 xs1 h (fun x8 h =>
if x8 = 0 then (ql_gR h (some a0) 13 0 fun r10 =>
ql_rv h (some a0) 13 fun b10 => qw_X12_keeps b10 r10 h (fun h =>
ql_rv h (some a0) 13 fun b12 => qw_X12_amends b12 xl3 h (fun x12 h =>
ql_rv h (some a0) 13 fun b14 => qw_X12_of b14 xl3 (x12 + (1 : Int32)) h (fun x14 h =>
qw_X12_deleteNote_97 a0 Q ql_FU xl3 x12 x14 xl2 h)))) else (Q (0 : Int32) h))
def qw_X12_deleteNote (a0 : Nat) (xp1 : Int32) (xp2 : Int32) (h : ql_H) (Q : Int32 → ql_H → Prop) : Prop :=
ql_rv h (some a0) 13 fun b16 => qw_X12_placeOf b16 xp1 h (fun x16 h =>
if 0 ≤ x16 then (ql_rv h (some a0) 13 fun b18 => qw_X12_long0 b18 x16 h (fun x18 h =>
qw_X12_in xp2 (0 : Int32) (x18 - (1 : Int32)) h (fun x20 h =>
if x20 = 0 then (qw_X12_deleteNote_60 a0 Q xp2 x16 (some a0) (2 : Int32) h) else (ql_rv h (some a0) 13 fun b21 => qw_X12_isClosed b21 x16 h (fun x21 h =>
if x21 = 0 then (ql_rv h (some a0) 13 fun b23 => qw_X12_long0 b23 x16 h (fun x23 h =>
if x23 = (1 : Int32) then (qw_X12_deleteNote_60 a0 Q xp2 x16 (some a0) (4 : Int32) h) else (qw_X12_deleteNote_60 a0 Q xp2 x16 (some a0) (0 : Int32) h))) else (qw_X12_deleteNote_60 a0 Q xp2 x16 (some a0) (3 : Int32) h)))))) else (qw_X12_deleteNote_60 a0 Q xp2 x16 (some a0) (1 : Int32) h))
set_option maxHeartbeats 4000000 in
set_option maxRecDepth 100000 in
theorem qm_X12_deleteNote (l : Launch) (hl9 : l.stackTraces = false) (D : ql_D) (h0 : ql_H) (a0 : Nat) (xp1 : Int32) (xp2 : Int32) (Q : Int32 → ql_H → Prop) (X : String → ql_H → Prop) (w : qw_X12_deleteNote a0 xp1 xp2 h0 Q) : ql_M D l yX12_deleteNote cX12_deleteNote 7 (some .int) ({ frames := 8, cells := 0, slots := 0, locals := 139 } : Room) h0 [.ref a0, .int xp1, .int xp2] (ql_rI Q) X 0 0 := by
  refine ql_ofW (by decide) (Nat.le_of_ble_eq_true rfl) ?_
  intro p e s m below meth c ls C hr hlocks hnm htab S hl
  have hl : lv_has ls 7 [(0, .ref a0), (1, .int xp1), (2, .int xp2)] := hl
  have hB97 : ∀ n : Nat, ∀ (xl3 : Int32) (xl4 : Int32) (xl5 : Int32) (xl6 : Int32) (h : ql_H) (H : Heap) (locs : List Loc) (ls : Array Slot), ql_S D h0 s H locs h → lv_has ls 7 [(0, .ref a0), (3, .int xl3), (4, .int xl4), (5, .int xl5), (6, .int xl6)] → qw_X12_deleteNote_97 a0 Q n xl3 xl4 xl5 xl6 h → W p l e ({ frames := 8, cells := 0, slots := 0, locals := 139 } : Room) s m ([.ref a0, .int xp1, .int xp2] : List Value).toArray below meth c H locs 0 0 (vx_MQ below (ql_Q D h0 (ql_rI Q)) (ql_X D h0 X) ([.ref a0, .int xp1, .int xp2] : List Value).toArray s 0 0 (ql_A h0)) (F0 m 97 ls []) := by
    intro n
    induction n with
    | zero => intro xl3 xl4 xl5 xl6 h H locs ls S hl w; rw [qw_X12_deleteNote_97] at w; exact w.elim
    | succ n ih =>
      intro xl3 xl4 xl5 xl6 h H locs ls S hl w
      rw [qw_X12_deleteNote_97] at w
      refine lv_iload C.1.1 C.1.2.1 dX12_deleteNote_97 (lv_at hl 4 rfl) ?_
      refine lv_iconst (v := (1 : Int32)) C.1.1 C.1.2.1 dX12_deleteNote_99 (by decide) ?_
      refine lv_iadd C.1.1 C.1.2.1 dX12_deleteNote_100 ?_
      refine lv_iload C.1.1 C.1.2.1 dX12_deleteNote_101 (lv_at hl 3 rfl) ?_
      refine lv_icmp_ge (tgt := 132) C.1.1 C.1.2.1 dX12_deleteNote_103 (by decide) (fun c9 => ?_) (fun c9 => ?_)
      · replace w := ql_if w c9
        refine ql_aload_n (r := (some a0)) C dX12_deleteNote_132 rfl (lv_at hl 0 rfl) ?_
        refine lv_iload_n C.1.1 C.1.2.1 dX12_deleteNote_133 rfl (lv_at hl 1 rfl) ?_
        refine lv_iload C.1.1 C.1.2.1 dX12_deleteNote_134 (lv_at hl 2 rfl) ?_
        refine lv_iload C.1.1 C.1.2.1 dX12_deleteNote_136 (lv_at hl 3 rfl) ?_
        refine lv_iconst (v := (1 : Int32)) C.1.1 C.1.2.1 dX12_deleteNote_138 (by decide) ?_
        refine lv_isub C.1.1 C.1.2.1 dX12_deleteNote_139 ?_
        refine lv_bipush (v := (97 : Int32)) C.1.1 C.1.2.1 dX12_deleteNote_140 (by decide) ?_
        refine ql_VV (As := [.int xl3, .int xl4, .int (xl5 - (1 : Int32)), .int (97 : Int32)]) (rest := []) C S htab hlocks hl qy_X12_puts qi_X12_puts qs_X12_puts gw_1764 (ci := 13) rfl w (fun b w => qm_X12_puts l hl9 D _ b xl3 xl4 (xl5 - (1 : Int32)) (97 : Int32) _ _ w) rfl ⟨Nat.le_of_ble_eq_true rfl, Nat.le_of_ble_eq_true rfl⟩ ⟨rfl, rfl⟩ (by exact Nat.le_of_ble_eq_true rfl) (fun b e9 => by cases e9; rfl) dX12_deleteNote_142 ⟨Nat.le_of_ble_eq_true rfl, Nat.le_of_ble_eq_true rfl⟩ ⟨Nat.le_of_ble_eq_true rfl, Nat.le_of_ble_eq_true rfl⟩ (fun h H locs S w => ?_)
        refine W.cs (cells' := 0) (slots' := 0) rfl rfl ?_
        refine ql_aload_n (r := (some a0)) C dX12_deleteNote_145 rfl (lv_at hl 0 rfl) ?_
        refine lv_iload_n C.1.1 C.1.2.1 dX12_deleteNote_146 rfl (lv_at hl 1 rfl) ?_
        refine lv_iload C.1.1 C.1.2.1 dX12_deleteNote_147 (lv_at hl 2 rfl) ?_
        refine lv_iconst (v := (1 : Int32)) C.1.1 C.1.2.1 dX12_deleteNote_149 (by decide) ?_
        refine lv_iadd C.1.1 C.1.2.1 dX12_deleteNote_150 ?_
        refine lv_iload C.1.1 C.1.2.1 dX12_deleteNote_151 (lv_at hl 3 rfl) ?_
        refine lv_iconst (v := (1 : Int32)) C.1.1 C.1.2.1 dX12_deleteNote_153 (by decide) ?_
        refine lv_isub C.1.1 C.1.2.1 dX12_deleteNote_154 ?_
        refine ql_VV (As := [.int xl3, .int (xl4 + (1 : Int32)), .int (xl5 - (1 : Int32))]) (rest := []) C S htab hlocks hl qy_X12_lays qi_X12_lays qs_X12_lays gw_1760 (ci := 13) rfl w (fun b w => qm_X12_lays l hl9 D _ b xl3 (xl4 + (1 : Int32)) (xl5 - (1 : Int32)) _ _ w) rfl ⟨Nat.le_of_ble_eq_true rfl, Nat.le_of_ble_eq_true rfl⟩ ⟨rfl, rfl⟩ (by exact Nat.le_of_ble_eq_true rfl) (fun b e9 => by cases e9; rfl) dX12_deleteNote_155 ⟨Nat.le_of_ble_eq_true rfl, Nat.le_of_ble_eq_true rfl⟩ ⟨Nat.le_of_ble_eq_true rfl, Nat.le_of_ble_eq_true rfl⟩ (fun h H locs S w => ?_)
        refine W.cs (cells' := 0) (slots' := 0) rfl rfl ?_
        refine ql_aload_n (r := (some a0)) C dX12_deleteNote_158 rfl (lv_at hl 0 rfl) ?_
        refine lv_iload_n C.1.1 C.1.2.1 dX12_deleteNote_159 rfl (lv_at hl 1 rfl) ?_
        refine lv_iconst (v := (4 : Int32)) C.1.1 C.1.2.1 dX12_deleteNote_160 (by decide) ?_
        refine ql_VI (As := [.int xl3, .int (4 : Int32)]) (rest := []) C S htab hlocks hl qy_X12_of qi_X12_of qs_X12_of gw_1745 (ci := 13) rfl w (fun b w => qm_X12_of l hl9 D _ b xl3 (4 : Int32) _ _ w) rfl ⟨Nat.le_of_ble_eq_true rfl, Nat.le_of_ble_eq_true rfl⟩ ⟨rfl, rfl⟩ (by exact Nat.le_of_ble_eq_true rfl) (fun b e9 => by cases e9; rfl) dX12_deleteNote_161 ⟨Nat.le_of_ble_eq_true rfl, Nat.le_of_ble_eq_true rfl⟩ ⟨Nat.le_of_ble_eq_true rfl, Nat.le_of_ble_eq_true rfl⟩ (fun x3 h H locs S w => ?_)
        refine W.cs (cells' := 0) (slots' := 0) rfl rfl ?_
        exact ql_iret C S hr hlocks dX12_deleteNote_164 ⟨Nat.le_of_ble_eq_true rfl, Nat.le_of_ble_eq_true rfl⟩ w
      · replace w := ql_ifn w c9
        refine ql_aload_n (r := (some a0)) C dX12_deleteNote_106 rfl (lv_at hl 0 rfl) ?_
        refine lv_iload_n C.1.1 C.1.2.1 dX12_deleteNote_107 rfl (lv_at hl 1 rfl) ?_
        refine lv_iload C.1.1 C.1.2.1 dX12_deleteNote_108 (lv_at hl 2 rfl) ?_
        refine lv_iload C.1.1 C.1.2.1 dX12_deleteNote_110 (lv_at hl 4 rfl) ?_
        refine ql_aload_n (r := (some a0)) C dX12_deleteNote_112 rfl (lv_at hl 0 rfl) ?_
        refine lv_iload_n C.1.1 C.1.2.1 dX12_deleteNote_113 rfl (lv_at hl 1 rfl) ?_
        refine lv_iload C.1.1 C.1.2.1 dX12_deleteNote_114 (lv_at hl 2 rfl) ?_
        refine lv_iload C.1.1 C.1.2.1 dX12_deleteNote_116 (lv_at hl 4 rfl) ?_
        refine lv_iconst (v := (1 : Int32)) C.1.1 C.1.2.1 dX12_deleteNote_118 (by decide) ?_
        refine lv_iadd C.1.1 C.1.2.1 dX12_deleteNote_119 ?_
        refine ql_VI (As := [.int xl3, .int xl4, .int (xl6 + (1 : Int32))]) (rest := [.int xl6, .int xl4, .int xl3, .ref a0]) C S htab hlocks hl qy_X12_note qi_X12_note qs_X12_note gw_1796 (ci := 13) rfl w (fun b w => qm_X12_note l hl9 D _ b xl3 xl4 (xl6 + (1 : Int32)) _ _ w) rfl ⟨Nat.le_of_ble_eq_true rfl, Nat.le_of_ble_eq_true rfl⟩ ⟨rfl, rfl⟩ (by exact Nat.le_of_ble_eq_true rfl) (fun b e9 => by cases e9; rfl) dX12_deleteNote_120 ⟨Nat.le_of_ble_eq_true rfl, Nat.le_of_ble_eq_true rfl⟩ ⟨Nat.le_of_ble_eq_true rfl, Nat.le_of_ble_eq_true rfl⟩ (fun x5 h H locs S w => ?_)
        refine W.cs (cells' := 0) (slots' := 0) rfl rfl ?_
        refine ql_VV (As := [.int xl3, .int xl4, .int xl6, .int x5]) (rest := []) C S htab hlocks hl qy_X12_puts qi_X12_puts qs_X12_puts gw_1764 (ci := 13) rfl w (fun b w => qm_X12_puts l hl9 D _ b xl3 xl4 xl6 x5 _ _ w) rfl ⟨Nat.le_of_ble_eq_true rfl, Nat.le_of_ble_eq_true rfl⟩ ⟨rfl, rfl⟩ (by exact Nat.le_of_ble_eq_true rfl) (fun b e9 => by cases e9; rfl) dX12_deleteNote_123 ⟨Nat.le_of_ble_eq_true rfl, Nat.le_of_ble_eq_true rfl⟩ ⟨Nat.le_of_ble_eq_true rfl, Nat.le_of_ble_eq_true rfl⟩ (fun h H locs S w => ?_)
        refine W.cs (cells' := 0) (slots' := 0) rfl rfl ?_
        refine lv_iinc (v := (xl6 + (1 : Int32))) (lv' := [(6, .int (xl6 + (1 : Int32))), (0, .ref a0), (3, .int xl3), (4, .int xl4), (5, .int xl5)]) C.1.1 C.1.2.1 dX12_deleteNote_126 hl (k := 4) rfl rfl (by decide) rfl (fun ls hl => ?_)
        refine lv_goto (tgt := 97) C.1.1 C.1.2.1 dX12_deleteNote_129 (by decide) ?_
        exact ih xl3 xl4 xl5 (xl6 + (1 : Int32)) _ _ _ _ S (lv_sub hl [1, 2, 3, 4, 0] rfl) w
  have hB60 : ∀ (xl2 : Int32) (xl3 : Int32) (rs0 : Option Nat) (xs1 : Int32) (h : ql_H) (H : Heap) (locs : List Loc) (ls : Array Slot), ql_S D h0 s H locs h → lv_has ls 7 [(0, .ref a0), (2, .int xl2), (3, .int xl3)] → qw_X12_deleteNote_60 a0 Q xl2 xl3 rs0 xs1 h → W p l e ({ frames := 8, cells := 0, slots := 0, locals := 139 } : Room) s m ([.ref a0, .int xp1, .int xp2] : List Value).toArray below meth c H locs 0 0 (vx_MQ below (ql_Q D h0 (ql_rI Q)) (ql_X D h0 X) ([.ref a0, .int xp1, .int xp2] : List Value).toArray s 0 0 (ql_A h0)) (F0 m 60 ls [.int xs1, va_rf rs0]) := by
    intro xl2 xl3 rs0 xs1 h H locs ls S hl w
    unfold qw_X12_deleteNote_60 at w
    refine ql_VI (As := [.int xs1]) (rest := []) C S htab hlocks hl qy_X12_fails qi_X12_fails qs_X12_fails gw_1749 (ci := 13) rfl w (fun b w => qm_X12_fails l hl9 D _ b xs1 _ _ w) rfl ⟨Nat.le_of_ble_eq_true rfl, Nat.le_of_ble_eq_true rfl⟩ ⟨rfl, rfl⟩ (by exact Nat.le_of_ble_eq_true rfl) (fun b e9 => by cases e9; rfl) dX12_deleteNote_60 ⟨Nat.le_of_ble_eq_true rfl, Nat.le_of_ble_eq_true rfl⟩ ⟨Nat.le_of_ble_eq_true rfl, Nat.le_of_ble_eq_true rfl⟩ (fun x8 h H locs S w => ?_)
    refine W.cs (cells' := 0) (slots' := 0) rfl rfl ?_
    refine lv_if_eq (tgt := 68) C.1.1 C.1.2.1 dX12_deleteNote_63 (by decide) (fun c9 => ?_) (fun c9 => ?_)
    · replace w := ql_if w c9
      refine ql_aload_n (r := (some a0)) C dX12_deleteNote_68 rfl (lv_at hl 0 rfl) ?_
      refine ql_aload_n (r := (some a0)) C dX12_deleteNote_69 rfl (lv_at hl 0 rfl) ?_
      refine ql_getR C S qf_13_0 gw_1668 dX12_deleteNote_70 w (fun r10 w => ?_)
      refine ql_VV (As := [va_rf r10]) (rest := []) C S htab hlocks hl qy_X12_keeps qi_X12_keeps qs_X12_keeps gw_1753 (ci := 13) rfl w (fun b w => qm_X12_keeps l hl9 D _ b r10 _ _ w) rfl ⟨Nat.le_of_ble_eq_true rfl, Nat.le_of_ble_eq_true rfl⟩ ⟨rfl, rfl⟩ (by exact Nat.le_of_ble_eq_true rfl) (fun b e9 => by cases e9; rfl) dX12_deleteNote_73 ⟨Nat.le_of_ble_eq_true rfl, Nat.le_of_ble_eq_true rfl⟩ ⟨Nat.le_of_ble_eq_true rfl, Nat.le_of_ble_eq_true rfl⟩ (fun h H locs S w => ?_)
      refine W.cs (cells' := 0) (slots' := 0) rfl rfl ?_
      refine ql_aload_n (r := (some a0)) C dX12_deleteNote_76 rfl (lv_at hl 0 rfl) ?_
      refine lv_iload_n C.1.1 C.1.2.1 dX12_deleteNote_77 rfl (lv_at hl 2 rfl) ?_
      refine ql_VI (As := [.int xl3]) (rest := []) C S htab hlocks hl qy_X12_amends qi_X12_amends qs_X12_amends gw_1792 (ci := 13) rfl w (fun b w => qm_X12_amends l hl9 D _ b xl3 _ _ w) rfl ⟨Nat.le_of_ble_eq_true rfl, Nat.le_of_ble_eq_true rfl⟩ ⟨rfl, rfl⟩ (by exact Nat.le_of_ble_eq_true rfl) (fun b e9 => by cases e9; rfl) dX12_deleteNote_78 ⟨Nat.le_of_ble_eq_true rfl, Nat.le_of_ble_eq_true rfl⟩ ⟨Nat.le_of_ble_eq_true rfl, Nat.le_of_ble_eq_true rfl⟩ (fun x12 h H locs S w => ?_)
      refine W.cs (cells' := 0) (slots' := 0) rfl rfl ?_
      refine lv_istore (lv' := [(4, .int x12), (0, .ref a0), (2, .int xl2), (3, .int xl3)]) C.1.1 C.1.2.1 dX12_deleteNote_81 hl (by decide) rfl (fun ls hl => ?_)
      refine ql_aload_n (r := (some a0)) C dX12_deleteNote_83 rfl (lv_at hl 1 rfl) ?_
      refine lv_iload_n C.1.1 C.1.2.1 dX12_deleteNote_84 rfl (lv_at hl 3 rfl) ?_
      refine lv_iload C.1.1 C.1.2.1 dX12_deleteNote_85 (lv_at hl 0 rfl) ?_
      refine lv_iconst (v := (1 : Int32)) C.1.1 C.1.2.1 dX12_deleteNote_87 (by decide) ?_
      refine lv_iadd C.1.1 C.1.2.1 dX12_deleteNote_88 ?_
      refine ql_VI (As := [.int xl3, .int (x12 + (1 : Int32))]) (rest := []) C S htab hlocks hl qy_X12_of qi_X12_of qs_X12_of gw_1745 (ci := 13) rfl w (fun b w => qm_X12_of l hl9 D _ b xl3 (x12 + (1 : Int32)) _ _ w) rfl ⟨Nat.le_of_ble_eq_true rfl, Nat.le_of_ble_eq_true rfl⟩ ⟨rfl, rfl⟩ (by exact Nat.le_of_ble_eq_true rfl) (fun b e9 => by cases e9; rfl) dX12_deleteNote_89 ⟨Nat.le_of_ble_eq_true rfl, Nat.le_of_ble_eq_true rfl⟩ ⟨Nat.le_of_ble_eq_true rfl, Nat.le_of_ble_eq_true rfl⟩ (fun x14 h H locs S w => ?_)
      refine W.cs (cells' := 0) (slots' := 0) rfl rfl ?_
      refine lv_istore (lv' := [(5, .int x14), (4, .int x12), (0, .ref a0), (2, .int xl2), (3, .int xl3)]) C.1.1 C.1.2.1 dX12_deleteNote_92 hl (by decide) rfl (fun ls hl => ?_)
      refine lv_iload_n C.1.1 C.1.2.1 dX12_deleteNote_94 rfl (lv_at hl 3 rfl) ?_
      refine lv_istore (lv' := [(6, .int xl2), (5, .int x14), (4, .int x12), (0, .ref a0), (2, .int xl2), (3, .int xl3)]) C.1.1 C.1.2.1 dX12_deleteNote_95 hl (by decide) rfl (fun ls hl => ?_)
      exact hB97 ql_FU xl3 x12 x14 xl2 _ _ _ _ S (lv_sub hl [3, 5, 2, 1, 0] rfl) w
    · replace w := ql_ifn w c9
      refine lv_iconst (v := (0 : Int32)) C.1.1 C.1.2.1 dX12_deleteNote_66 (by decide) ?_
      exact ql_iret C S hr hlocks dX12_deleteNote_67 ⟨Nat.le_of_ble_eq_true rfl, Nat.le_of_ble_eq_true rfl⟩ w
  unfold qw_X12_deleteNote at w
  refine ql_aload_n (r := (some a0)) C dX12_deleteNote_0 rfl (lv_at hl 0 rfl) ?_
  refine lv_iload_n C.1.1 C.1.2.1 dX12_deleteNote_1 rfl (lv_at hl 1 rfl) ?_
  refine ql_VI (As := [.int xp1]) (rest := []) C S htab hlocks hl qy_X12_placeOf qi_X12_placeOf qs_X12_placeOf gw_1772 (ci := 13) rfl w (fun b w => qm_X12_placeOf l hl9 D _ b xp1 _ _ w) rfl ⟨Nat.le_of_ble_eq_true rfl, Nat.le_of_ble_eq_true rfl⟩ ⟨rfl, rfl⟩ (by exact Nat.le_of_ble_eq_true rfl) (fun b e9 => by cases e9; rfl) dX12_deleteNote_2 ⟨Nat.le_of_ble_eq_true rfl, Nat.le_of_ble_eq_true rfl⟩ ⟨Nat.le_of_ble_eq_true rfl, Nat.le_of_ble_eq_true rfl⟩ (fun x16 h H locs S w => ?_)
  refine W.cs (cells' := 0) (slots' := 0) rfl rfl ?_
  refine lv_istore_n (lv' := [(3, .int x16), (0, .ref a0), (1, .int xp1), (2, .int xp2)]) C.1.1 C.1.2.1 dX12_deleteNote_5 rfl hl (by decide) rfl (fun ls hl => ?_)
  refine ql_aload_n (r := (some a0)) C dX12_deleteNote_6 rfl (lv_at hl 1 rfl) ?_
  refine lv_iload_n C.1.1 C.1.2.1 dX12_deleteNote_7 rfl (lv_at hl 0 rfl) ?_
  refine lv_if_ge (tgt := 15) C.1.1 C.1.2.1 dX12_deleteNote_8 (by decide) (fun c9 => ?_) (fun c9 => ?_)
  · replace w := ql_if w c9
    refine lv_iload_n C.1.1 C.1.2.1 dX12_deleteNote_15 rfl (lv_at hl 3 rfl) ?_
    refine lv_iconst (v := (0 : Int32)) C.1.1 C.1.2.1 dX12_deleteNote_16 (by decide) ?_
    refine ql_aload_n (r := (some a0)) C dX12_deleteNote_17 rfl (lv_at hl 1 rfl) ?_
    refine lv_iload_n C.1.1 C.1.2.1 dX12_deleteNote_18 rfl (lv_at hl 0 rfl) ?_
    refine ql_VI (As := [.int x16]) (rest := [.int (0 : Int32), .int xp2, .ref a0]) C S htab hlocks hl qy_X12_long0 qi_X12_long0 qs_X12_long0 gw_1776 (ci := 13) rfl w (fun b w => qm_X12_long0 l hl9 D _ b x16 _ _ w) rfl ⟨Nat.le_of_ble_eq_true rfl, Nat.le_of_ble_eq_true rfl⟩ ⟨rfl, rfl⟩ (by exact Nat.le_of_ble_eq_true rfl) (fun b e9 => by cases e9; rfl) dX12_deleteNote_19 ⟨Nat.le_of_ble_eq_true rfl, Nat.le_of_ble_eq_true rfl⟩ ⟨Nat.le_of_ble_eq_true rfl, Nat.le_of_ble_eq_true rfl⟩ (fun x18 h H locs S w => ?_)
    refine W.cs (cells' := 0) (slots' := 0) rfl rfl ?_
    refine lv_iconst (v := (1 : Int32)) C.1.1 C.1.2.1 dX12_deleteNote_22 (by decide) ?_
    refine lv_isub C.1.1 C.1.2.1 dX12_deleteNote_23 ?_
    refine ql_SI (As := [.int xp2, .int (0 : Int32), .int (x18 - (1 : Int32))]) (rest := [.ref a0]) C S htab hlocks hl qy_X12_in qi_X12_in gw_1735 (qm_X12_in l hl9 D _ xp2 (0 : Int32) (x18 - (1 : Int32)) _ _ w) rfl ⟨Nat.le_of_ble_eq_true rfl, Nat.le_of_ble_eq_true rfl⟩ ⟨rfl, rfl⟩ (by exact Nat.le_of_ble_eq_true rfl) rfl dX12_deleteNote_24 ⟨Nat.le_of_ble_eq_true rfl, Nat.le_of_ble_eq_true rfl⟩ ⟨Nat.le_of_ble_eq_true rfl, Nat.le_of_ble_eq_true rfl⟩ (fun x20 h H locs S w => ?_)
    refine W.cs (cells' := 0) (slots' := 0) rfl rfl ?_
    refine lv_if_ne (tgt := 34) C.1.1 C.1.2.1 dX12_deleteNote_27 (by decide) (fun c9 => ?_) (fun c9 => ?_)
    · replace w := ql_ifn w c9
      refine ql_aload_n (r := (some a0)) C dX12_deleteNote_34 rfl (lv_at hl 1 rfl) ?_
      refine lv_iload_n C.1.1 C.1.2.1 dX12_deleteNote_35 rfl (lv_at hl 0 rfl) ?_
      refine ql_VI (As := [.int x16]) (rest := [.ref a0]) C S htab hlocks hl qy_X12_isClosed qi_X12_isClosed qs_X12_isClosed gw_1784 (ci := 13) rfl w (fun b w => qm_X12_isClosed l hl9 D _ b x16 _ _ w) rfl ⟨Nat.le_of_ble_eq_true rfl, Nat.le_of_ble_eq_true rfl⟩ ⟨rfl, rfl⟩ (by exact Nat.le_of_ble_eq_true rfl) (fun b e9 => by cases e9; rfl) dX12_deleteNote_36 ⟨Nat.le_of_ble_eq_true rfl, Nat.le_of_ble_eq_true rfl⟩ ⟨Nat.le_of_ble_eq_true rfl, Nat.le_of_ble_eq_true rfl⟩ (fun x21 h H locs S w => ?_)
      refine W.cs (cells' := 0) (slots' := 0) rfl rfl ?_
      refine lv_if_eq (tgt := 46) C.1.1 C.1.2.1 dX12_deleteNote_39 (by decide) (fun c9 => ?_) (fun c9 => ?_)
      · replace w := ql_if w c9
        refine ql_aload_n (r := (some a0)) C dX12_deleteNote_46 rfl (lv_at hl 1 rfl) ?_
        refine lv_iload_n C.1.1 C.1.2.1 dX12_deleteNote_47 rfl (lv_at hl 0 rfl) ?_
        refine ql_VI (As := [.int x16]) (rest := [.ref a0]) C S htab hlocks hl qy_X12_long0 qi_X12_long0 qs_X12_long0 gw_1776 (ci := 13) rfl w (fun b w => qm_X12_long0 l hl9 D _ b x16 _ _ w) rfl ⟨Nat.le_of_ble_eq_true rfl, Nat.le_of_ble_eq_true rfl⟩ ⟨rfl, rfl⟩ (by exact Nat.le_of_ble_eq_true rfl) (fun b e9 => by cases e9; rfl) dX12_deleteNote_48 ⟨Nat.le_of_ble_eq_true rfl, Nat.le_of_ble_eq_true rfl⟩ ⟨Nat.le_of_ble_eq_true rfl, Nat.le_of_ble_eq_true rfl⟩ (fun x23 h H locs S w => ?_)
        refine W.cs (cells' := 0) (slots' := 0) rfl rfl ?_
        refine lv_iconst (v := (1 : Int32)) C.1.1 C.1.2.1 dX12_deleteNote_51 (by decide) ?_
        refine lv_icmp_ne (tgt := 59) C.1.1 C.1.2.1 dX12_deleteNote_52 (by decide) (fun c9 => ?_) (fun c9 => ?_)
        · replace w := ql_ifn w c9
          refine lv_iconst (v := (0 : Int32)) C.1.1 C.1.2.1 dX12_deleteNote_59 (by decide) ?_
          exact hB60 xp2 x16 (some a0) (0 : Int32) _ _ _ _ S (lv_sub hl [1, 3, 0] rfl) w
        · replace w := ql_if w c9
          refine lv_iconst (v := (4 : Int32)) C.1.1 C.1.2.1 dX12_deleteNote_55 (by decide) ?_
          refine lv_goto (tgt := 60) C.1.1 C.1.2.1 dX12_deleteNote_56 (by decide) ?_
          exact hB60 xp2 x16 (some a0) (4 : Int32) _ _ _ _ S (lv_sub hl [1, 3, 0] rfl) w
      · replace w := ql_ifn w c9
        refine lv_iconst (v := (3 : Int32)) C.1.1 C.1.2.1 dX12_deleteNote_42 (by decide) ?_
        refine lv_goto (tgt := 60) C.1.1 C.1.2.1 dX12_deleteNote_43 (by decide) ?_
        exact hB60 xp2 x16 (some a0) (3 : Int32) _ _ _ _ S (lv_sub hl [1, 3, 0] rfl) w
    · replace w := ql_if w c9
      refine lv_iconst (v := (2 : Int32)) C.1.1 C.1.2.1 dX12_deleteNote_30 (by decide) ?_
      refine lv_goto (tgt := 60) C.1.1 C.1.2.1 dX12_deleteNote_31 (by decide) ?_
      exact hB60 xp2 x16 (some a0) (2 : Int32) _ _ _ _ S (lv_sub hl [1, 3, 0] rfl) w
  · replace w := ql_ifn w c9
    refine lv_iconst (v := (1 : Int32)) C.1.1 C.1.2.1 dX12_deleteNote_11 (by decide) ?_
    refine lv_goto (tgt := 60) C.1.1 C.1.2.1 dX12_deleteNote_12 (by decide) ?_
    exact hB60 xp2 x16 (some a0) (1 : Int32) _ _ _ _ S (lv_sub hl [1, 3, 0] rfl) w
def qw_X12_setSunset_56 (a0 : Nat) (Q : Int32 → ql_H → Prop) (xl2 : Int32) (xl3 : Int32) (rs0 : Option Nat) (xs1 : Int32) (h : ql_H) : Prop :=
ql_rv h rs0 13 fun b1 => qw_X12_fails b1 xs1 h (fun x1 h =>
if x1 = 0 then (ql_gR h (some a0) 13 0 fun r3 =>
ql_rv h (some a0) 13 fun b3 => qw_X12_keeps b3 r3 h (fun h =>
ql_rv h (some a0) 13 fun b4 => qw_X12_lays b4 xl3 (3 : Int32) xl2 h (fun h =>
ql_gR h (some a0) 13 0 fun r6 =>
ql_lI h r6 0 (2 : Int32) fun x7 =>
Q (xl2 - x7) h))) else (Q (0 : Int32) h))
def qw_X12_setSunset_39 (a0 : Nat) (Q : Int32 → ql_H → Prop) (xl2 : Int32) (xl3 : Int32) (rs0 : Option Nat) (h : ql_H) : Prop :=
qw_X12_setSunset_56 a0 Q xl2 xl3 rs0 (2 : Int32) h
def qw_X12_setSunset (a0 : Nat) (xp1 : Int32) (xp2 : Int32) (h : ql_H) (Q : Int32 → ql_H → Prop) : Prop :=
ql_rv h (some a0) 13 fun b8 => qw_X12_placeOf b8 xp1 h (fun x8 h =>
if 0 ≤ x8 then (ql_gR h (some a0) 13 0 fun r10 =>
ql_lI h r10 0 (2 : Int32) fun x11 =>
if xp2 < x11 then (qw_X12_setSunset_39 a0 Q xp2 x8 (some a0) h) else (ql_gR h (some a0) 13 0 fun r12 =>
ql_lI h r12 0 (2 : Int32) fun x13 =>
if (xp2 - x13) ≤ (9999 : Int32) then (ql_rv h (some a0) 13 fun b14 => qw_X12_isOver b14 x8 h (fun x14 h =>
if x14 = 0 then (qw_X12_setSunset_56 a0 Q xp2 x8 (some a0) (0 : Int32) h) else (qw_X12_setSunset_56 a0 Q xp2 x8 (some a0) (3 : Int32) h))) else (qw_X12_setSunset_39 a0 Q xp2 x8 (some a0) h))) else (qw_X12_setSunset_56 a0 Q xp2 x8 (some a0) (1 : Int32) h))
set_option maxHeartbeats 4000000 in
set_option maxRecDepth 100000 in
theorem qm_X12_setSunset (l : Launch) (hl9 : l.stackTraces = false) (D : ql_D) (h0 : ql_H) (a0 : Nat) (xp1 : Int32) (xp2 : Int32) (Q : Int32 → ql_H → Prop) (X : String → ql_H → Prop) (w : qw_X12_setSunset a0 xp1 xp2 h0 Q) : ql_M D l yX12_setSunset cX12_setSunset 4 (some .int) ({ frames := 6, cells := 0, slots := 0, locals := 110 } : Room) h0 [.ref a0, .int xp1, .int xp2] (ql_rI Q) X 0 0 := by
  refine ql_ofW (by decide) (Nat.le_of_ble_eq_true rfl) ?_
  intro p e s m below meth c ls C hr hlocks hnm htab S hl
  have hl : lv_has ls 4 [(0, .ref a0), (1, .int xp1), (2, .int xp2)] := hl
  have hB56 : ∀ (xl2 : Int32) (xl3 : Int32) (rs0 : Option Nat) (xs1 : Int32) (h : ql_H) (H : Heap) (locs : List Loc) (ls : Array Slot), ql_S D h0 s H locs h → lv_has ls 4 [(0, .ref a0), (2, .int xl2), (3, .int xl3)] → qw_X12_setSunset_56 a0 Q xl2 xl3 rs0 xs1 h → W p l e ({ frames := 6, cells := 0, slots := 0, locals := 110 } : Room) s m ([.ref a0, .int xp1, .int xp2] : List Value).toArray below meth c H locs 0 0 (vx_MQ below (ql_Q D h0 (ql_rI Q)) (ql_X D h0 X) ([.ref a0, .int xp1, .int xp2] : List Value).toArray s 0 0 (ql_A h0)) (F0 m 56 ls [.int xs1, va_rf rs0]) := by
    intro xl2 xl3 rs0 xs1 h H locs ls S hl w
    unfold qw_X12_setSunset_56 at w
    refine ql_VI (As := [.int xs1]) (rest := []) C S htab hlocks hl qy_X12_fails qi_X12_fails qs_X12_fails gw_1749 (ci := 13) rfl w (fun b w => qm_X12_fails l hl9 D _ b xs1 _ _ w) rfl ⟨Nat.le_of_ble_eq_true rfl, Nat.le_of_ble_eq_true rfl⟩ ⟨rfl, rfl⟩ (by exact Nat.le_of_ble_eq_true rfl) (fun b e9 => by cases e9; rfl) dX12_setSunset_56 ⟨Nat.le_of_ble_eq_true rfl, Nat.le_of_ble_eq_true rfl⟩ ⟨Nat.le_of_ble_eq_true rfl, Nat.le_of_ble_eq_true rfl⟩ (fun x1 h H locs S w => ?_)
    refine W.cs (cells' := 0) (slots' := 0) rfl rfl ?_
    refine lv_if_eq (tgt := 64) C.1.1 C.1.2.1 dX12_setSunset_59 (by decide) (fun c9 => ?_) (fun c9 => ?_)
    · replace w := ql_if w c9
      refine ql_aload_n (r := (some a0)) C dX12_setSunset_64 rfl (lv_at hl 0 rfl) ?_
      refine ql_aload_n (r := (some a0)) C dX12_setSunset_65 rfl (lv_at hl 0 rfl) ?_
      refine ql_getR C S qf_13_0 gw_1668 dX12_setSunset_66 w (fun r3 w => ?_)
      refine ql_VV (As := [va_rf r3]) (rest := []) C S htab hlocks hl qy_X12_keeps qi_X12_keeps qs_X12_keeps gw_1753 (ci := 13) rfl w (fun b w => qm_X12_keeps l hl9 D _ b r3 _ _ w) rfl ⟨Nat.le_of_ble_eq_true rfl, Nat.le_of_ble_eq_true rfl⟩ ⟨rfl, rfl⟩ (by exact Nat.le_of_ble_eq_true rfl) (fun b e9 => by cases e9; rfl) dX12_setSunset_69 ⟨Nat.le_of_ble_eq_true rfl, Nat.le_of_ble_eq_true rfl⟩ ⟨Nat.le_of_ble_eq_true rfl, Nat.le_of_ble_eq_true rfl⟩ (fun h H locs S w => ?_)
      refine W.cs (cells' := 0) (slots' := 0) rfl rfl ?_
      refine ql_aload_n (r := (some a0)) C dX12_setSunset_72 rfl (lv_at hl 0 rfl) ?_
      refine lv_iload_n C.1.1 C.1.2.1 dX12_setSunset_73 rfl (lv_at hl 2 rfl) ?_
      refine lv_iconst (v := (3 : Int32)) C.1.1 C.1.2.1 dX12_setSunset_74 (by decide) ?_
      refine lv_iload_n C.1.1 C.1.2.1 dX12_setSunset_75 rfl (lv_at hl 1 rfl) ?_
      refine ql_VV (As := [.int xl3, .int (3 : Int32), .int xl2]) (rest := []) C S htab hlocks hl qy_X12_lays qi_X12_lays qs_X12_lays gw_1760 (ci := 13) rfl w (fun b w => qm_X12_lays l hl9 D _ b xl3 (3 : Int32) xl2 _ _ w) rfl ⟨Nat.le_of_ble_eq_true rfl, Nat.le_of_ble_eq_true rfl⟩ ⟨rfl, rfl⟩ (by exact Nat.le_of_ble_eq_true rfl) (fun b e9 => by cases e9; rfl) dX12_setSunset_76 ⟨Nat.le_of_ble_eq_true rfl, Nat.le_of_ble_eq_true rfl⟩ ⟨Nat.le_of_ble_eq_true rfl, Nat.le_of_ble_eq_true rfl⟩ (fun h H locs S w => ?_)
      refine W.cs (cells' := 0) (slots' := 0) rfl rfl ?_
      refine lv_iload_n C.1.1 C.1.2.1 dX12_setSunset_79 rfl (lv_at hl 1 rfl) ?_
      refine ql_aload_n (r := (some a0)) C dX12_setSunset_80 rfl (lv_at hl 0 rfl) ?_
      refine ql_getR C S qf_13_0 gw_1668 dX12_setSunset_81 w (fun r6 w => ?_)
      refine lv_iconst (v := (2 : Int32)) C.1.1 C.1.2.1 dX12_setSunset_84 (by decide) ?_
      refine ql_iald C S dX12_setSunset_85 w (fun x7 w => ?_)
      refine lv_isub C.1.1 C.1.2.1 dX12_setSunset_86 ?_
      exact ql_iret C S hr hlocks dX12_setSunset_87 ⟨Nat.le_of_ble_eq_true rfl, Nat.le_of_ble_eq_true rfl⟩ w
    · replace w := ql_ifn w c9
      refine lv_iconst (v := (0 : Int32)) C.1.1 C.1.2.1 dX12_setSunset_62 (by decide) ?_
      exact ql_iret C S hr hlocks dX12_setSunset_63 ⟨Nat.le_of_ble_eq_true rfl, Nat.le_of_ble_eq_true rfl⟩ w
  have hB39 : ∀ (xl2 : Int32) (xl3 : Int32) (rs0 : Option Nat) (h : ql_H) (H : Heap) (locs : List Loc) (ls : Array Slot), ql_S D h0 s H locs h → lv_has ls 4 [(0, .ref a0), (2, .int xl2), (3, .int xl3)] → qw_X12_setSunset_39 a0 Q xl2 xl3 rs0 h → W p l e ({ frames := 6, cells := 0, slots := 0, locals := 110 } : Room) s m ([.ref a0, .int xp1, .int xp2] : List Value).toArray below meth c H locs 0 0 (vx_MQ below (ql_Q D h0 (ql_rI Q)) (ql_X D h0 X) ([.ref a0, .int xp1, .int xp2] : List Value).toArray s 0 0 (ql_A h0)) (F0 m 39 ls [va_rf rs0]) := by
    intro xl2 xl3 rs0 h H locs ls S hl w
    unfold qw_X12_setSunset_39 at w
    refine lv_iconst (v := (2 : Int32)) C.1.1 C.1.2.1 dX12_setSunset_39 (by decide) ?_
    refine lv_goto (tgt := 56) C.1.1 C.1.2.1 dX12_setSunset_40 (by decide) ?_
    exact hB56 xl2 xl3 rs0 (2 : Int32) _ _ _ _ S (lv_sub hl [0, 1, 2] rfl) w
  unfold qw_X12_setSunset at w
  refine ql_aload_n (r := (some a0)) C dX12_setSunset_0 rfl (lv_at hl 0 rfl) ?_
  refine lv_iload_n C.1.1 C.1.2.1 dX12_setSunset_1 rfl (lv_at hl 1 rfl) ?_
  refine ql_VI (As := [.int xp1]) (rest := []) C S htab hlocks hl qy_X12_placeOf qi_X12_placeOf qs_X12_placeOf gw_1772 (ci := 13) rfl w (fun b w => qm_X12_placeOf l hl9 D _ b xp1 _ _ w) rfl ⟨Nat.le_of_ble_eq_true rfl, Nat.le_of_ble_eq_true rfl⟩ ⟨rfl, rfl⟩ (by exact Nat.le_of_ble_eq_true rfl) (fun b e9 => by cases e9; rfl) dX12_setSunset_2 ⟨Nat.le_of_ble_eq_true rfl, Nat.le_of_ble_eq_true rfl⟩ ⟨Nat.le_of_ble_eq_true rfl, Nat.le_of_ble_eq_true rfl⟩ (fun x8 h H locs S w => ?_)
  refine W.cs (cells' := 0) (slots' := 0) rfl rfl ?_
  refine lv_istore_n (lv' := [(3, .int x8), (0, .ref a0), (1, .int xp1), (2, .int xp2)]) C.1.1 C.1.2.1 dX12_setSunset_5 rfl hl (by decide) rfl (fun ls hl => ?_)
  refine ql_aload_n (r := (some a0)) C dX12_setSunset_6 rfl (lv_at hl 1 rfl) ?_
  refine lv_iload_n C.1.1 C.1.2.1 dX12_setSunset_7 rfl (lv_at hl 0 rfl) ?_
  refine lv_if_ge (tgt := 15) C.1.1 C.1.2.1 dX12_setSunset_8 (by decide) (fun c9 => ?_) (fun c9 => ?_)
  · replace w := ql_if w c9
    refine lv_iload_n C.1.1 C.1.2.1 dX12_setSunset_15 rfl (lv_at hl 3 rfl) ?_
    refine ql_aload_n (r := (some a0)) C dX12_setSunset_16 rfl (lv_at hl 1 rfl) ?_
    refine ql_getR C S qf_13_0 gw_1668 dX12_setSunset_17 w (fun r10 w => ?_)
    refine lv_iconst (v := (2 : Int32)) C.1.1 C.1.2.1 dX12_setSunset_20 (by decide) ?_
    refine ql_iald C S dX12_setSunset_21 w (fun x11 w => ?_)
    refine lv_icmp_lt (tgt := 39) C.1.1 C.1.2.1 dX12_setSunset_22 (by decide) (fun c9 => ?_) (fun c9 => ?_)
    · replace w := ql_if w c9
      exact hB39 xp2 x8 (some a0) _ _ _ _ S (lv_sub hl [1, 3, 0] rfl) w
    · replace w := ql_ifn w c9
      refine lv_iload_n C.1.1 C.1.2.1 dX12_setSunset_25 rfl (lv_at hl 3 rfl) ?_
      refine ql_aload_n (r := (some a0)) C dX12_setSunset_26 rfl (lv_at hl 1 rfl) ?_
      refine ql_getR C S qf_13_0 gw_1668 dX12_setSunset_27 w (fun r12 w => ?_)
      refine lv_iconst (v := (2 : Int32)) C.1.1 C.1.2.1 dX12_setSunset_30 (by decide) ?_
      refine ql_iald C S dX12_setSunset_31 w (fun x13 w => ?_)
      refine lv_isub C.1.1 C.1.2.1 dX12_setSunset_32 ?_
      refine lv_sipush (v := (9999 : Int32)) C.1.1 C.1.2.1 dX12_setSunset_33 (by decide) ?_
      refine lv_icmp_le (tgt := 43) C.1.1 C.1.2.1 dX12_setSunset_36 (by decide) (fun c9 => ?_) (fun c9 => ?_)
      · replace w := ql_if w c9
        refine ql_aload_n (r := (some a0)) C dX12_setSunset_43 rfl (lv_at hl 1 rfl) ?_
        refine lv_iload_n C.1.1 C.1.2.1 dX12_setSunset_44 rfl (lv_at hl 0 rfl) ?_
        refine ql_VI (As := [.int x8]) (rest := [.ref a0]) C S htab hlocks hl qy_X12_isOver qi_X12_isOver qs_X12_isOver gw_1812 (ci := 13) rfl w (fun b w => qm_X12_isOver l hl9 D _ b x8 _ _ w) rfl ⟨Nat.le_of_ble_eq_true rfl, Nat.le_of_ble_eq_true rfl⟩ ⟨rfl, rfl⟩ (by exact Nat.le_of_ble_eq_true rfl) (fun b e9 => by cases e9; rfl) dX12_setSunset_45 ⟨Nat.le_of_ble_eq_true rfl, Nat.le_of_ble_eq_true rfl⟩ ⟨Nat.le_of_ble_eq_true rfl, Nat.le_of_ble_eq_true rfl⟩ (fun x14 h H locs S w => ?_)
        refine W.cs (cells' := 0) (slots' := 0) rfl rfl ?_
        refine lv_if_eq (tgt := 55) C.1.1 C.1.2.1 dX12_setSunset_48 (by decide) (fun c9 => ?_) (fun c9 => ?_)
        · replace w := ql_if w c9
          refine lv_iconst (v := (0 : Int32)) C.1.1 C.1.2.1 dX12_setSunset_55 (by decide) ?_
          exact hB56 xp2 x8 (some a0) (0 : Int32) _ _ _ _ S (lv_sub hl [1, 3, 0] rfl) w
        · replace w := ql_ifn w c9
          refine lv_iconst (v := (3 : Int32)) C.1.1 C.1.2.1 dX12_setSunset_51 (by decide) ?_
          refine lv_goto (tgt := 56) C.1.1 C.1.2.1 dX12_setSunset_52 (by decide) ?_
          exact hB56 xp2 x8 (some a0) (3 : Int32) _ _ _ _ S (lv_sub hl [1, 3, 0] rfl) w
      · replace w := ql_ifn w c9
        exact hB39 xp2 x8 (some a0) _ _ _ _ S (lv_sub hl [1, 3, 0] rfl) w
  · replace w := ql_ifn w c9
    refine lv_iconst (v := (1 : Int32)) C.1.1 C.1.2.1 dX12_setSunset_11 (by decide) ?_
    refine lv_goto (tgt := 56) C.1.1 C.1.2.1 dX12_setSunset_12 (by decide) ?_
    exact hB56 xp2 x8 (some a0) (1 : Int32) _ _ _ _ S (lv_sub hl [1, 3, 0] rfl) w
def qw_X12_cited_2 (a0 : Nat) (Q : Int32 → ql_H → Prop) : Nat → Int32 → Int32 → Int32 → ql_H → Prop
  | 0, _, _, _, _ => False
  | n + 1, xl1, xl2, xl3, h =>
    ql_rv h (some a0) 13 fun b1 => qw_X12_of b1 xl1 (37 : Int32) h (fun x1 h =>
    if x1 ≤ xl3 then (Q (-1 : Int32) h) else (ql_rv h (some a0) 13 fun b3 => qw_X12_of b3 xl1 ((38 : Int32) + xl3) h (fun x3 h =>
    if x3 = xl2 then (Q xl3 h) else (qw_X12_cited_2 a0 Q n xl1 xl2 (xl3 + (1 : Int32)) h))))
def qw_X12_cited (a0 : Nat) (xp1 : Int32) (xp2 : Int32) (h : ql_H) (Q : Int32 → ql_H → Prop) : Prop :=
qw_X12_cited_2 a0 Q ql_FU xp1 xp2 (0 : Int32) h
set_option maxHeartbeats 4000000 in
set_option maxRecDepth 100000 in
theorem qm_X12_cited (l : Launch) (hl9 : l.stackTraces = false) (D : ql_D) (h0 : ql_H) (a0 : Nat) (xp1 : Int32) (xp2 : Int32) (Q : Int32 → ql_H → Prop) (X : String → ql_H → Prop) (w : qw_X12_cited a0 xp1 xp2 h0 Q) : ql_M D l yX12_cited cX12_cited 4 (some .int) ({ frames := 4, cells := 0, slots := 0, locals := 78 } : Room) h0 [.ref a0, .int xp1, .int xp2] (ql_rI Q) X 0 0 := by
  refine ql_ofW (by decide) (Nat.le_of_ble_eq_true rfl) ?_
  intro p e s m below meth c ls C hr hlocks hnm htab S hl
  have hl : lv_has ls 4 [(0, .ref a0), (1, .int xp1), (2, .int xp2)] := hl
  have hB2 : ∀ n : Nat, ∀ (xl1 : Int32) (xl2 : Int32) (xl3 : Int32) (h : ql_H) (H : Heap) (locs : List Loc) (ls : Array Slot), ql_S D h0 s H locs h → lv_has ls 4 [(0, .ref a0), (1, .int xl1), (2, .int xl2), (3, .int xl3)] → qw_X12_cited_2 a0 Q n xl1 xl2 xl3 h → W p l e ({ frames := 4, cells := 0, slots := 0, locals := 78 } : Room) s m ([.ref a0, .int xp1, .int xp2] : List Value).toArray below meth c H locs 0 0 (vx_MQ below (ql_Q D h0 (ql_rI Q)) (ql_X D h0 X) ([.ref a0, .int xp1, .int xp2] : List Value).toArray s 0 0 (ql_A h0)) (F0 m 2 ls []) := by
    intro n
    induction n with
    | zero => intro xl1 xl2 xl3 h H locs ls S hl w; rw [qw_X12_cited_2] at w; exact w.elim
    | succ n ih =>
      intro xl1 xl2 xl3 h H locs ls S hl w
      rw [qw_X12_cited_2] at w
      refine lv_iload_n C.1.1 C.1.2.1 dX12_cited_2 rfl (lv_at hl 3 rfl) ?_
      refine ql_aload_n (r := (some a0)) C dX12_cited_3 rfl (lv_at hl 0 rfl) ?_
      refine lv_iload_n C.1.1 C.1.2.1 dX12_cited_4 rfl (lv_at hl 1 rfl) ?_
      refine lv_bipush (v := (37 : Int32)) C.1.1 C.1.2.1 dX12_cited_5 (by decide) ?_
      refine ql_VI (As := [.int xl1, .int (37 : Int32)]) (rest := [.int xl3]) C S htab hlocks hl qy_X12_of qi_X12_of qs_X12_of gw_1745 (ci := 13) rfl w (fun b w => qm_X12_of l hl9 D _ b xl1 (37 : Int32) _ _ w) rfl ⟨Nat.le_of_ble_eq_true rfl, Nat.le_of_ble_eq_true rfl⟩ ⟨rfl, rfl⟩ (by exact Nat.le_of_ble_eq_true rfl) (fun b e9 => by cases e9; rfl) dX12_cited_7 ⟨Nat.le_of_ble_eq_true rfl, Nat.le_of_ble_eq_true rfl⟩ ⟨Nat.le_of_ble_eq_true rfl, Nat.le_of_ble_eq_true rfl⟩ (fun x1 h H locs S w => ?_)
      refine W.cs (cells' := 0) (slots' := 0) rfl rfl ?_
      refine lv_icmp_ge (tgt := 34) C.1.1 C.1.2.1 dX12_cited_10 (by decide) (fun c9 => ?_) (fun c9 => ?_)
      · replace w := ql_if w c9
        refine lv_iconst (v := (-1 : Int32)) C.1.1 C.1.2.1 dX12_cited_34 (by decide) ?_
        exact ql_iret C S hr hlocks dX12_cited_35 ⟨Nat.le_of_ble_eq_true rfl, Nat.le_of_ble_eq_true rfl⟩ w
      · replace w := ql_ifn w c9
        refine ql_aload_n (r := (some a0)) C dX12_cited_13 rfl (lv_at hl 0 rfl) ?_
        refine lv_iload_n C.1.1 C.1.2.1 dX12_cited_14 rfl (lv_at hl 1 rfl) ?_
        refine lv_bipush (v := (38 : Int32)) C.1.1 C.1.2.1 dX12_cited_15 (by decide) ?_
        refine lv_iload_n C.1.1 C.1.2.1 dX12_cited_17 rfl (lv_at hl 3 rfl) ?_
        refine lv_iadd C.1.1 C.1.2.1 dX12_cited_18 ?_
        refine ql_VI (As := [.int xl1, .int ((38 : Int32) + xl3)]) (rest := []) C S htab hlocks hl qy_X12_of qi_X12_of qs_X12_of gw_1745 (ci := 13) rfl w (fun b w => qm_X12_of l hl9 D _ b xl1 ((38 : Int32) + xl3) _ _ w) rfl ⟨Nat.le_of_ble_eq_true rfl, Nat.le_of_ble_eq_true rfl⟩ ⟨rfl, rfl⟩ (by exact Nat.le_of_ble_eq_true rfl) (fun b e9 => by cases e9; rfl) dX12_cited_19 ⟨Nat.le_of_ble_eq_true rfl, Nat.le_of_ble_eq_true rfl⟩ ⟨Nat.le_of_ble_eq_true rfl, Nat.le_of_ble_eq_true rfl⟩ (fun x3 h H locs S w => ?_)
        refine W.cs (cells' := 0) (slots' := 0) rfl rfl ?_
        refine lv_iload_n C.1.1 C.1.2.1 dX12_cited_22 rfl (lv_at hl 2 rfl) ?_
        refine lv_icmp_ne (tgt := 28) C.1.1 C.1.2.1 dX12_cited_23 (by decide) (fun c9 => ?_) (fun c9 => ?_)
        · replace w := ql_ifn w c9
          refine lv_iinc (v := (xl3 + (1 : Int32))) (lv' := [(3, .int (xl3 + (1 : Int32))), (0, .ref a0), (1, .int xl1), (2, .int xl2)]) C.1.1 C.1.2.1 dX12_cited_28 hl (k := 3) rfl rfl (by decide) rfl (fun ls hl => ?_)
          refine lv_goto (tgt := 2) C.1.1 C.1.2.1 dX12_cited_31 (by decide) ?_
          exact ih xl1 xl2 (xl3 + (1 : Int32)) _ _ _ _ S (lv_sub hl [1, 2, 3, 0] rfl) w
        · replace w := ql_if w c9
          refine lv_iload_n C.1.1 C.1.2.1 dX12_cited_26 rfl (lv_at hl 3 rfl) ?_
          exact ql_iret C S hr hlocks dX12_cited_27 ⟨Nat.le_of_ble_eq_true rfl, Nat.le_of_ble_eq_true rfl⟩ w
  unfold qw_X12_cited at w
  refine lv_iconst (v := (0 : Int32)) C.1.1 C.1.2.1 dX12_cited_0 (by decide) ?_
  refine lv_istore_n (lv' := [(3, .int (0 : Int32)), (0, .ref a0), (1, .int xp1), (2, .int xp2)]) C.1.1 C.1.2.1 dX12_cited_1 rfl hl (by decide) rfl (fun ls hl => ?_)
  exact hB2 ql_FU xp1 xp2 (0 : Int32) _ _ _ _ S (lv_sub hl [1, 2, 3, 0] rfl) w
def qw_X12_cite_57 (a0 : Nat) (Q : Int32 → ql_H → Prop) (xl2 : Int32) (xl3 : Int32) (rs0 : Option Nat) (xs1 : Int32) (h : ql_H) : Prop :=
ql_rv h rs0 13 fun b1 => qw_X12_fails b1 xs1 h (fun x1 h =>
if x1 = 0 then (ql_gR h (some a0) 13 0 fun r3 =>
ql_rv h (some a0) 13 fun b3 => qw_X12_keeps b3 r3 h (fun h =>
ql_rv h (some a0) 13 fun b5 => qw_X12_of b5 xl3 (37 : Int32) h (fun x5 h =>
ql_rv h (some a0) 13 fun b6 => qw_X12_lays b6 xl3 ((38 : Int32) + x5) xl2 h (fun h =>
ql_rv h (some a0) 13 fun b7 => qw_X12_lays b7 xl3 (37 : Int32) (x5 + (1 : Int32)) h (fun h =>
Q (x5 + (1 : Int32)) h))))) else (Q (0 : Int32) h))
def qw_X12_cite_19 (a0 : Nat) (Q : Int32 → ql_H → Prop) (xl2 : Int32) (xl3 : Int32) (rs0 : Option Nat) (h : ql_H) : Prop :=
qw_X12_cite_57 a0 Q xl2 xl3 rs0 (1 : Int32) h
def qw_X12_cite_52 (a0 : Nat) (Q : Int32 → ql_H → Prop) (xl2 : Int32) (xl3 : Int32) (rs0 : Option Nat) (h : ql_H) : Prop :=
qw_X12_cite_57 a0 Q xl2 xl3 rs0 (3 : Int32) h
def qw_X12_cite (a0 : Nat) (xp1 : Int32) (xp2 : Int32) (h : ql_H) (Q : Int32 → ql_H → Prop) : Prop :=
ql_rv h (some a0) 13 fun b9 => qw_X12_placeOf b9 xp1 h (fun x9 h =>
if x9 < 0 then (qw_X12_cite_19 a0 Q xp2 x9 (some a0) h) else (ql_rv h (some a0) 13 fun b11 => qw_X12_placeOf b11 xp2 h (fun x11 h =>
if 0 ≤ x11 then (if xp1 = xp2 then (qw_X12_cite_57 a0 Q xp2 x9 (some a0) (2 : Int32) h) else (ql_rv h (some a0) 13 fun b13 => qw_X12_cited b13 x9 xp2 h (fun x13 h =>
if 0 ≤ x13 then (qw_X12_cite_52 a0 Q xp2 x9 (some a0) h) else (ql_rv h (some a0) 13 fun b15 => qw_X12_of b15 x9 (37 : Int32) h (fun x15 h =>
if x15 = (4 : Int32) then (qw_X12_cite_52 a0 Q xp2 x9 (some a0) h) else (qw_X12_cite_57 a0 Q xp2 x9 (some a0) (0 : Int32) h)))))) else (qw_X12_cite_19 a0 Q xp2 x9 (some a0) h))))
set_option maxHeartbeats 4000000 in
set_option maxRecDepth 100000 in
theorem qm_X12_cite (l : Launch) (hl9 : l.stackTraces = false) (D : ql_D) (h0 : ql_H) (a0 : Nat) (xp1 : Int32) (xp2 : Int32) (Q : Int32 → ql_H → Prop) (X : String → ql_H → Prop) (w : qw_X12_cite a0 xp1 xp2 h0 Q) : ql_M D l yX12_cite cX12_cite 5 (some .int) ({ frames := 6, cells := 0, slots := 0, locals := 110 } : Room) h0 [.ref a0, .int xp1, .int xp2] (ql_rI Q) X 0 0 := by
  refine ql_ofW (by decide) (Nat.le_of_ble_eq_true rfl) ?_
  intro p e s m below meth c ls C hr hlocks hnm htab S hl
  have hl : lv_has ls 5 [(0, .ref a0), (1, .int xp1), (2, .int xp2)] := hl
  have hB57 : ∀ (xl2 : Int32) (xl3 : Int32) (rs0 : Option Nat) (xs1 : Int32) (h : ql_H) (H : Heap) (locs : List Loc) (ls : Array Slot), ql_S D h0 s H locs h → lv_has ls 5 [(0, .ref a0), (2, .int xl2), (3, .int xl3)] → qw_X12_cite_57 a0 Q xl2 xl3 rs0 xs1 h → W p l e ({ frames := 6, cells := 0, slots := 0, locals := 110 } : Room) s m ([.ref a0, .int xp1, .int xp2] : List Value).toArray below meth c H locs 0 0 (vx_MQ below (ql_Q D h0 (ql_rI Q)) (ql_X D h0 X) ([.ref a0, .int xp1, .int xp2] : List Value).toArray s 0 0 (ql_A h0)) (F0 m 57 ls [.int xs1, va_rf rs0]) := by
    intro xl2 xl3 rs0 xs1 h H locs ls S hl w
    unfold qw_X12_cite_57 at w
    refine ql_VI (As := [.int xs1]) (rest := []) C S htab hlocks hl qy_X12_fails qi_X12_fails qs_X12_fails gw_1749 (ci := 13) rfl w (fun b w => qm_X12_fails l hl9 D _ b xs1 _ _ w) rfl ⟨Nat.le_of_ble_eq_true rfl, Nat.le_of_ble_eq_true rfl⟩ ⟨rfl, rfl⟩ (by exact Nat.le_of_ble_eq_true rfl) (fun b e9 => by cases e9; rfl) dX12_cite_57 ⟨Nat.le_of_ble_eq_true rfl, Nat.le_of_ble_eq_true rfl⟩ ⟨Nat.le_of_ble_eq_true rfl, Nat.le_of_ble_eq_true rfl⟩ (fun x1 h H locs S w => ?_)
    refine W.cs (cells' := 0) (slots' := 0) rfl rfl ?_
    refine lv_if_eq (tgt := 65) C.1.1 C.1.2.1 dX12_cite_60 (by decide) (fun c9 => ?_) (fun c9 => ?_)
    · replace w := ql_if w c9
      refine ql_aload_n (r := (some a0)) C dX12_cite_65 rfl (lv_at hl 0 rfl) ?_
      refine ql_aload_n (r := (some a0)) C dX12_cite_66 rfl (lv_at hl 0 rfl) ?_
      refine ql_getR C S qf_13_0 gw_1668 dX12_cite_67 w (fun r3 w => ?_)
      refine ql_VV (As := [va_rf r3]) (rest := []) C S htab hlocks hl qy_X12_keeps qi_X12_keeps qs_X12_keeps gw_1753 (ci := 13) rfl w (fun b w => qm_X12_keeps l hl9 D _ b r3 _ _ w) rfl ⟨Nat.le_of_ble_eq_true rfl, Nat.le_of_ble_eq_true rfl⟩ ⟨rfl, rfl⟩ (by exact Nat.le_of_ble_eq_true rfl) (fun b e9 => by cases e9; rfl) dX12_cite_70 ⟨Nat.le_of_ble_eq_true rfl, Nat.le_of_ble_eq_true rfl⟩ ⟨Nat.le_of_ble_eq_true rfl, Nat.le_of_ble_eq_true rfl⟩ (fun h H locs S w => ?_)
      refine W.cs (cells' := 0) (slots' := 0) rfl rfl ?_
      refine ql_aload_n (r := (some a0)) C dX12_cite_73 rfl (lv_at hl 0 rfl) ?_
      refine lv_iload_n C.1.1 C.1.2.1 dX12_cite_74 rfl (lv_at hl 2 rfl) ?_
      refine lv_bipush (v := (37 : Int32)) C.1.1 C.1.2.1 dX12_cite_75 (by decide) ?_
      refine ql_VI (As := [.int xl3, .int (37 : Int32)]) (rest := []) C S htab hlocks hl qy_X12_of qi_X12_of qs_X12_of gw_1745 (ci := 13) rfl w (fun b w => qm_X12_of l hl9 D _ b xl3 (37 : Int32) _ _ w) rfl ⟨Nat.le_of_ble_eq_true rfl, Nat.le_of_ble_eq_true rfl⟩ ⟨rfl, rfl⟩ (by exact Nat.le_of_ble_eq_true rfl) (fun b e9 => by cases e9; rfl) dX12_cite_77 ⟨Nat.le_of_ble_eq_true rfl, Nat.le_of_ble_eq_true rfl⟩ ⟨Nat.le_of_ble_eq_true rfl, Nat.le_of_ble_eq_true rfl⟩ (fun x5 h H locs S w => ?_)
      refine W.cs (cells' := 0) (slots' := 0) rfl rfl ?_
      refine lv_istore (lv' := [(4, .int x5), (0, .ref a0), (2, .int xl2), (3, .int xl3)]) C.1.1 C.1.2.1 dX12_cite_80 hl (by decide) rfl (fun ls hl => ?_)
      refine ql_aload_n (r := (some a0)) C dX12_cite_82 rfl (lv_at hl 1 rfl) ?_
      refine lv_iload_n C.1.1 C.1.2.1 dX12_cite_83 rfl (lv_at hl 3 rfl) ?_
      refine lv_bipush (v := (38 : Int32)) C.1.1 C.1.2.1 dX12_cite_84 (by decide) ?_
      refine lv_iload C.1.1 C.1.2.1 dX12_cite_86 (lv_at hl 0 rfl) ?_
      refine lv_iadd C.1.1 C.1.2.1 dX12_cite_88 ?_
      refine lv_iload_n C.1.1 C.1.2.1 dX12_cite_89 rfl (lv_at hl 2 rfl) ?_
      refine ql_VV (As := [.int xl3, .int ((38 : Int32) + x5), .int xl2]) (rest := []) C S htab hlocks hl qy_X12_lays qi_X12_lays qs_X12_lays gw_1760 (ci := 13) rfl w (fun b w => qm_X12_lays l hl9 D _ b xl3 ((38 : Int32) + x5) xl2 _ _ w) rfl ⟨Nat.le_of_ble_eq_true rfl, Nat.le_of_ble_eq_true rfl⟩ ⟨rfl, rfl⟩ (by exact Nat.le_of_ble_eq_true rfl) (fun b e9 => by cases e9; rfl) dX12_cite_90 ⟨Nat.le_of_ble_eq_true rfl, Nat.le_of_ble_eq_true rfl⟩ ⟨Nat.le_of_ble_eq_true rfl, Nat.le_of_ble_eq_true rfl⟩ (fun h H locs S w => ?_)
      refine W.cs (cells' := 0) (slots' := 0) rfl rfl ?_
      refine ql_aload_n (r := (some a0)) C dX12_cite_93 rfl (lv_at hl 1 rfl) ?_
      refine lv_iload_n C.1.1 C.1.2.1 dX12_cite_94 rfl (lv_at hl 3 rfl) ?_
      refine lv_bipush (v := (37 : Int32)) C.1.1 C.1.2.1 dX12_cite_95 (by decide) ?_
      refine lv_iload C.1.1 C.1.2.1 dX12_cite_97 (lv_at hl 0 rfl) ?_
      refine lv_iconst (v := (1 : Int32)) C.1.1 C.1.2.1 dX12_cite_99 (by decide) ?_
      refine lv_iadd C.1.1 C.1.2.1 dX12_cite_100 ?_
      refine ql_VV (As := [.int xl3, .int (37 : Int32), .int (x5 + (1 : Int32))]) (rest := []) C S htab hlocks hl qy_X12_lays qi_X12_lays qs_X12_lays gw_1760 (ci := 13) rfl w (fun b w => qm_X12_lays l hl9 D _ b xl3 (37 : Int32) (x5 + (1 : Int32)) _ _ w) rfl ⟨Nat.le_of_ble_eq_true rfl, Nat.le_of_ble_eq_true rfl⟩ ⟨rfl, rfl⟩ (by exact Nat.le_of_ble_eq_true rfl) (fun b e9 => by cases e9; rfl) dX12_cite_101 ⟨Nat.le_of_ble_eq_true rfl, Nat.le_of_ble_eq_true rfl⟩ ⟨Nat.le_of_ble_eq_true rfl, Nat.le_of_ble_eq_true rfl⟩ (fun h H locs S w => ?_)
      refine W.cs (cells' := 0) (slots' := 0) rfl rfl ?_
      refine lv_iload C.1.1 C.1.2.1 dX12_cite_104 (lv_at hl 0 rfl) ?_
      refine lv_iconst (v := (1 : Int32)) C.1.1 C.1.2.1 dX12_cite_106 (by decide) ?_
      refine lv_iadd C.1.1 C.1.2.1 dX12_cite_107 ?_
      exact ql_iret C S hr hlocks dX12_cite_108 ⟨Nat.le_of_ble_eq_true rfl, Nat.le_of_ble_eq_true rfl⟩ w
    · replace w := ql_ifn w c9
      refine lv_iconst (v := (0 : Int32)) C.1.1 C.1.2.1 dX12_cite_63 (by decide) ?_
      exact ql_iret C S hr hlocks dX12_cite_64 ⟨Nat.le_of_ble_eq_true rfl, Nat.le_of_ble_eq_true rfl⟩ w
  have hB19 : ∀ (xl2 : Int32) (xl3 : Int32) (rs0 : Option Nat) (h : ql_H) (H : Heap) (locs : List Loc) (ls : Array Slot), ql_S D h0 s H locs h → lv_has ls 5 [(0, .ref a0), (2, .int xl2), (3, .int xl3)] → qw_X12_cite_19 a0 Q xl2 xl3 rs0 h → W p l e ({ frames := 6, cells := 0, slots := 0, locals := 110 } : Room) s m ([.ref a0, .int xp1, .int xp2] : List Value).toArray below meth c H locs 0 0 (vx_MQ below (ql_Q D h0 (ql_rI Q)) (ql_X D h0 X) ([.ref a0, .int xp1, .int xp2] : List Value).toArray s 0 0 (ql_A h0)) (F0 m 19 ls [va_rf rs0]) := by
    intro xl2 xl3 rs0 h H locs ls S hl w
    unfold qw_X12_cite_19 at w
    refine lv_iconst (v := (1 : Int32)) C.1.1 C.1.2.1 dX12_cite_19 (by decide) ?_
    refine lv_goto (tgt := 57) C.1.1 C.1.2.1 dX12_cite_20 (by decide) ?_
    exact hB57 xl2 xl3 rs0 (1 : Int32) _ _ _ _ S (lv_sub hl [0, 1, 2] rfl) w
  have hB52 : ∀ (xl2 : Int32) (xl3 : Int32) (rs0 : Option Nat) (h : ql_H) (H : Heap) (locs : List Loc) (ls : Array Slot), ql_S D h0 s H locs h → lv_has ls 5 [(0, .ref a0), (2, .int xl2), (3, .int xl3)] → qw_X12_cite_52 a0 Q xl2 xl3 rs0 h → W p l e ({ frames := 6, cells := 0, slots := 0, locals := 110 } : Room) s m ([.ref a0, .int xp1, .int xp2] : List Value).toArray below meth c H locs 0 0 (vx_MQ below (ql_Q D h0 (ql_rI Q)) (ql_X D h0 X) ([.ref a0, .int xp1, .int xp2] : List Value).toArray s 0 0 (ql_A h0)) (F0 m 52 ls [va_rf rs0]) := by
    intro xl2 xl3 rs0 h H locs ls S hl w
    unfold qw_X12_cite_52 at w
    refine lv_iconst (v := (3 : Int32)) C.1.1 C.1.2.1 dX12_cite_52 (by decide) ?_
    refine lv_goto (tgt := 57) C.1.1 C.1.2.1 dX12_cite_53 (by decide) ?_
    exact hB57 xl2 xl3 rs0 (3 : Int32) _ _ _ _ S (lv_sub hl [0, 1, 2] rfl) w
  unfold qw_X12_cite at w
  refine ql_aload_n (r := (some a0)) C dX12_cite_0 rfl (lv_at hl 0 rfl) ?_
  refine lv_iload_n C.1.1 C.1.2.1 dX12_cite_1 rfl (lv_at hl 1 rfl) ?_
  refine ql_VI (As := [.int xp1]) (rest := []) C S htab hlocks hl qy_X12_placeOf qi_X12_placeOf qs_X12_placeOf gw_1772 (ci := 13) rfl w (fun b w => qm_X12_placeOf l hl9 D _ b xp1 _ _ w) rfl ⟨Nat.le_of_ble_eq_true rfl, Nat.le_of_ble_eq_true rfl⟩ ⟨rfl, rfl⟩ (by exact Nat.le_of_ble_eq_true rfl) (fun b e9 => by cases e9; rfl) dX12_cite_2 ⟨Nat.le_of_ble_eq_true rfl, Nat.le_of_ble_eq_true rfl⟩ ⟨Nat.le_of_ble_eq_true rfl, Nat.le_of_ble_eq_true rfl⟩ (fun x9 h H locs S w => ?_)
  refine W.cs (cells' := 0) (slots' := 0) rfl rfl ?_
  refine lv_istore_n (lv' := [(3, .int x9), (0, .ref a0), (1, .int xp1), (2, .int xp2)]) C.1.1 C.1.2.1 dX12_cite_5 rfl hl (by decide) rfl (fun ls hl => ?_)
  refine ql_aload_n (r := (some a0)) C dX12_cite_6 rfl (lv_at hl 1 rfl) ?_
  refine lv_iload_n C.1.1 C.1.2.1 dX12_cite_7 rfl (lv_at hl 0 rfl) ?_
  refine lv_if_lt (tgt := 19) C.1.1 C.1.2.1 dX12_cite_8 (by decide) (fun c9 => ?_) (fun c9 => ?_)
  · replace w := ql_if w c9
    exact hB19 xp2 x9 (some a0) _ _ _ _ S (lv_sub hl [1, 3, 0] rfl) w
  · replace w := ql_ifn w c9
    refine ql_aload_n (r := (some a0)) C dX12_cite_11 rfl (lv_at hl 1 rfl) ?_
    refine lv_iload_n C.1.1 C.1.2.1 dX12_cite_12 rfl (lv_at hl 3 rfl) ?_
    refine ql_VI (As := [.int xp2]) (rest := [.ref a0]) C S htab hlocks hl qy_X12_placeOf qi_X12_placeOf qs_X12_placeOf gw_1772 (ci := 13) rfl w (fun b w => qm_X12_placeOf l hl9 D _ b xp2 _ _ w) rfl ⟨Nat.le_of_ble_eq_true rfl, Nat.le_of_ble_eq_true rfl⟩ ⟨rfl, rfl⟩ (by exact Nat.le_of_ble_eq_true rfl) (fun b e9 => by cases e9; rfl) dX12_cite_13 ⟨Nat.le_of_ble_eq_true rfl, Nat.le_of_ble_eq_true rfl⟩ ⟨Nat.le_of_ble_eq_true rfl, Nat.le_of_ble_eq_true rfl⟩ (fun x11 h H locs S w => ?_)
    refine W.cs (cells' := 0) (slots' := 0) rfl rfl ?_
    refine lv_if_ge (tgt := 23) C.1.1 C.1.2.1 dX12_cite_16 (by decide) (fun c9 => ?_) (fun c9 => ?_)
    · replace w := ql_if w c9
      refine lv_iload_n C.1.1 C.1.2.1 dX12_cite_23 rfl (lv_at hl 2 rfl) ?_
      refine lv_iload_n C.1.1 C.1.2.1 dX12_cite_24 rfl (lv_at hl 3 rfl) ?_
      refine lv_icmp_ne (tgt := 32) C.1.1 C.1.2.1 dX12_cite_25 (by decide) (fun c9 => ?_) (fun c9 => ?_)
      · replace w := ql_ifn w c9
        refine ql_aload_n (r := (some a0)) C dX12_cite_32 rfl (lv_at hl 1 rfl) ?_
        refine lv_iload_n C.1.1 C.1.2.1 dX12_cite_33 rfl (lv_at hl 0 rfl) ?_
        refine lv_iload_n C.1.1 C.1.2.1 dX12_cite_34 rfl (lv_at hl 3 rfl) ?_
        refine ql_VI (As := [.int x9, .int xp2]) (rest := [.ref a0]) C S htab hlocks hl qy_X12_cited qi_X12_cited qs_X12_cited gw_1820 (ci := 13) rfl w (fun b w => qm_X12_cited l hl9 D _ b x9 xp2 _ _ w) rfl ⟨Nat.le_of_ble_eq_true rfl, Nat.le_of_ble_eq_true rfl⟩ ⟨rfl, rfl⟩ (by exact Nat.le_of_ble_eq_true rfl) (fun b e9 => by cases e9; rfl) dX12_cite_35 ⟨Nat.le_of_ble_eq_true rfl, Nat.le_of_ble_eq_true rfl⟩ ⟨Nat.le_of_ble_eq_true rfl, Nat.le_of_ble_eq_true rfl⟩ (fun x13 h H locs S w => ?_)
        refine W.cs (cells' := 0) (slots' := 0) rfl rfl ?_
        refine lv_if_ge (tgt := 52) C.1.1 C.1.2.1 dX12_cite_38 (by decide) (fun c9 => ?_) (fun c9 => ?_)
        · replace w := ql_if w c9
          exact hB52 xp2 x9 (some a0) _ _ _ _ S (lv_sub hl [1, 3, 0] rfl) w
        · replace w := ql_ifn w c9
          refine ql_aload_n (r := (some a0)) C dX12_cite_41 rfl (lv_at hl 1 rfl) ?_
          refine lv_iload_n C.1.1 C.1.2.1 dX12_cite_42 rfl (lv_at hl 0 rfl) ?_
          refine lv_bipush (v := (37 : Int32)) C.1.1 C.1.2.1 dX12_cite_43 (by decide) ?_
          refine ql_VI (As := [.int x9, .int (37 : Int32)]) (rest := [.ref a0]) C S htab hlocks hl qy_X12_of qi_X12_of qs_X12_of gw_1745 (ci := 13) rfl w (fun b w => qm_X12_of l hl9 D _ b x9 (37 : Int32) _ _ w) rfl ⟨Nat.le_of_ble_eq_true rfl, Nat.le_of_ble_eq_true rfl⟩ ⟨rfl, rfl⟩ (by exact Nat.le_of_ble_eq_true rfl) (fun b e9 => by cases e9; rfl) dX12_cite_45 ⟨Nat.le_of_ble_eq_true rfl, Nat.le_of_ble_eq_true rfl⟩ ⟨Nat.le_of_ble_eq_true rfl, Nat.le_of_ble_eq_true rfl⟩ (fun x15 h H locs S w => ?_)
          refine W.cs (cells' := 0) (slots' := 0) rfl rfl ?_
          refine lv_iconst (v := (4 : Int32)) C.1.1 C.1.2.1 dX12_cite_48 (by decide) ?_
          refine lv_icmp_ne (tgt := 56) C.1.1 C.1.2.1 dX12_cite_49 (by decide) (fun c9 => ?_) (fun c9 => ?_)
          · replace w := ql_ifn w c9
            refine lv_iconst (v := (0 : Int32)) C.1.1 C.1.2.1 dX12_cite_56 (by decide) ?_
            exact hB57 xp2 x9 (some a0) (0 : Int32) _ _ _ _ S (lv_sub hl [1, 3, 0] rfl) w
          · replace w := ql_if w c9
            exact hB52 xp2 x9 (some a0) _ _ _ _ S (lv_sub hl [1, 3, 0] rfl) w
      · replace w := ql_if w c9
        refine lv_iconst (v := (2 : Int32)) C.1.1 C.1.2.1 dX12_cite_28 (by decide) ?_
        refine lv_goto (tgt := 57) C.1.1 C.1.2.1 dX12_cite_29 (by decide) ?_
        exact hB57 xp2 x9 (some a0) (2 : Int32) _ _ _ _ S (lv_sub hl [1, 3, 0] rfl) w
    · replace w := ql_ifn w c9
      exact hB19 xp2 x9 (some a0) _ _ _ _ S (lv_sub hl [1, 3, 0] rfl) w
def qw_X12_dropsCite_11 (a0 : Nat) (Q : ql_H → Prop) : Nat → Int32 → Int32 → Int32 → ql_H → Prop
  | 0, _, _, _, _ => False
  | n + 1, xl1, xl3, xl4, h =>
    if xl3 ≤ (xl4 + (1 : Int32)) then (ql_rv h (some a0) 13 fun b0 => qw_X12_lays b0 xl1 (37 : Int32) (xl3 - (1 : Int32)) h (fun h =>
    Q h)) else (ql_rv h (some a0) 13 fun b2 => qw_X12_of b2 xl1 ((39 : Int32) + xl4) h (fun x2 h =>
    ql_rv h (some a0) 13 fun b3 => qw_X12_lays b3 xl1 ((38 : Int32) + xl4) x2 h (fun h =>
    qw_X12_dropsCite_11 a0 Q n xl1 xl3 (xl4 + (1 : Int32)) h)))
def qw_X12_dropsCite (a0 : Nat) (xp1 : Int32) (xp2 : Int32) (h : ql_H) (Q : ql_H → Prop) : Prop :=
ql_rv h (some a0) 13 fun b5 => qw_X12_of b5 xp1 (37 : Int32) h (fun x5 h =>
qw_X12_dropsCite_11 a0 Q ql_FU xp1 x5 xp2 h)
set_option maxHeartbeats 4000000 in
set_option maxRecDepth 100000 in
theorem qm_X12_dropsCite (l : Launch) (hl9 : l.stackTraces = false) (D : ql_D) (h0 : ql_H) (a0 : Nat) (xp1 : Int32) (xp2 : Int32) (Q : ql_H → Prop) (X : String → ql_H → Prop) (w : qw_X12_dropsCite a0 xp1 xp2 h0 Q) : ql_M D l yX12_dropsCite cX12_dropsCite 5 none ({ frames := 4, cells := 0, slots := 0, locals := 79 } : Room) h0 [.ref a0, .int xp1, .int xp2] (ql_rV Q) X 0 0 := by
  refine ql_ofW (by decide) (Nat.le_of_ble_eq_true rfl) ?_
  intro p e s m below meth c ls C hr hlocks hnm htab S hl
  have hl : lv_has ls 5 [(0, .ref a0), (1, .int xp1), (2, .int xp2)] := hl
  have hB11 : ∀ n : Nat, ∀ (xl1 : Int32) (xl3 : Int32) (xl4 : Int32) (h : ql_H) (H : Heap) (locs : List Loc) (ls : Array Slot), ql_S D h0 s H locs h → lv_has ls 5 [(0, .ref a0), (1, .int xl1), (3, .int xl3), (4, .int xl4)] → qw_X12_dropsCite_11 a0 Q n xl1 xl3 xl4 h → W p l e ({ frames := 4, cells := 0, slots := 0, locals := 79 } : Room) s m ([.ref a0, .int xp1, .int xp2] : List Value).toArray below meth c H locs 0 0 (vx_MQ below (ql_Q D h0 (ql_rV Q)) (ql_X D h0 X) ([.ref a0, .int xp1, .int xp2] : List Value).toArray s 0 0 (ql_A h0)) (F0 m 11 ls []) := by
    intro n
    induction n with
    | zero => intro xl1 xl3 xl4 h H locs ls S hl w; rw [qw_X12_dropsCite_11] at w; exact w.elim
    | succ n ih =>
      intro xl1 xl3 xl4 h H locs ls S hl w
      rw [qw_X12_dropsCite_11] at w
      refine lv_iload C.1.1 C.1.2.1 dX12_dropsCite_11 (lv_at hl 3 rfl) ?_
      refine lv_iconst (v := (1 : Int32)) C.1.1 C.1.2.1 dX12_dropsCite_13 (by decide) ?_
      refine lv_iadd C.1.1 C.1.2.1 dX12_dropsCite_14 ?_
      refine lv_iload_n C.1.1 C.1.2.1 dX12_dropsCite_15 rfl (lv_at hl 2 rfl) ?_
      refine lv_icmp_ge (tgt := 45) C.1.1 C.1.2.1 dX12_dropsCite_16 (by decide) (fun c9 => ?_) (fun c9 => ?_)
      · replace w := ql_if w c9
        refine ql_aload_n (r := (some a0)) C dX12_dropsCite_45 rfl (lv_at hl 0 rfl) ?_
        refine lv_iload_n C.1.1 C.1.2.1 dX12_dropsCite_46 rfl (lv_at hl 1 rfl) ?_
        refine lv_bipush (v := (37 : Int32)) C.1.1 C.1.2.1 dX12_dropsCite_47 (by decide) ?_
        refine lv_iload_n C.1.1 C.1.2.1 dX12_dropsCite_49 rfl (lv_at hl 2 rfl) ?_
        refine lv_iconst (v := (1 : Int32)) C.1.1 C.1.2.1 dX12_dropsCite_50 (by decide) ?_
        refine lv_isub C.1.1 C.1.2.1 dX12_dropsCite_51 ?_
        refine ql_VV (As := [.int xl1, .int (37 : Int32), .int (xl3 - (1 : Int32))]) (rest := []) C S htab hlocks hl qy_X12_lays qi_X12_lays qs_X12_lays gw_1760 (ci := 13) rfl w (fun b w => qm_X12_lays l hl9 D _ b xl1 (37 : Int32) (xl3 - (1 : Int32)) _ _ w) rfl ⟨Nat.le_of_ble_eq_true rfl, Nat.le_of_ble_eq_true rfl⟩ ⟨rfl, rfl⟩ (by exact Nat.le_of_ble_eq_true rfl) (fun b e9 => by cases e9; rfl) dX12_dropsCite_52 ⟨Nat.le_of_ble_eq_true rfl, Nat.le_of_ble_eq_true rfl⟩ ⟨Nat.le_of_ble_eq_true rfl, Nat.le_of_ble_eq_true rfl⟩ (fun h H locs S w => ?_)
        refine W.cs (cells' := 0) (slots' := 0) rfl rfl ?_
        exact ql_vret C S hr hlocks dX12_dropsCite_55 ⟨Nat.le_of_ble_eq_true rfl, Nat.le_of_ble_eq_true rfl⟩ w
      · replace w := ql_ifn w c9
        refine ql_aload_n (r := (some a0)) C dX12_dropsCite_19 rfl (lv_at hl 0 rfl) ?_
        refine lv_iload_n C.1.1 C.1.2.1 dX12_dropsCite_20 rfl (lv_at hl 1 rfl) ?_
        refine lv_bipush (v := (38 : Int32)) C.1.1 C.1.2.1 dX12_dropsCite_21 (by decide) ?_
        refine lv_iload C.1.1 C.1.2.1 dX12_dropsCite_23 (lv_at hl 3 rfl) ?_
        refine lv_iadd C.1.1 C.1.2.1 dX12_dropsCite_25 ?_
        refine ql_aload_n (r := (some a0)) C dX12_dropsCite_26 rfl (lv_at hl 0 rfl) ?_
        refine lv_iload_n C.1.1 C.1.2.1 dX12_dropsCite_27 rfl (lv_at hl 1 rfl) ?_
        refine lv_bipush (v := (39 : Int32)) C.1.1 C.1.2.1 dX12_dropsCite_28 (by decide) ?_
        refine lv_iload C.1.1 C.1.2.1 dX12_dropsCite_30 (lv_at hl 3 rfl) ?_
        refine lv_iadd C.1.1 C.1.2.1 dX12_dropsCite_32 ?_
        refine ql_VI (As := [.int xl1, .int ((39 : Int32) + xl4)]) (rest := [.int ((38 : Int32) + xl4), .int xl1, .ref a0]) C S htab hlocks hl qy_X12_of qi_X12_of qs_X12_of gw_1745 (ci := 13) rfl w (fun b w => qm_X12_of l hl9 D _ b xl1 ((39 : Int32) + xl4) _ _ w) rfl ⟨Nat.le_of_ble_eq_true rfl, Nat.le_of_ble_eq_true rfl⟩ ⟨rfl, rfl⟩ (by exact Nat.le_of_ble_eq_true rfl) (fun b e9 => by cases e9; rfl) dX12_dropsCite_33 ⟨Nat.le_of_ble_eq_true rfl, Nat.le_of_ble_eq_true rfl⟩ ⟨Nat.le_of_ble_eq_true rfl, Nat.le_of_ble_eq_true rfl⟩ (fun x2 h H locs S w => ?_)
        refine W.cs (cells' := 0) (slots' := 0) rfl rfl ?_
        refine ql_VV (As := [.int xl1, .int ((38 : Int32) + xl4), .int x2]) (rest := []) C S htab hlocks hl qy_X12_lays qi_X12_lays qs_X12_lays gw_1760 (ci := 13) rfl w (fun b w => qm_X12_lays l hl9 D _ b xl1 ((38 : Int32) + xl4) x2 _ _ w) rfl ⟨Nat.le_of_ble_eq_true rfl, Nat.le_of_ble_eq_true rfl⟩ ⟨rfl, rfl⟩ (by exact Nat.le_of_ble_eq_true rfl) (fun b e9 => by cases e9; rfl) dX12_dropsCite_36 ⟨Nat.le_of_ble_eq_true rfl, Nat.le_of_ble_eq_true rfl⟩ ⟨Nat.le_of_ble_eq_true rfl, Nat.le_of_ble_eq_true rfl⟩ (fun h H locs S w => ?_)
        refine W.cs (cells' := 0) (slots' := 0) rfl rfl ?_
        refine lv_iinc (v := (xl4 + (1 : Int32))) (lv' := [(4, .int (xl4 + (1 : Int32))), (0, .ref a0), (1, .int xl1), (3, .int xl3)]) C.1.1 C.1.2.1 dX12_dropsCite_39 hl (k := 3) rfl rfl (by decide) rfl (fun ls hl => ?_)
        refine lv_goto (tgt := 11) C.1.1 C.1.2.1 dX12_dropsCite_42 (by decide) ?_
        exact ih xl1 xl3 (xl4 + (1 : Int32)) _ _ _ _ S (lv_sub hl [1, 2, 3, 0] rfl) w
  unfold qw_X12_dropsCite at w
  refine ql_aload_n (r := (some a0)) C dX12_dropsCite_0 rfl (lv_at hl 0 rfl) ?_
  refine lv_iload_n C.1.1 C.1.2.1 dX12_dropsCite_1 rfl (lv_at hl 1 rfl) ?_
  refine lv_bipush (v := (37 : Int32)) C.1.1 C.1.2.1 dX12_dropsCite_2 (by decide) ?_
  refine ql_VI (As := [.int xp1, .int (37 : Int32)]) (rest := []) C S htab hlocks hl qy_X12_of qi_X12_of qs_X12_of gw_1745 (ci := 13) rfl w (fun b w => qm_X12_of l hl9 D _ b xp1 (37 : Int32) _ _ w) rfl ⟨Nat.le_of_ble_eq_true rfl, Nat.le_of_ble_eq_true rfl⟩ ⟨rfl, rfl⟩ (by exact Nat.le_of_ble_eq_true rfl) (fun b e9 => by cases e9; rfl) dX12_dropsCite_4 ⟨Nat.le_of_ble_eq_true rfl, Nat.le_of_ble_eq_true rfl⟩ ⟨Nat.le_of_ble_eq_true rfl, Nat.le_of_ble_eq_true rfl⟩ (fun x5 h H locs S w => ?_)
  refine W.cs (cells' := 0) (slots' := 0) rfl rfl ?_
  refine lv_istore_n (lv' := [(3, .int x5), (0, .ref a0), (1, .int xp1), (2, .int xp2)]) C.1.1 C.1.2.1 dX12_dropsCite_7 rfl hl (by decide) rfl (fun ls hl => ?_)
  refine lv_iload_n C.1.1 C.1.2.1 dX12_dropsCite_8 rfl (lv_at hl 3 rfl) ?_
  refine lv_istore (lv' := [(4, .int xp2), (3, .int x5), (0, .ref a0), (1, .int xp1), (2, .int xp2)]) C.1.1 C.1.2.1 dX12_dropsCite_9 hl (by decide) rfl (fun ls hl => ?_)
  exact hB11 ql_FU xp1 x5 xp2 _ _ _ _ S (lv_sub hl [2, 3, 1, 0] rfl) w
def qw_X12_uncite_25 (a0 : Nat) (Q : Int32 → ql_H → Prop) (xl2 : Int32) (xl3 : Int32) (rs0 : Option Nat) (xs1 : Int32) (h : ql_H) : Prop :=
ql_rv h rs0 13 fun b1 => qw_X12_fails b1 xs1 h (fun x1 h =>
if x1 = 0 then (ql_gR h (some a0) 13 0 fun r3 =>
ql_rv h (some a0) 13 fun b3 => qw_X12_keeps b3 r3 h (fun h =>
ql_rv h (some a0) 13 fun b5 => qw_X12_cited b5 xl3 xl2 h (fun x5 h =>
ql_rv h (some a0) 13 fun b6 => qw_X12_dropsCite b6 xl3 x5 h (fun h =>
ql_rv h (some a0) 13 fun b8 => qw_X12_of b8 xl3 (37 : Int32) h (fun x8 h =>
Q x8 h))))) else (Q (0 : Int32) h))
def qw_X12_uncite_20 (a0 : Nat) (Q : Int32 → ql_H → Prop) (xl2 : Int32) (xl3 : Int32) (rs0 : Option Nat) (h : ql_H) : Prop :=
qw_X12_uncite_25 a0 Q xl2 xl3 rs0 (1 : Int32) h
def qw_X12_uncite (a0 : Nat) (xp1 : Int32) (xp2 : Int32) (h : ql_H) (Q : Int32 → ql_H → Prop) : Prop :=
ql_rv h (some a0) 13 fun b10 => qw_X12_placeOf b10 xp1 h (fun x10 h =>
if x10 < 0 then (qw_X12_uncite_20 a0 Q xp2 x10 (some a0) h) else (ql_rv h (some a0) 13 fun b12 => qw_X12_cited b12 x10 xp2 h (fun x12 h =>
if 0 ≤ x12 then (qw_X12_uncite_25 a0 Q xp2 x10 (some a0) (0 : Int32) h) else (qw_X12_uncite_20 a0 Q xp2 x10 (some a0) h))))
set_option maxHeartbeats 4000000 in
set_option maxRecDepth 100000 in
theorem qm_X12_uncite (l : Launch) (hl9 : l.stackTraces = false) (D : ql_D) (h0 : ql_H) (a0 : Nat) (xp1 : Int32) (xp2 : Int32) (Q : Int32 → ql_H → Prop) (X : String → ql_H → Prop) (w : qw_X12_uncite a0 xp1 xp2 h0 Q) : ql_M D l yX12_uncite cX12_uncite 4 (some .int) ({ frames := 6, cells := 0, slots := 0, locals := 111 } : Room) h0 [.ref a0, .int xp1, .int xp2] (ql_rI Q) X 0 0 := by
  refine ql_ofW (by decide) (Nat.le_of_ble_eq_true rfl) ?_
  intro p e s m below meth c ls C hr hlocks hnm htab S hl
  have hl : lv_has ls 4 [(0, .ref a0), (1, .int xp1), (2, .int xp2)] := hl
  have hB25 : ∀ (xl2 : Int32) (xl3 : Int32) (rs0 : Option Nat) (xs1 : Int32) (h : ql_H) (H : Heap) (locs : List Loc) (ls : Array Slot), ql_S D h0 s H locs h → lv_has ls 4 [(0, .ref a0), (2, .int xl2), (3, .int xl3)] → qw_X12_uncite_25 a0 Q xl2 xl3 rs0 xs1 h → W p l e ({ frames := 6, cells := 0, slots := 0, locals := 111 } : Room) s m ([.ref a0, .int xp1, .int xp2] : List Value).toArray below meth c H locs 0 0 (vx_MQ below (ql_Q D h0 (ql_rI Q)) (ql_X D h0 X) ([.ref a0, .int xp1, .int xp2] : List Value).toArray s 0 0 (ql_A h0)) (F0 m 25 ls [.int xs1, va_rf rs0]) := by
    intro xl2 xl3 rs0 xs1 h H locs ls S hl w
    unfold qw_X12_uncite_25 at w
    refine ql_VI (As := [.int xs1]) (rest := []) C S htab hlocks hl qy_X12_fails qi_X12_fails qs_X12_fails gw_1749 (ci := 13) rfl w (fun b w => qm_X12_fails l hl9 D _ b xs1 _ _ w) rfl ⟨Nat.le_of_ble_eq_true rfl, Nat.le_of_ble_eq_true rfl⟩ ⟨rfl, rfl⟩ (by exact Nat.le_of_ble_eq_true rfl) (fun b e9 => by cases e9; rfl) dX12_uncite_25 ⟨Nat.le_of_ble_eq_true rfl, Nat.le_of_ble_eq_true rfl⟩ ⟨Nat.le_of_ble_eq_true rfl, Nat.le_of_ble_eq_true rfl⟩ (fun x1 h H locs S w => ?_)
    refine W.cs (cells' := 0) (slots' := 0) rfl rfl ?_
    refine lv_if_eq (tgt := 33) C.1.1 C.1.2.1 dX12_uncite_28 (by decide) (fun c9 => ?_) (fun c9 => ?_)
    · replace w := ql_if w c9
      refine ql_aload_n (r := (some a0)) C dX12_uncite_33 rfl (lv_at hl 0 rfl) ?_
      refine ql_aload_n (r := (some a0)) C dX12_uncite_34 rfl (lv_at hl 0 rfl) ?_
      refine ql_getR C S qf_13_0 gw_1668 dX12_uncite_35 w (fun r3 w => ?_)
      refine ql_VV (As := [va_rf r3]) (rest := []) C S htab hlocks hl qy_X12_keeps qi_X12_keeps qs_X12_keeps gw_1753 (ci := 13) rfl w (fun b w => qm_X12_keeps l hl9 D _ b r3 _ _ w) rfl ⟨Nat.le_of_ble_eq_true rfl, Nat.le_of_ble_eq_true rfl⟩ ⟨rfl, rfl⟩ (by exact Nat.le_of_ble_eq_true rfl) (fun b e9 => by cases e9; rfl) dX12_uncite_38 ⟨Nat.le_of_ble_eq_true rfl, Nat.le_of_ble_eq_true rfl⟩ ⟨Nat.le_of_ble_eq_true rfl, Nat.le_of_ble_eq_true rfl⟩ (fun h H locs S w => ?_)
      refine W.cs (cells' := 0) (slots' := 0) rfl rfl ?_
      refine ql_aload_n (r := (some a0)) C dX12_uncite_41 rfl (lv_at hl 0 rfl) ?_
      refine lv_iload_n C.1.1 C.1.2.1 dX12_uncite_42 rfl (lv_at hl 2 rfl) ?_
      refine ql_aload_n (r := (some a0)) C dX12_uncite_43 rfl (lv_at hl 0 rfl) ?_
      refine lv_iload_n C.1.1 C.1.2.1 dX12_uncite_44 rfl (lv_at hl 2 rfl) ?_
      refine lv_iload_n C.1.1 C.1.2.1 dX12_uncite_45 rfl (lv_at hl 1 rfl) ?_
      refine ql_VI (As := [.int xl3, .int xl2]) (rest := [.int xl3, .ref a0]) C S htab hlocks hl qy_X12_cited qi_X12_cited qs_X12_cited gw_1820 (ci := 13) rfl w (fun b w => qm_X12_cited l hl9 D _ b xl3 xl2 _ _ w) rfl ⟨Nat.le_of_ble_eq_true rfl, Nat.le_of_ble_eq_true rfl⟩ ⟨rfl, rfl⟩ (by exact Nat.le_of_ble_eq_true rfl) (fun b e9 => by cases e9; rfl) dX12_uncite_46 ⟨Nat.le_of_ble_eq_true rfl, Nat.le_of_ble_eq_true rfl⟩ ⟨Nat.le_of_ble_eq_true rfl, Nat.le_of_ble_eq_true rfl⟩ (fun x5 h H locs S w => ?_)
      refine W.cs (cells' := 0) (slots' := 0) rfl rfl ?_
      refine ql_VV (As := [.int xl3, .int x5]) (rest := []) C S htab hlocks hl qy_X12_dropsCite qi_X12_dropsCite qs_X12_dropsCite gw_1828 (ci := 13) rfl w (fun b w => qm_X12_dropsCite l hl9 D _ b xl3 x5 _ _ w) rfl ⟨Nat.le_of_ble_eq_true rfl, Nat.le_of_ble_eq_true rfl⟩ ⟨rfl, rfl⟩ (by exact Nat.le_of_ble_eq_true rfl) (fun b e9 => by cases e9; rfl) dX12_uncite_49 ⟨Nat.le_of_ble_eq_true rfl, Nat.le_of_ble_eq_true rfl⟩ ⟨Nat.le_of_ble_eq_true rfl, Nat.le_of_ble_eq_true rfl⟩ (fun h H locs S w => ?_)
      refine W.cs (cells' := 0) (slots' := 0) rfl rfl ?_
      refine ql_aload_n (r := (some a0)) C dX12_uncite_52 rfl (lv_at hl 0 rfl) ?_
      refine lv_iload_n C.1.1 C.1.2.1 dX12_uncite_53 rfl (lv_at hl 2 rfl) ?_
      refine lv_bipush (v := (37 : Int32)) C.1.1 C.1.2.1 dX12_uncite_54 (by decide) ?_
      refine ql_VI (As := [.int xl3, .int (37 : Int32)]) (rest := []) C S htab hlocks hl qy_X12_of qi_X12_of qs_X12_of gw_1745 (ci := 13) rfl w (fun b w => qm_X12_of l hl9 D _ b xl3 (37 : Int32) _ _ w) rfl ⟨Nat.le_of_ble_eq_true rfl, Nat.le_of_ble_eq_true rfl⟩ ⟨rfl, rfl⟩ (by exact Nat.le_of_ble_eq_true rfl) (fun b e9 => by cases e9; rfl) dX12_uncite_56 ⟨Nat.le_of_ble_eq_true rfl, Nat.le_of_ble_eq_true rfl⟩ ⟨Nat.le_of_ble_eq_true rfl, Nat.le_of_ble_eq_true rfl⟩ (fun x8 h H locs S w => ?_)
      refine W.cs (cells' := 0) (slots' := 0) rfl rfl ?_
      exact ql_iret C S hr hlocks dX12_uncite_59 ⟨Nat.le_of_ble_eq_true rfl, Nat.le_of_ble_eq_true rfl⟩ w
    · replace w := ql_ifn w c9
      refine lv_iconst (v := (0 : Int32)) C.1.1 C.1.2.1 dX12_uncite_31 (by decide) ?_
      exact ql_iret C S hr hlocks dX12_uncite_32 ⟨Nat.le_of_ble_eq_true rfl, Nat.le_of_ble_eq_true rfl⟩ w
  have hB20 : ∀ (xl2 : Int32) (xl3 : Int32) (rs0 : Option Nat) (h : ql_H) (H : Heap) (locs : List Loc) (ls : Array Slot), ql_S D h0 s H locs h → lv_has ls 4 [(0, .ref a0), (2, .int xl2), (3, .int xl3)] → qw_X12_uncite_20 a0 Q xl2 xl3 rs0 h → W p l e ({ frames := 6, cells := 0, slots := 0, locals := 111 } : Room) s m ([.ref a0, .int xp1, .int xp2] : List Value).toArray below meth c H locs 0 0 (vx_MQ below (ql_Q D h0 (ql_rI Q)) (ql_X D h0 X) ([.ref a0, .int xp1, .int xp2] : List Value).toArray s 0 0 (ql_A h0)) (F0 m 20 ls [va_rf rs0]) := by
    intro xl2 xl3 rs0 h H locs ls S hl w
    unfold qw_X12_uncite_20 at w
    refine lv_iconst (v := (1 : Int32)) C.1.1 C.1.2.1 dX12_uncite_20 (by decide) ?_
    refine lv_goto (tgt := 25) C.1.1 C.1.2.1 dX12_uncite_21 (by decide) ?_
    exact hB25 xl2 xl3 rs0 (1 : Int32) _ _ _ _ S (lv_sub hl [0, 1, 2] rfl) w
  unfold qw_X12_uncite at w
  refine ql_aload_n (r := (some a0)) C dX12_uncite_0 rfl (lv_at hl 0 rfl) ?_
  refine lv_iload_n C.1.1 C.1.2.1 dX12_uncite_1 rfl (lv_at hl 1 rfl) ?_
  refine ql_VI (As := [.int xp1]) (rest := []) C S htab hlocks hl qy_X12_placeOf qi_X12_placeOf qs_X12_placeOf gw_1772 (ci := 13) rfl w (fun b w => qm_X12_placeOf l hl9 D _ b xp1 _ _ w) rfl ⟨Nat.le_of_ble_eq_true rfl, Nat.le_of_ble_eq_true rfl⟩ ⟨rfl, rfl⟩ (by exact Nat.le_of_ble_eq_true rfl) (fun b e9 => by cases e9; rfl) dX12_uncite_2 ⟨Nat.le_of_ble_eq_true rfl, Nat.le_of_ble_eq_true rfl⟩ ⟨Nat.le_of_ble_eq_true rfl, Nat.le_of_ble_eq_true rfl⟩ (fun x10 h H locs S w => ?_)
  refine W.cs (cells' := 0) (slots' := 0) rfl rfl ?_
  refine lv_istore_n (lv' := [(3, .int x10), (0, .ref a0), (1, .int xp1), (2, .int xp2)]) C.1.1 C.1.2.1 dX12_uncite_5 rfl hl (by decide) rfl (fun ls hl => ?_)
  refine ql_aload_n (r := (some a0)) C dX12_uncite_6 rfl (lv_at hl 1 rfl) ?_
  refine lv_iload_n C.1.1 C.1.2.1 dX12_uncite_7 rfl (lv_at hl 0 rfl) ?_
  refine lv_if_lt (tgt := 20) C.1.1 C.1.2.1 dX12_uncite_8 (by decide) (fun c9 => ?_) (fun c9 => ?_)
  · replace w := ql_if w c9
    exact hB20 xp2 x10 (some a0) _ _ _ _ S (lv_sub hl [1, 3, 0] rfl) w
  · replace w := ql_ifn w c9
    refine ql_aload_n (r := (some a0)) C dX12_uncite_11 rfl (lv_at hl 1 rfl) ?_
    refine lv_iload_n C.1.1 C.1.2.1 dX12_uncite_12 rfl (lv_at hl 0 rfl) ?_
    refine lv_iload_n C.1.1 C.1.2.1 dX12_uncite_13 rfl (lv_at hl 3 rfl) ?_
    refine ql_VI (As := [.int x10, .int xp2]) (rest := [.ref a0]) C S htab hlocks hl qy_X12_cited qi_X12_cited qs_X12_cited gw_1820 (ci := 13) rfl w (fun b w => qm_X12_cited l hl9 D _ b x10 xp2 _ _ w) rfl ⟨Nat.le_of_ble_eq_true rfl, Nat.le_of_ble_eq_true rfl⟩ ⟨rfl, rfl⟩ (by exact Nat.le_of_ble_eq_true rfl) (fun b e9 => by cases e9; rfl) dX12_uncite_14 ⟨Nat.le_of_ble_eq_true rfl, Nat.le_of_ble_eq_true rfl⟩ ⟨Nat.le_of_ble_eq_true rfl, Nat.le_of_ble_eq_true rfl⟩ (fun x12 h H locs S w => ?_)
    refine W.cs (cells' := 0) (slots' := 0) rfl rfl ?_
    refine lv_if_ge (tgt := 24) C.1.1 C.1.2.1 dX12_uncite_17 (by decide) (fun c9 => ?_) (fun c9 => ?_)
    · replace w := ql_if w c9
      refine lv_iconst (v := (0 : Int32)) C.1.1 C.1.2.1 dX12_uncite_24 (by decide) ?_
      exact hB25 xp2 x10 (some a0) (0 : Int32) _ _ _ _ S (lv_sub hl [1, 3, 0] rfl) w
    · replace w := ql_ifn w c9
      exact hB20 xp2 x10 (some a0) _ _ _ _ S (lv_sub hl [1, 3, 0] rfl) w
def qw_X12_drops_18 (a0 : Nat) (Q : ql_H → Prop) : Nat → Int32 → ql_H → Prop
  | 0, _, _ => False
  | n + 1, xl2, h =>
    ql_gR h (some a0) 13 0 fun r1 =>
    ql_lI h r1 0 (0 : Int32) fun x2 =>
    if ((13 : Int32) + ((42 : Int32) * x2)) ≤ xl2 then (Q h) else (ql_gR h (some a0) 13 0 fun r3 =>
    ql_gR h (some a0) 13 0 fun r4 =>
    ql_lI h r4 0 (xl2 + (42 : Int32)) fun x5 =>
    ql_sI h r3 0 xl2 x5 fun h =>
    qw_X12_drops_18 a0 Q n (xl2 + (1 : Int32)) h)
def qw_X12_drops (a0 : Nat) (xp1 : Int32) (h : ql_H) (Q : ql_H → Prop) : Prop :=
ql_gR h (some a0) 13 0 fun r6 =>
ql_lI h r6 0 (0 : Int32) fun x7 =>
ql_sI h r6 0 (0 : Int32) (x7 - (1 : Int32)) fun h =>
qw_X12_drops_18 a0 Q ql_FU ((13 : Int32) + ((42 : Int32) * xp1)) h
set_option maxHeartbeats 4000000 in
set_option maxRecDepth 100000 in
theorem qm_X12_drops (l : Launch) (hl9 : l.stackTraces = false) (D : ql_D) (h0 : ql_H) (a0 : Nat) (xp1 : Int32) (Q : ql_H → Prop) (X : String → ql_H → Prop) (w : qw_X12_drops a0 xp1 h0 Q) : ql_M D l yX12_drops cX12_drops 3 none ({ frames := 2, cells := 0, slots := 0, locals := 48 } : Room) h0 [.ref a0, .int xp1] (ql_rV Q) X 0 0 := by
  refine ql_ofW (by decide) (Nat.le_of_ble_eq_true rfl) ?_
  intro p e s m below meth c ls C hr hlocks hnm htab S hl
  have hl : lv_has ls 3 [(0, .ref a0), (1, .int xp1)] := hl
  have hB18 : ∀ n : Nat, ∀ (xl2 : Int32) (h : ql_H) (H : Heap) (locs : List Loc) (ls : Array Slot), ql_S D h0 s H locs h → lv_has ls 3 [(0, .ref a0), (2, .int xl2)] → qw_X12_drops_18 a0 Q n xl2 h → W p l e ({ frames := 2, cells := 0, slots := 0, locals := 48 } : Room) s m ([.ref a0, .int xp1] : List Value).toArray below meth c H locs 0 0 (vx_MQ below (ql_Q D h0 (ql_rV Q)) (ql_X D h0 X) ([.ref a0, .int xp1] : List Value).toArray s 0 0 (ql_A h0)) (F0 m 18 ls []) := by
    intro n
    induction n with
    | zero => intro xl2 h H locs ls S hl w; rw [qw_X12_drops_18] at w; exact w.elim
    | succ n ih =>
      intro xl2 h H locs ls S hl w
      rw [qw_X12_drops_18] at w
      refine lv_iload_n C.1.1 C.1.2.1 dX12_drops_18 rfl (lv_at hl 1 rfl) ?_
      refine lv_bipush (v := (13 : Int32)) C.1.1 C.1.2.1 dX12_drops_19 (by decide) ?_
      refine lv_bipush (v := (42 : Int32)) C.1.1 C.1.2.1 dX12_drops_21 (by decide) ?_
      refine ql_aload_n (r := (some a0)) C dX12_drops_23 rfl (lv_at hl 0 rfl) ?_
      refine ql_getR C S qf_13_0 gw_1668 dX12_drops_24 w (fun r1 w => ?_)
      refine lv_iconst (v := (0 : Int32)) C.1.1 C.1.2.1 dX12_drops_27 (by decide) ?_
      refine ql_iald C S dX12_drops_28 w (fun x2 w => ?_)
      refine lv_imul C.1.1 C.1.2.1 dX12_drops_29 ?_
      refine lv_iadd C.1.1 C.1.2.1 dX12_drops_30 ?_
      refine lv_icmp_ge (tgt := 55) C.1.1 C.1.2.1 dX12_drops_31 (by decide) (fun c9 => ?_) (fun c9 => ?_)
      · replace w := ql_if w c9
        exact ql_vret C S hr hlocks dX12_drops_55 ⟨Nat.le_of_ble_eq_true rfl, Nat.le_of_ble_eq_true rfl⟩ w
      · replace w := ql_ifn w c9
        refine ql_aload_n (r := (some a0)) C dX12_drops_34 rfl (lv_at hl 0 rfl) ?_
        refine ql_getR C S qf_13_0 gw_1668 dX12_drops_35 w (fun r3 w => ?_)
        refine lv_iload_n C.1.1 C.1.2.1 dX12_drops_38 rfl (lv_at hl 1 rfl) ?_
        refine ql_aload_n (r := (some a0)) C dX12_drops_39 rfl (lv_at hl 0 rfl) ?_
        refine ql_getR C S qf_13_0 gw_1668 dX12_drops_40 w (fun r4 w => ?_)
        refine lv_iload_n C.1.1 C.1.2.1 dX12_drops_43 rfl (lv_at hl 1 rfl) ?_
        refine lv_bipush (v := (42 : Int32)) C.1.1 C.1.2.1 dX12_drops_44 (by decide) ?_
        refine lv_iadd C.1.1 C.1.2.1 dX12_drops_46 ?_
        refine ql_iald C S dX12_drops_47 w (fun x5 w => ?_)
        refine ql_iast C S dX12_drops_48 w (fun h H locs S w => ?_)
        refine lv_iinc (v := (xl2 + (1 : Int32))) (lv' := [(2, .int (xl2 + (1 : Int32))), (0, .ref a0)]) C.1.1 C.1.2.1 dX12_drops_49 hl (k := 1) rfl rfl (by decide) rfl (fun ls hl => ?_)
        refine lv_goto (tgt := 18) C.1.1 C.1.2.1 dX12_drops_52 (by decide) ?_
        exact ih (xl2 + (1 : Int32)) _ _ _ _ S (lv_sub hl [1, 0] rfl) w
  unfold qw_X12_drops at w
  refine ql_aload_n (r := (some a0)) C dX12_drops_0 rfl (lv_at hl 0 rfl) ?_
  refine ql_getR C S qf_13_0 gw_1668 dX12_drops_1 w (fun r6 w => ?_)
  refine lv_iconst (v := (0 : Int32)) C.1.1 C.1.2.1 dX12_drops_4 (by decide) ?_
  refine lv_dup2_11 C.1.1 C.1.2.1 dX12_drops_5 rfl (ql_catR _) ?_
  refine ql_iald C S dX12_drops_6 w (fun x7 w => ?_)
  refine lv_iconst (v := (1 : Int32)) C.1.1 C.1.2.1 dX12_drops_7 (by decide) ?_
  refine lv_isub C.1.1 C.1.2.1 dX12_drops_8 ?_
  refine ql_iast C S dX12_drops_9 w (fun h H locs S w => ?_)
  refine lv_bipush (v := (13 : Int32)) C.1.1 C.1.2.1 dX12_drops_10 (by decide) ?_
  refine lv_bipush (v := (42 : Int32)) C.1.1 C.1.2.1 dX12_drops_12 (by decide) ?_
  refine lv_iload_n C.1.1 C.1.2.1 dX12_drops_14 rfl (lv_at hl 1 rfl) ?_
  refine lv_imul C.1.1 C.1.2.1 dX12_drops_15 ?_
  refine lv_iadd C.1.1 C.1.2.1 dX12_drops_16 ?_
  refine lv_istore_n (lv' := [(2, .int ((13 : Int32) + ((42 : Int32) * xp1))), (0, .ref a0), (1, .int xp1)]) C.1.1 C.1.2.1 dX12_drops_17 rfl hl (by decide) rfl (fun ls hl => ?_)
  exact hB18 ql_FU ((13 : Int32) + ((42 : Int32) * xp1)) _ _ _ _ S (lv_sub hl [1, 0] rfl) w
def qw_X12_repeal_16 (a0 : Nat) (Q : Int32 → ql_H → Prop) (xl2 : Int32) (rs0 : Option Nat) (xs1 : Int32) (h : ql_H) : Prop :=
ql_rv h rs0 13 fun b1 => qw_X12_fails b1 xs1 h (fun x1 h =>
if x1 = 0 then (ql_gR h (some a0) 13 0 fun r3 =>
ql_rv h (some a0) 13 fun b3 => qw_X12_keeps b3 r3 h (fun h =>
ql_rv h (some a0) 13 fun b4 => qw_X12_drops b4 xl2 h (fun h =>
ql_gR h (some a0) 13 0 fun r6 =>
ql_lI h r6 0 (4 : Int32) fun x7 =>
ql_sI h r6 0 (4 : Int32) (x7 + (1 : Int32)) fun h =>
ql_gR h (some a0) 13 0 fun r8 =>
ql_lI h r8 0 (0 : Int32) fun x9 =>
Q x9 h))) else (Q (0 : Int32) h))
def qw_X12_repeal (a0 : Nat) (xp1 : Int32) (h : ql_H) (Q : Int32 → ql_H → Prop) : Prop :=
ql_rv h (some a0) 13 fun b10 => qw_X12_placeOf b10 xp1 h (fun x10 h =>
if 0 ≤ x10 then (qw_X12_repeal_16 a0 Q x10 (some a0) (0 : Int32) h) else (qw_X12_repeal_16 a0 Q x10 (some a0) (1 : Int32) h))
set_option maxHeartbeats 4000000 in
set_option maxRecDepth 100000 in
theorem qm_X12_repeal (l : Launch) (hl9 : l.stackTraces = false) (D : ql_D) (h0 : ql_H) (a0 : Nat) (xp1 : Int32) (Q : Int32 → ql_H → Prop) (X : String → ql_H → Prop) (w : qw_X12_repeal a0 xp1 h0 Q) : ql_M D l yX12_repeal cX12_repeal 3 (some .int) ({ frames := 6, cells := 0, slots := 0, locals := 110 } : Room) h0 [.ref a0, .int xp1] (ql_rI Q) X 0 0 := by
  refine ql_ofW (by decide) (Nat.le_of_ble_eq_true rfl) ?_
  intro p e s m below meth c ls C hr hlocks hnm htab S hl
  have hl : lv_has ls 3 [(0, .ref a0), (1, .int xp1)] := hl
  have hB16 : ∀ (xl2 : Int32) (rs0 : Option Nat) (xs1 : Int32) (h : ql_H) (H : Heap) (locs : List Loc) (ls : Array Slot), ql_S D h0 s H locs h → lv_has ls 3 [(0, .ref a0), (2, .int xl2)] → qw_X12_repeal_16 a0 Q xl2 rs0 xs1 h → W p l e ({ frames := 6, cells := 0, slots := 0, locals := 110 } : Room) s m ([.ref a0, .int xp1] : List Value).toArray below meth c H locs 0 0 (vx_MQ below (ql_Q D h0 (ql_rI Q)) (ql_X D h0 X) ([.ref a0, .int xp1] : List Value).toArray s 0 0 (ql_A h0)) (F0 m 16 ls [.int xs1, va_rf rs0]) := by
    intro xl2 rs0 xs1 h H locs ls S hl w
    unfold qw_X12_repeal_16 at w
    refine ql_VI (As := [.int xs1]) (rest := []) C S htab hlocks hl qy_X12_fails qi_X12_fails qs_X12_fails gw_1749 (ci := 13) rfl w (fun b w => qm_X12_fails l hl9 D _ b xs1 _ _ w) rfl ⟨Nat.le_of_ble_eq_true rfl, Nat.le_of_ble_eq_true rfl⟩ ⟨rfl, rfl⟩ (by exact Nat.le_of_ble_eq_true rfl) (fun b e9 => by cases e9; rfl) dX12_repeal_16 ⟨Nat.le_of_ble_eq_true rfl, Nat.le_of_ble_eq_true rfl⟩ ⟨Nat.le_of_ble_eq_true rfl, Nat.le_of_ble_eq_true rfl⟩ (fun x1 h H locs S w => ?_)
    refine W.cs (cells' := 0) (slots' := 0) rfl rfl ?_
    refine lv_if_eq (tgt := 24) C.1.1 C.1.2.1 dX12_repeal_19 (by decide) (fun c9 => ?_) (fun c9 => ?_)
    · replace w := ql_if w c9
      refine ql_aload_n (r := (some a0)) C dX12_repeal_24 rfl (lv_at hl 0 rfl) ?_
      refine ql_aload_n (r := (some a0)) C dX12_repeal_25 rfl (lv_at hl 0 rfl) ?_
      refine ql_getR C S qf_13_0 gw_1668 dX12_repeal_26 w (fun r3 w => ?_)
      refine ql_VV (As := [va_rf r3]) (rest := []) C S htab hlocks hl qy_X12_keeps qi_X12_keeps qs_X12_keeps gw_1753 (ci := 13) rfl w (fun b w => qm_X12_keeps l hl9 D _ b r3 _ _ w) rfl ⟨Nat.le_of_ble_eq_true rfl, Nat.le_of_ble_eq_true rfl⟩ ⟨rfl, rfl⟩ (by exact Nat.le_of_ble_eq_true rfl) (fun b e9 => by cases e9; rfl) dX12_repeal_29 ⟨Nat.le_of_ble_eq_true rfl, Nat.le_of_ble_eq_true rfl⟩ ⟨Nat.le_of_ble_eq_true rfl, Nat.le_of_ble_eq_true rfl⟩ (fun h H locs S w => ?_)
      refine W.cs (cells' := 0) (slots' := 0) rfl rfl ?_
      refine ql_aload_n (r := (some a0)) C dX12_repeal_32 rfl (lv_at hl 0 rfl) ?_
      refine lv_iload_n C.1.1 C.1.2.1 dX12_repeal_33 rfl (lv_at hl 1 rfl) ?_
      refine ql_VV (As := [.int xl2]) (rest := []) C S htab hlocks hl qy_X12_drops qi_X12_drops qs_X12_drops gw_1836 (ci := 13) rfl w (fun b w => qm_X12_drops l hl9 D _ b xl2 _ _ w) rfl ⟨Nat.le_of_ble_eq_true rfl, Nat.le_of_ble_eq_true rfl⟩ ⟨rfl, rfl⟩ (by exact Nat.le_of_ble_eq_true rfl) (fun b e9 => by cases e9; rfl) dX12_repeal_34 ⟨Nat.le_of_ble_eq_true rfl, Nat.le_of_ble_eq_true rfl⟩ ⟨Nat.le_of_ble_eq_true rfl, Nat.le_of_ble_eq_true rfl⟩ (fun h H locs S w => ?_)
      refine W.cs (cells' := 0) (slots' := 0) rfl rfl ?_
      refine ql_aload_n (r := (some a0)) C dX12_repeal_37 rfl (lv_at hl 0 rfl) ?_
      refine ql_getR C S qf_13_0 gw_1668 dX12_repeal_38 w (fun r6 w => ?_)
      refine lv_iconst (v := (4 : Int32)) C.1.1 C.1.2.1 dX12_repeal_41 (by decide) ?_
      refine lv_dup2_11 C.1.1 C.1.2.1 dX12_repeal_42 rfl (ql_catR _) ?_
      refine ql_iald C S dX12_repeal_43 w (fun x7 w => ?_)
      refine lv_iconst (v := (1 : Int32)) C.1.1 C.1.2.1 dX12_repeal_44 (by decide) ?_
      refine lv_iadd C.1.1 C.1.2.1 dX12_repeal_45 ?_
      refine ql_iast C S dX12_repeal_46 w (fun h H locs S w => ?_)
      refine ql_aload_n (r := (some a0)) C dX12_repeal_47 rfl (lv_at hl 0 rfl) ?_
      refine ql_getR C S qf_13_0 gw_1668 dX12_repeal_48 w (fun r8 w => ?_)
      refine lv_iconst (v := (0 : Int32)) C.1.1 C.1.2.1 dX12_repeal_51 (by decide) ?_
      refine ql_iald C S dX12_repeal_52 w (fun x9 w => ?_)
      exact ql_iret C S hr hlocks dX12_repeal_53 ⟨Nat.le_of_ble_eq_true rfl, Nat.le_of_ble_eq_true rfl⟩ w
    · replace w := ql_ifn w c9
      refine lv_iconst (v := (0 : Int32)) C.1.1 C.1.2.1 dX12_repeal_22 (by decide) ?_
      exact ql_iret C S hr hlocks dX12_repeal_23 ⟨Nat.le_of_ble_eq_true rfl, Nat.le_of_ble_eq_true rfl⟩ w
  unfold qw_X12_repeal at w
  refine ql_aload_n (r := (some a0)) C dX12_repeal_0 rfl (lv_at hl 0 rfl) ?_
  refine lv_iload_n C.1.1 C.1.2.1 dX12_repeal_1 rfl (lv_at hl 1 rfl) ?_
  refine ql_VI (As := [.int xp1]) (rest := []) C S htab hlocks hl qy_X12_placeOf qi_X12_placeOf qs_X12_placeOf gw_1772 (ci := 13) rfl w (fun b w => qm_X12_placeOf l hl9 D _ b xp1 _ _ w) rfl ⟨Nat.le_of_ble_eq_true rfl, Nat.le_of_ble_eq_true rfl⟩ ⟨rfl, rfl⟩ (by exact Nat.le_of_ble_eq_true rfl) (fun b e9 => by cases e9; rfl) dX12_repeal_2 ⟨Nat.le_of_ble_eq_true rfl, Nat.le_of_ble_eq_true rfl⟩ ⟨Nat.le_of_ble_eq_true rfl, Nat.le_of_ble_eq_true rfl⟩ (fun x10 h H locs S w => ?_)
  refine W.cs (cells' := 0) (slots' := 0) rfl rfl ?_
  refine lv_istore_n (lv' := [(2, .int x10), (0, .ref a0), (1, .int xp1)]) C.1.1 C.1.2.1 dX12_repeal_5 rfl hl (by decide) rfl (fun ls hl => ?_)
  refine ql_aload_n (r := (some a0)) C dX12_repeal_6 rfl (lv_at hl 1 rfl) ?_
  refine lv_iload_n C.1.1 C.1.2.1 dX12_repeal_7 rfl (lv_at hl 0 rfl) ?_
  refine lv_if_ge (tgt := 15) C.1.1 C.1.2.1 dX12_repeal_8 (by decide) (fun c9 => ?_) (fun c9 => ?_)
  · replace w := ql_if w c9
    refine lv_iconst (v := (0 : Int32)) C.1.1 C.1.2.1 dX12_repeal_15 (by decide) ?_
    exact hB16 x10 (some a0) (0 : Int32) _ _ _ _ S (lv_sub hl [1, 0] rfl) w
  · replace w := ql_ifn w c9
    refine lv_iconst (v := (1 : Int32)) C.1.1 C.1.2.1 dX12_repeal_11 (by decide) ?_
    refine lv_goto (tgt := 16) C.1.1 C.1.2.1 dX12_repeal_12 (by decide) ?_
    exact hB16 x10 (some a0) (1 : Int32) _ _ _ _ S (lv_sub hl [1, 0] rfl) w
def qw_X12_sectionsBefore_35 (a0 : Nat) (Q : Int32 → ql_H → Prop) (k4 : Int32 → Int32 → Int32 → ql_H → Prop) (xl1 : Int32) (xl3 : Int32) (xs0 : Int32) (xs1 : Int32) (h : ql_H) : Prop :=
k4 xl1 (xs0 + xs1) (xl3 + (1 : Int32)) h
def qw_X12_sectionsBefore_4 (a0 : Nat) (Q : Int32 → ql_H → Prop) : Nat → Int32 → Int32 → Int32 → ql_H → Prop
  | 0, _, _, _, _ => False
  | n + 1, xl1, xl2, xl3, h =>
    ql_gR h (some a0) 13 0 fun r1 =>
    ql_lI h r1 0 (0 : Int32) fun x2 =>
    if x2 ≤ xl3 then (Q xl2 h) else (ql_rv h (some a0) 13 fun b3 => qw_X12_of b3 xl3 (1 : Int32) h (fun x3 h =>
    ql_rv h (some a0) 13 fun b5 => qw_X12_of b5 xl1 (1 : Int32) h (fun x5 h =>
    if x5 ≤ x3 then (qw_X12_sectionsBefore_35 a0 Q (qw_X12_sectionsBefore_4 a0 Q n) xl1 xl3 xl2 (0 : Int32) h) else (qw_X12_sectionsBefore_35 a0 Q (qw_X12_sectionsBefore_4 a0 Q n) xl1 xl3 xl2 (1 : Int32) h))))
def qw_X12_sectionsBefore (a0 : Nat) (xp1 : Int32) (h : ql_H) (Q : Int32 → ql_H → Prop) : Prop :=
qw_X12_sectionsBefore_4 a0 Q ql_FU xp1 (0 : Int32) (0 : Int32) h
set_option maxHeartbeats 4000000 in
set_option maxRecDepth 100000 in
theorem qm_X12_sectionsBefore (l : Launch) (hl9 : l.stackTraces = false) (D : ql_D) (h0 : ql_H) (a0 : Nat) (xp1 : Int32) (Q : Int32 → ql_H → Prop) (X : String → ql_H → Prop) (w : qw_X12_sectionsBefore a0 xp1 h0 Q) : ql_M D l yX12_sectionsBefore cX12_sectionsBefore 4 (some .int) ({ frames := 4, cells := 0, slots := 0, locals := 78 } : Room) h0 [.ref a0, .int xp1] (ql_rI Q) X 0 0 := by
  refine ql_ofW (by decide) (Nat.le_of_ble_eq_true rfl) ?_
  intro p e s m below meth c ls C hr hlocks hnm htab S hl
  have hl : lv_has ls 4 [(0, .ref a0), (1, .int xp1)] := hl
  have hB35 : ∀ (k4 : Int32 → Int32 → Int32 → ql_H → Prop) (hk4 : ∀ (xl1 : Int32) (xl2 : Int32) (xl3 : Int32) (h : ql_H) (H : Heap) (locs : List Loc) (ls : Array Slot), ql_S D h0 s H locs h → lv_has ls 4 [(0, .ref a0), (1, .int xl1), (2, .int xl2), (3, .int xl3)] → k4 xl1 xl2 xl3 h → W p l e ({ frames := 4, cells := 0, slots := 0, locals := 78 } : Room) s m ([.ref a0, .int xp1] : List Value).toArray below meth c H locs 0 0 (vx_MQ below (ql_Q D h0 (ql_rI Q)) (ql_X D h0 X) ([.ref a0, .int xp1] : List Value).toArray s 0 0 (ql_A h0)) (F0 m 4 ls [])) , ∀ (xl1 : Int32) (xl3 : Int32) (xs0 : Int32) (xs1 : Int32) (h : ql_H) (H : Heap) (locs : List Loc) (ls : Array Slot), ql_S D h0 s H locs h → lv_has ls 4 [(0, .ref a0), (1, .int xl1), (3, .int xl3)] → qw_X12_sectionsBefore_35 a0 Q k4 xl1 xl3 xs0 xs1 h → W p l e ({ frames := 4, cells := 0, slots := 0, locals := 78 } : Room) s m ([.ref a0, .int xp1] : List Value).toArray below meth c H locs 0 0 (vx_MQ below (ql_Q D h0 (ql_rI Q)) (ql_X D h0 X) ([.ref a0, .int xp1] : List Value).toArray s 0 0 (ql_A h0)) (F0 m 35 ls [.int xs1, .int xs0]) := by
    intro k4 hk4 xl1 xl3 xs0 xs1 h H locs ls S hl w
    unfold qw_X12_sectionsBefore_35 at w
    refine lv_iadd C.1.1 C.1.2.1 dX12_sectionsBefore_35 ?_
    refine lv_istore_n (lv' := [(2, .int (xs0 + xs1)), (0, .ref a0), (1, .int xl1), (3, .int xl3)]) C.1.1 C.1.2.1 dX12_sectionsBefore_36 rfl hl (by decide) rfl (fun ls hl => ?_)
    refine lv_iinc (v := (xl3 + (1 : Int32))) (lv' := [(3, .int (xl3 + (1 : Int32))), (2, .int (xs0 + xs1)), (0, .ref a0), (1, .int xl1)]) C.1.1 C.1.2.1 dX12_sectionsBefore_37 hl (k := 3) rfl rfl (by decide) rfl (fun ls hl => ?_)
    refine lv_goto (tgt := 4) C.1.1 C.1.2.1 dX12_sectionsBefore_40 (by decide) ?_
    exact hk4 xl1 (xs0 + xs1) (xl3 + (1 : Int32)) _ _ _ _ S (lv_sub hl [2, 3, 1, 0] rfl) w
  have hB4 : ∀ n : Nat, ∀ (xl1 : Int32) (xl2 : Int32) (xl3 : Int32) (h : ql_H) (H : Heap) (locs : List Loc) (ls : Array Slot), ql_S D h0 s H locs h → lv_has ls 4 [(0, .ref a0), (1, .int xl1), (2, .int xl2), (3, .int xl3)] → qw_X12_sectionsBefore_4 a0 Q n xl1 xl2 xl3 h → W p l e ({ frames := 4, cells := 0, slots := 0, locals := 78 } : Room) s m ([.ref a0, .int xp1] : List Value).toArray below meth c H locs 0 0 (vx_MQ below (ql_Q D h0 (ql_rI Q)) (ql_X D h0 X) ([.ref a0, .int xp1] : List Value).toArray s 0 0 (ql_A h0)) (F0 m 4 ls []) := by
    intro n
    induction n with
    | zero => intro xl1 xl2 xl3 h H locs ls S hl w; rw [qw_X12_sectionsBefore_4] at w; exact w.elim
    | succ n ih =>
      intro xl1 xl2 xl3 h H locs ls S hl w
      rw [qw_X12_sectionsBefore_4] at w
      refine lv_iload_n C.1.1 C.1.2.1 dX12_sectionsBefore_4 rfl (lv_at hl 3 rfl) ?_
      refine ql_aload_n (r := (some a0)) C dX12_sectionsBefore_5 rfl (lv_at hl 0 rfl) ?_
      refine ql_getR C S qf_13_0 gw_1668 dX12_sectionsBefore_6 w (fun r1 w => ?_)
      refine lv_iconst (v := (0 : Int32)) C.1.1 C.1.2.1 dX12_sectionsBefore_9 (by decide) ?_
      refine ql_iald C S dX12_sectionsBefore_10 w (fun x2 w => ?_)
      refine lv_icmp_ge (tgt := 43) C.1.1 C.1.2.1 dX12_sectionsBefore_11 (by decide) (fun c9 => ?_) (fun c9 => ?_)
      · replace w := ql_if w c9
        refine lv_iload_n C.1.1 C.1.2.1 dX12_sectionsBefore_43 rfl (lv_at hl 2 rfl) ?_
        exact ql_iret C S hr hlocks dX12_sectionsBefore_44 ⟨Nat.le_of_ble_eq_true rfl, Nat.le_of_ble_eq_true rfl⟩ w
      · replace w := ql_ifn w c9
        refine lv_iload_n C.1.1 C.1.2.1 dX12_sectionsBefore_14 rfl (lv_at hl 2 rfl) ?_
        refine ql_aload_n (r := (some a0)) C dX12_sectionsBefore_15 rfl (lv_at hl 0 rfl) ?_
        refine lv_iload_n C.1.1 C.1.2.1 dX12_sectionsBefore_16 rfl (lv_at hl 3 rfl) ?_
        refine lv_iconst (v := (1 : Int32)) C.1.1 C.1.2.1 dX12_sectionsBefore_17 (by decide) ?_
        refine ql_VI (As := [.int xl3, .int (1 : Int32)]) (rest := [.int xl2]) C S htab hlocks hl qy_X12_of qi_X12_of qs_X12_of gw_1745 (ci := 13) rfl w (fun b w => qm_X12_of l hl9 D _ b xl3 (1 : Int32) _ _ w) rfl ⟨Nat.le_of_ble_eq_true rfl, Nat.le_of_ble_eq_true rfl⟩ ⟨rfl, rfl⟩ (by exact Nat.le_of_ble_eq_true rfl) (fun b e9 => by cases e9; rfl) dX12_sectionsBefore_18 ⟨Nat.le_of_ble_eq_true rfl, Nat.le_of_ble_eq_true rfl⟩ ⟨Nat.le_of_ble_eq_true rfl, Nat.le_of_ble_eq_true rfl⟩ (fun x3 h H locs S w => ?_)
        refine W.cs (cells' := 0) (slots' := 0) rfl rfl ?_
        refine ql_aload_n (r := (some a0)) C dX12_sectionsBefore_21 rfl (lv_at hl 0 rfl) ?_
        refine lv_iload_n C.1.1 C.1.2.1 dX12_sectionsBefore_22 rfl (lv_at hl 1 rfl) ?_
        refine lv_iconst (v := (1 : Int32)) C.1.1 C.1.2.1 dX12_sectionsBefore_23 (by decide) ?_
        refine ql_VI (As := [.int xl1, .int (1 : Int32)]) (rest := [.int x3, .int xl2]) C S htab hlocks hl qy_X12_of qi_X12_of qs_X12_of gw_1745 (ci := 13) rfl w (fun b w => qm_X12_of l hl9 D _ b xl1 (1 : Int32) _ _ w) rfl ⟨Nat.le_of_ble_eq_true rfl, Nat.le_of_ble_eq_true rfl⟩ ⟨rfl, rfl⟩ (by exact Nat.le_of_ble_eq_true rfl) (fun b e9 => by cases e9; rfl) dX12_sectionsBefore_24 ⟨Nat.le_of_ble_eq_true rfl, Nat.le_of_ble_eq_true rfl⟩ ⟨Nat.le_of_ble_eq_true rfl, Nat.le_of_ble_eq_true rfl⟩ (fun x5 h H locs S w => ?_)
        refine W.cs (cells' := 0) (slots' := 0) rfl rfl ?_
        refine lv_icmp_ge (tgt := 34) C.1.1 C.1.2.1 dX12_sectionsBefore_27 (by decide) (fun c9 => ?_) (fun c9 => ?_)
        · replace w := ql_if w c9
          refine lv_iconst (v := (0 : Int32)) C.1.1 C.1.2.1 dX12_sectionsBefore_34 (by decide) ?_
          exact hB35 (qw_X12_sectionsBefore_4 a0 Q n) ih xl1 xl3 xl2 (0 : Int32) _ _ _ _ S (lv_sub hl [0, 1, 3] rfl) w
        · replace w := ql_ifn w c9
          refine lv_iconst (v := (1 : Int32)) C.1.1 C.1.2.1 dX12_sectionsBefore_30 (by decide) ?_
          refine lv_goto (tgt := 35) C.1.1 C.1.2.1 dX12_sectionsBefore_31 (by decide) ?_
          exact hB35 (qw_X12_sectionsBefore_4 a0 Q n) ih xl1 xl3 xl2 (1 : Int32) _ _ _ _ S (lv_sub hl [0, 1, 3] rfl) w
  unfold qw_X12_sectionsBefore at w
  refine lv_iconst (v := (0 : Int32)) C.1.1 C.1.2.1 dX12_sectionsBefore_0 (by decide) ?_
  refine lv_istore_n (lv' := [(2, .int (0 : Int32)), (0, .ref a0), (1, .int xp1)]) C.1.1 C.1.2.1 dX12_sectionsBefore_1 rfl hl (by decide) rfl (fun ls hl => ?_)
  refine lv_iconst (v := (0 : Int32)) C.1.1 C.1.2.1 dX12_sectionsBefore_2 (by decide) ?_
  refine lv_istore_n (lv' := [(3, .int (0 : Int32)), (2, .int (0 : Int32)), (0, .ref a0), (1, .int xp1)]) C.1.1 C.1.2.1 dX12_sectionsBefore_3 rfl hl (by decide) rfl (fun ls hl => ?_)
  exact hB4 ql_FU xp1 (0 : Int32) (0 : Int32) _ _ _ _ S (lv_sub hl [2, 3, 1, 0] rfl) w
def qw_X12_consolidate_170 (a0 : Nat) (Q : Int32 → ql_H → Prop) : Nat → Int32 → ql_H → Prop
  | 0, _, _ => False
  | n + 1, xl1, h =>
    ql_gR h (some a0) 13 0 fun r1 =>
    ql_lI h r1 0 (0 : Int32) fun x2 =>
    if x2 ≤ xl1 then (ql_gR h (some a0) 13 0 fun r3 =>
    ql_gR h (some a0) 13 0 fun r4 =>
    ql_lI h r4 0 (6 : Int32) fun x5 =>
    ¬ (6 : Int32) = 0 ∧
    ql_gR h (some a0) 13 0 fun r6 =>
    ql_lI h r6 0 (2 : Int32) fun x7 =>
    ql_sI h r3 0 ((7 : Int32) + (x5 - x5 / (6 : Int32) * (6 : Int32))) x7 fun h =>
    ql_gR h (some a0) 13 0 fun r8 =>
    ql_lI h r8 0 (6 : Int32) fun x9 =>
    ql_sI h r8 0 (6 : Int32) (x9 + (1 : Int32)) fun h =>
    ql_gR h (some a0) 13 0 fun r10 =>
    ql_lI h r10 0 (6 : Int32) fun x11 =>
    Q x11 h) else (ql_gR h (some a0) 13 14 fun r12 =>
    ql_lI h r12 0 xl1 fun x13 =>
    ql_rv h (some a0) 13 fun b13 => qw_X12_lays b13 xl1 (1 : Int32) x13 h (fun h =>
    qw_X12_consolidate_170 a0 Q n (xl1 + (1 : Int32)) h))
def qw_X12_consolidate_128 (a0 : Nat) (Q : Int32 → ql_H → Prop) (k55 : Int32 → ql_H → Prop) : Nat → Int32 → Int32 → Int32 → ql_H → Prop
  | 0, _, _, _, _ => False
  | n + 1, xl1, xl2, xl3, h =>
    if (4 : Int32) ≤ xl3 then (ql_rv h (some a0) 13 fun b14 => qw_X12_lays b14 xl1 (4 : Int32) (1 : Int32) h (fun h =>
    k55 (xl1 + (1 : Int32)) h)) else (ql_rv h (some a0) 13 fun b16 => qw_X12_of b16 xl1 (xl2 + xl3) h (fun x16 h =>
    ql_rv h (some a0) 13 fun b17 => qw_X12_lays b17 xl1 ((5 : Int32) + xl3) x16 h (fun h =>
    qw_X12_consolidate_128 a0 Q k55 n xl1 xl2 (xl3 + (1 : Int32)) h)))
def qw_X12_consolidate_101 (a0 : Nat) (Q : Int32 → ql_H → Prop) (k75 : Int32 → Int32 → ql_H → Prop) (xl1 : Int32) (xl2 : Int32) (h : ql_H) : Prop :=
k75 xl1 (xl2 + (-1 : Int32)) h
def qw_X12_consolidate_75 (a0 : Nat) (Q : Int32 → ql_H → Prop) (k55 : Int32 → ql_H → Prop) : Nat → Int32 → Int32 → ql_H → Prop
  | 0, _, _, _ => False
  | n + 1, xl1, xl2, h =>
    if xl2 < 0 then (ql_gR h (some a0) 13 14 fun r19 =>
    ql_rv h (some a0) 13 fun b20 => qw_X12_sectionsBefore b20 xl1 h (fun x20 h =>
    ql_sI h r19 0 xl1 (x20 + (1 : Int32)) fun h =>
    ql_rv h (some a0) 13 fun b22 => qw_X12_lastVersion b22 xl1 h (fun x22 h =>
    qw_X12_consolidate_128 a0 Q k55 ql_FU xl1 x22 (0 : Int32) h))) else (ql_rv h (some a0) 13 fun b24 => qw_X12_of b24 xl1 ((38 : Int32) + xl2) h (fun x24 h =>
    ql_rv h (some a0) 13 fun b26 => qw_X12_placeOf b26 x24 h (fun x26 h =>
    if 0 ≤ x26 then (qw_X12_consolidate_101 a0 Q (qw_X12_consolidate_75 a0 Q k55 n) xl1 xl2 h) else (ql_rv h (some a0) 13 fun b27 => qw_X12_dropsCite b27 xl1 xl2 h (fun h =>
    qw_X12_consolidate_101 a0 Q (qw_X12_consolidate_75 a0 Q k55 n) xl1 xl2 h)))))
def qw_X12_consolidate_55 (a0 : Nat) (Q : Int32 → ql_H → Prop) : Nat → Int32 → ql_H → Prop
  | 0, _, _ => False
  | n + 1, xl1, h =>
    ql_gR h (some a0) 13 0 fun r29 =>
    ql_lI h r29 0 (0 : Int32) fun x30 =>
    if x30 ≤ xl1 then (qw_X12_consolidate_170 a0 Q ql_FU (0 : Int32) h) else (ql_rv h (some a0) 13 fun b31 => qw_X12_of b31 xl1 (37 : Int32) h (fun x31 h =>
    qw_X12_consolidate_75 a0 Q (qw_X12_consolidate_55 a0 Q n) ql_FU xl1 (x31 - (1 : Int32)) h))
def qw_X12_consolidate_47 (a0 : Nat) (Q : Int32 → ql_H → Prop) (k17 : Int32 → ql_H → Prop) (xl1 : Int32) (h : ql_H) : Prop :=
k17 (xl1 + (-1 : Int32)) h
def qw_X12_consolidate_17 (a0 : Nat) (Q : Int32 → ql_H → Prop) : Nat → Int32 → ql_H → Prop
  | 0, _, _ => False
  | n + 1, xl1, h =>
    if xl1 < 0 then (qw_X12_consolidate_55 a0 Q ql_FU (0 : Int32) h) else (ql_rv h (some a0) 13 fun b33 => qw_X12_isOver b33 xl1 h (fun x33 h =>
    if x33 = 0 then (qw_X12_consolidate_47 a0 Q (qw_X12_consolidate_17 a0 Q n) xl1 h) else (ql_rv h (some a0) 13 fun b34 => qw_X12_drops b34 xl1 h (fun h =>
    ql_gR h (some a0) 13 0 fun r36 =>
    ql_lI h r36 0 (5 : Int32) fun x37 =>
    ql_sI h r36 0 (5 : Int32) (x37 + (1 : Int32)) fun h =>
    qw_X12_consolidate_47 a0 Q (qw_X12_consolidate_17 a0 Q n) xl1 h))))
def qw_X12_consolidate (a0 : Nat) (h : ql_H) (Q : Int32 → ql_H → Prop) : Prop :=
ql_gR h (some a0) 13 0 fun r38 =>
ql_rv h (some a0) 13 fun b38 => qw_X12_keeps b38 r38 h (fun h =>
ql_gR h (some a0) 13 0 fun r40 =>
ql_lI h r40 0 (0 : Int32) fun x41 =>
qw_X12_consolidate_17 a0 Q ql_FU (x41 - (1 : Int32)) h)
set_option maxHeartbeats 4000000 in
set_option maxRecDepth 100000 in
theorem qm_X12_consolidate (l : Launch) (hl9 : l.stackTraces = false) (D : ql_D) (h0 : ql_H) (a0 : Nat) (Q : Int32 → ql_H → Prop) (X : String → ql_H → Prop) (w : qw_X12_consolidate a0 h0 Q) : ql_M D l yX12_consolidate cX12_consolidate 4 (some .int) ({ frames := 6, cells := 0, slots := 0, locals := 111 } : Room) h0 [.ref a0] (ql_rI Q) X 0 0 := by
  refine ql_ofW (by decide) (Nat.le_of_ble_eq_true rfl) ?_
  intro p e s m below meth c ls C hr hlocks hnm htab S hl
  have hl : lv_has ls 4 [(0, .ref a0)] := hl
  have hB170 : ∀ n : Nat, ∀ (xl1 : Int32) (h : ql_H) (H : Heap) (locs : List Loc) (ls : Array Slot), ql_S D h0 s H locs h → lv_has ls 4 [(0, .ref a0), (1, .int xl1)] → qw_X12_consolidate_170 a0 Q n xl1 h → W p l e ({ frames := 6, cells := 0, slots := 0, locals := 111 } : Room) s m ([.ref a0] : List Value).toArray below meth c H locs 0 0 (vx_MQ below (ql_Q D h0 (ql_rI Q)) (ql_X D h0 X) ([.ref a0] : List Value).toArray s 0 0 (ql_A h0)) (F0 m 170 ls []) := by
    intro n
    induction n with
    | zero => intro xl1 h H locs ls S hl w; rw [qw_X12_consolidate_170] at w; exact w.elim
    | succ n ih =>
      intro xl1 h H locs ls S hl w
      rw [qw_X12_consolidate_170] at w
      refine lv_iload_n C.1.1 C.1.2.1 dX12_consolidate_170 rfl (lv_at hl 1 rfl) ?_
      refine ql_aload_n (r := (some a0)) C dX12_consolidate_171 rfl (lv_at hl 0 rfl) ?_
      refine ql_getR C S qf_13_0 gw_1668 dX12_consolidate_172 w (fun r1 w => ?_)
      refine lv_iconst (v := (0 : Int32)) C.1.1 C.1.2.1 dX12_consolidate_175 (by decide) ?_
      refine ql_iald C S dX12_consolidate_176 w (fun x2 w => ?_)
      refine lv_icmp_ge (tgt := 198) C.1.1 C.1.2.1 dX12_consolidate_177 (by decide) (fun c9 => ?_) (fun c9 => ?_)
      · replace w := ql_if w c9
        refine ql_aload_n (r := (some a0)) C dX12_consolidate_198 rfl (lv_at hl 0 rfl) ?_
        refine ql_getR C S qf_13_0 gw_1668 dX12_consolidate_199 w (fun r3 w => ?_)
        refine lv_bipush (v := (7 : Int32)) C.1.1 C.1.2.1 dX12_consolidate_202 (by decide) ?_
        refine ql_aload_n (r := (some a0)) C dX12_consolidate_204 rfl (lv_at hl 0 rfl) ?_
        refine ql_getR C S qf_13_0 gw_1668 dX12_consolidate_205 w (fun r4 w => ?_)
        refine lv_bipush (v := (6 : Int32)) C.1.1 C.1.2.1 dX12_consolidate_208 (by decide) ?_
        refine ql_iald C S dX12_consolidate_210 w (fun x5 w => ?_)
        refine lv_bipush (v := (6 : Int32)) C.1.1 C.1.2.1 dX12_consolidate_211 (by decide) ?_
        refine lv_irem C.1.1 C.1.2.1 dX12_consolidate_213 w.1 ?_
        replace w := w.2
        refine lv_iadd C.1.1 C.1.2.1 dX12_consolidate_214 ?_
        refine ql_aload_n (r := (some a0)) C dX12_consolidate_215 rfl (lv_at hl 0 rfl) ?_
        refine ql_getR C S qf_13_0 gw_1668 dX12_consolidate_216 w (fun r6 w => ?_)
        refine lv_iconst (v := (2 : Int32)) C.1.1 C.1.2.1 dX12_consolidate_219 (by decide) ?_
        refine ql_iald C S dX12_consolidate_220 w (fun x7 w => ?_)
        refine ql_iast C S dX12_consolidate_221 w (fun h H locs S w => ?_)
        refine ql_aload_n (r := (some a0)) C dX12_consolidate_222 rfl (lv_at hl 0 rfl) ?_
        refine ql_getR C S qf_13_0 gw_1668 dX12_consolidate_223 w (fun r8 w => ?_)
        refine lv_bipush (v := (6 : Int32)) C.1.1 C.1.2.1 dX12_consolidate_226 (by decide) ?_
        refine lv_dup2_11 C.1.1 C.1.2.1 dX12_consolidate_228 rfl (ql_catR _) ?_
        refine ql_iald C S dX12_consolidate_229 w (fun x9 w => ?_)
        refine lv_iconst (v := (1 : Int32)) C.1.1 C.1.2.1 dX12_consolidate_230 (by decide) ?_
        refine lv_iadd C.1.1 C.1.2.1 dX12_consolidate_231 ?_
        refine ql_iast C S dX12_consolidate_232 w (fun h H locs S w => ?_)
        refine ql_aload_n (r := (some a0)) C dX12_consolidate_233 rfl (lv_at hl 0 rfl) ?_
        refine ql_getR C S qf_13_0 gw_1668 dX12_consolidate_234 w (fun r10 w => ?_)
        refine lv_bipush (v := (6 : Int32)) C.1.1 C.1.2.1 dX12_consolidate_237 (by decide) ?_
        refine ql_iald C S dX12_consolidate_239 w (fun x11 w => ?_)
        exact ql_iret C S hr hlocks dX12_consolidate_240 ⟨Nat.le_of_ble_eq_true rfl, Nat.le_of_ble_eq_true rfl⟩ w
      · replace w := ql_ifn w c9
        refine ql_aload_n (r := (some a0)) C dX12_consolidate_180 rfl (lv_at hl 0 rfl) ?_
        refine lv_iload_n C.1.1 C.1.2.1 dX12_consolidate_181 rfl (lv_at hl 1 rfl) ?_
        refine lv_iconst (v := (1 : Int32)) C.1.1 C.1.2.1 dX12_consolidate_182 (by decide) ?_
        refine ql_aload_n (r := (some a0)) C dX12_consolidate_183 rfl (lv_at hl 0 rfl) ?_
        refine ql_getR C S qf_13_14 gw_1682 dX12_consolidate_184 w (fun r12 w => ?_)
        refine lv_iload_n C.1.1 C.1.2.1 dX12_consolidate_187 rfl (lv_at hl 1 rfl) ?_
        refine ql_iald C S dX12_consolidate_188 w (fun x13 w => ?_)
        refine ql_VV (As := [.int xl1, .int (1 : Int32), .int x13]) (rest := []) C S htab hlocks hl qy_X12_lays qi_X12_lays qs_X12_lays gw_1760 (ci := 13) rfl w (fun b w => qm_X12_lays l hl9 D _ b xl1 (1 : Int32) x13 _ _ w) rfl ⟨Nat.le_of_ble_eq_true rfl, Nat.le_of_ble_eq_true rfl⟩ ⟨rfl, rfl⟩ (by exact Nat.le_of_ble_eq_true rfl) (fun b e9 => by cases e9; rfl) dX12_consolidate_189 ⟨Nat.le_of_ble_eq_true rfl, Nat.le_of_ble_eq_true rfl⟩ ⟨Nat.le_of_ble_eq_true rfl, Nat.le_of_ble_eq_true rfl⟩ (fun h H locs S w => ?_)
        refine W.cs (cells' := 0) (slots' := 0) rfl rfl ?_
        refine lv_iinc (v := (xl1 + (1 : Int32))) (lv' := [(1, .int (xl1 + (1 : Int32))), (0, .ref a0)]) C.1.1 C.1.2.1 dX12_consolidate_192 hl (k := 1) rfl rfl (by decide) rfl (fun ls hl => ?_)
        refine lv_goto (tgt := 170) C.1.1 C.1.2.1 dX12_consolidate_195 (by decide) ?_
        exact ih (xl1 + (1 : Int32)) _ _ _ _ S (lv_sub hl [1, 0] rfl) w
  have hB128 : ∀ (k55 : Int32 → ql_H → Prop) (hk55 : ∀ (xl1 : Int32) (h : ql_H) (H : Heap) (locs : List Loc) (ls : Array Slot), ql_S D h0 s H locs h → lv_has ls 4 [(0, .ref a0), (1, .int xl1)] → k55 xl1 h → W p l e ({ frames := 6, cells := 0, slots := 0, locals := 111 } : Room) s m ([.ref a0] : List Value).toArray below meth c H locs 0 0 (vx_MQ below (ql_Q D h0 (ql_rI Q)) (ql_X D h0 X) ([.ref a0] : List Value).toArray s 0 0 (ql_A h0)) (F0 m 55 ls [])) , ∀ n : Nat, ∀ (xl1 : Int32) (xl2 : Int32) (xl3 : Int32) (h : ql_H) (H : Heap) (locs : List Loc) (ls : Array Slot), ql_S D h0 s H locs h → lv_has ls 4 [(0, .ref a0), (1, .int xl1), (2, .int xl2), (3, .int xl3)] → qw_X12_consolidate_128 a0 Q k55 n xl1 xl2 xl3 h → W p l e ({ frames := 6, cells := 0, slots := 0, locals := 111 } : Room) s m ([.ref a0] : List Value).toArray below meth c H locs 0 0 (vx_MQ below (ql_Q D h0 (ql_rI Q)) (ql_X D h0 X) ([.ref a0] : List Value).toArray s 0 0 (ql_A h0)) (F0 m 128 ls []) := by
    intro k55 hk55 n
    induction n with
    | zero => intro xl1 xl2 xl3 h H locs ls S hl w; rw [qw_X12_consolidate_128] at w; exact w.elim
    | succ n ih =>
      intro xl1 xl2 xl3 h H locs ls S hl w
      rw [qw_X12_consolidate_128] at w
      refine lv_iload_n C.1.1 C.1.2.1 dX12_consolidate_128 rfl (lv_at hl 3 rfl) ?_
      refine lv_iconst (v := (4 : Int32)) C.1.1 C.1.2.1 dX12_consolidate_129 (by decide) ?_
      refine lv_icmp_ge (tgt := 155) C.1.1 C.1.2.1 dX12_consolidate_130 (by decide) (fun c9 => ?_) (fun c9 => ?_)
      · replace w := ql_if w c9
        refine ql_aload_n (r := (some a0)) C dX12_consolidate_155 rfl (lv_at hl 0 rfl) ?_
        refine lv_iload_n C.1.1 C.1.2.1 dX12_consolidate_156 rfl (lv_at hl 1 rfl) ?_
        refine lv_iconst (v := (4 : Int32)) C.1.1 C.1.2.1 dX12_consolidate_157 (by decide) ?_
        refine lv_iconst (v := (1 : Int32)) C.1.1 C.1.2.1 dX12_consolidate_158 (by decide) ?_
        refine ql_VV (As := [.int xl1, .int (4 : Int32), .int (1 : Int32)]) (rest := []) C S htab hlocks hl qy_X12_lays qi_X12_lays qs_X12_lays gw_1760 (ci := 13) rfl w (fun b w => qm_X12_lays l hl9 D _ b xl1 (4 : Int32) (1 : Int32) _ _ w) rfl ⟨Nat.le_of_ble_eq_true rfl, Nat.le_of_ble_eq_true rfl⟩ ⟨rfl, rfl⟩ (by exact Nat.le_of_ble_eq_true rfl) (fun b e9 => by cases e9; rfl) dX12_consolidate_159 ⟨Nat.le_of_ble_eq_true rfl, Nat.le_of_ble_eq_true rfl⟩ ⟨Nat.le_of_ble_eq_true rfl, Nat.le_of_ble_eq_true rfl⟩ (fun h H locs S w => ?_)
        refine W.cs (cells' := 0) (slots' := 0) rfl rfl ?_
        refine lv_iinc (v := (xl1 + (1 : Int32))) (lv' := [(1, .int (xl1 + (1 : Int32))), (0, .ref a0), (2, .int xl2), (3, .int xl3)]) C.1.1 C.1.2.1 dX12_consolidate_162 hl (k := 1) rfl rfl (by decide) rfl (fun ls hl => ?_)
        refine lv_goto (tgt := 55) C.1.1 C.1.2.1 dX12_consolidate_165 (by decide) ?_
        exact hk55 (xl1 + (1 : Int32)) _ _ _ _ S (lv_sub hl [1, 0] rfl) w
      · replace w := ql_ifn w c9
        refine ql_aload_n (r := (some a0)) C dX12_consolidate_133 rfl (lv_at hl 0 rfl) ?_
        refine lv_iload_n C.1.1 C.1.2.1 dX12_consolidate_134 rfl (lv_at hl 1 rfl) ?_
        refine lv_iconst (v := (5 : Int32)) C.1.1 C.1.2.1 dX12_consolidate_135 (by decide) ?_
        refine lv_iload_n C.1.1 C.1.2.1 dX12_consolidate_136 rfl (lv_at hl 3 rfl) ?_
        refine lv_iadd C.1.1 C.1.2.1 dX12_consolidate_137 ?_
        refine ql_aload_n (r := (some a0)) C dX12_consolidate_138 rfl (lv_at hl 0 rfl) ?_
        refine lv_iload_n C.1.1 C.1.2.1 dX12_consolidate_139 rfl (lv_at hl 1 rfl) ?_
        refine lv_iload_n C.1.1 C.1.2.1 dX12_consolidate_140 rfl (lv_at hl 2 rfl) ?_
        refine lv_iload_n C.1.1 C.1.2.1 dX12_consolidate_141 rfl (lv_at hl 3 rfl) ?_
        refine lv_iadd C.1.1 C.1.2.1 dX12_consolidate_142 ?_
        refine ql_VI (As := [.int xl1, .int (xl2 + xl3)]) (rest := [.int ((5 : Int32) + xl3), .int xl1, .ref a0]) C S htab hlocks hl qy_X12_of qi_X12_of qs_X12_of gw_1745 (ci := 13) rfl w (fun b w => qm_X12_of l hl9 D _ b xl1 (xl2 + xl3) _ _ w) rfl ⟨Nat.le_of_ble_eq_true rfl, Nat.le_of_ble_eq_true rfl⟩ ⟨rfl, rfl⟩ (by exact Nat.le_of_ble_eq_true rfl) (fun b e9 => by cases e9; rfl) dX12_consolidate_143 ⟨Nat.le_of_ble_eq_true rfl, Nat.le_of_ble_eq_true rfl⟩ ⟨Nat.le_of_ble_eq_true rfl, Nat.le_of_ble_eq_true rfl⟩ (fun x16 h H locs S w => ?_)
        refine W.cs (cells' := 0) (slots' := 0) rfl rfl ?_
        refine ql_VV (As := [.int xl1, .int ((5 : Int32) + xl3), .int x16]) (rest := []) C S htab hlocks hl qy_X12_lays qi_X12_lays qs_X12_lays gw_1760 (ci := 13) rfl w (fun b w => qm_X12_lays l hl9 D _ b xl1 ((5 : Int32) + xl3) x16 _ _ w) rfl ⟨Nat.le_of_ble_eq_true rfl, Nat.le_of_ble_eq_true rfl⟩ ⟨rfl, rfl⟩ (by exact Nat.le_of_ble_eq_true rfl) (fun b e9 => by cases e9; rfl) dX12_consolidate_146 ⟨Nat.le_of_ble_eq_true rfl, Nat.le_of_ble_eq_true rfl⟩ ⟨Nat.le_of_ble_eq_true rfl, Nat.le_of_ble_eq_true rfl⟩ (fun h H locs S w => ?_)
        refine W.cs (cells' := 0) (slots' := 0) rfl rfl ?_
        refine lv_iinc (v := (xl3 + (1 : Int32))) (lv' := [(3, .int (xl3 + (1 : Int32))), (0, .ref a0), (1, .int xl1), (2, .int xl2)]) C.1.1 C.1.2.1 dX12_consolidate_149 hl (k := 3) rfl rfl (by decide) rfl (fun ls hl => ?_)
        refine lv_goto (tgt := 128) C.1.1 C.1.2.1 dX12_consolidate_152 (by decide) ?_
        exact ih xl1 xl2 (xl3 + (1 : Int32)) _ _ _ _ S (lv_sub hl [1, 2, 3, 0] rfl) w
  have hB101 : ∀ (k75 : Int32 → Int32 → ql_H → Prop) (hk75 : ∀ (xl1 : Int32) (xl2 : Int32) (h : ql_H) (H : Heap) (locs : List Loc) (ls : Array Slot), ql_S D h0 s H locs h → lv_has ls 4 [(0, .ref a0), (1, .int xl1), (2, .int xl2)] → k75 xl1 xl2 h → W p l e ({ frames := 6, cells := 0, slots := 0, locals := 111 } : Room) s m ([.ref a0] : List Value).toArray below meth c H locs 0 0 (vx_MQ below (ql_Q D h0 (ql_rI Q)) (ql_X D h0 X) ([.ref a0] : List Value).toArray s 0 0 (ql_A h0)) (F0 m 75 ls [])) , ∀ (xl1 : Int32) (xl2 : Int32) (h : ql_H) (H : Heap) (locs : List Loc) (ls : Array Slot), ql_S D h0 s H locs h → lv_has ls 4 [(0, .ref a0), (1, .int xl1), (2, .int xl2)] → qw_X12_consolidate_101 a0 Q k75 xl1 xl2 h → W p l e ({ frames := 6, cells := 0, slots := 0, locals := 111 } : Room) s m ([.ref a0] : List Value).toArray below meth c H locs 0 0 (vx_MQ below (ql_Q D h0 (ql_rI Q)) (ql_X D h0 X) ([.ref a0] : List Value).toArray s 0 0 (ql_A h0)) (F0 m 101 ls []) := by
    intro k75 hk75 xl1 xl2 h H locs ls S hl w
    unfold qw_X12_consolidate_101 at w
    refine lv_iinc (v := (xl2 + (-1 : Int32))) (lv' := [(2, .int (xl2 + (-1 : Int32))), (0, .ref a0), (1, .int xl1)]) C.1.1 C.1.2.1 dX12_consolidate_101 hl (k := 2) rfl rfl (by decide) rfl (fun ls hl => ?_)
    refine lv_goto (tgt := 75) C.1.1 C.1.2.1 dX12_consolidate_104 (by decide) ?_
    exact hk75 xl1 (xl2 + (-1 : Int32)) _ _ _ _ S (lv_sub hl [1, 2, 0] rfl) w
  have hB75 : ∀ (k55 : Int32 → ql_H → Prop) (hk55 : ∀ (xl1 : Int32) (h : ql_H) (H : Heap) (locs : List Loc) (ls : Array Slot), ql_S D h0 s H locs h → lv_has ls 4 [(0, .ref a0), (1, .int xl1)] → k55 xl1 h → W p l e ({ frames := 6, cells := 0, slots := 0, locals := 111 } : Room) s m ([.ref a0] : List Value).toArray below meth c H locs 0 0 (vx_MQ below (ql_Q D h0 (ql_rI Q)) (ql_X D h0 X) ([.ref a0] : List Value).toArray s 0 0 (ql_A h0)) (F0 m 55 ls [])) , ∀ n : Nat, ∀ (xl1 : Int32) (xl2 : Int32) (h : ql_H) (H : Heap) (locs : List Loc) (ls : Array Slot), ql_S D h0 s H locs h → lv_has ls 4 [(0, .ref a0), (1, .int xl1), (2, .int xl2)] → qw_X12_consolidate_75 a0 Q k55 n xl1 xl2 h → W p l e ({ frames := 6, cells := 0, slots := 0, locals := 111 } : Room) s m ([.ref a0] : List Value).toArray below meth c H locs 0 0 (vx_MQ below (ql_Q D h0 (ql_rI Q)) (ql_X D h0 X) ([.ref a0] : List Value).toArray s 0 0 (ql_A h0)) (F0 m 75 ls []) := by
    intro k55 hk55 n
    induction n with
    | zero => intro xl1 xl2 h H locs ls S hl w; rw [qw_X12_consolidate_75] at w; exact w.elim
    | succ n ih =>
      intro xl1 xl2 h H locs ls S hl w
      rw [qw_X12_consolidate_75] at w
      refine lv_iload_n C.1.1 C.1.2.1 dX12_consolidate_75 rfl (lv_at hl 2 rfl) ?_
      refine lv_if_lt (tgt := 107) C.1.1 C.1.2.1 dX12_consolidate_76 (by decide) (fun c9 => ?_) (fun c9 => ?_)
      · replace w := ql_if w c9
        refine ql_aload_n (r := (some a0)) C dX12_consolidate_107 rfl (lv_at hl 0 rfl) ?_
        refine ql_getR C S qf_13_14 gw_1682 dX12_consolidate_108 w (fun r19 w => ?_)
        refine lv_iload_n C.1.1 C.1.2.1 dX12_consolidate_111 rfl (lv_at hl 1 rfl) ?_
        refine ql_aload_n (r := (some a0)) C dX12_consolidate_112 rfl (lv_at hl 0 rfl) ?_
        refine lv_iload_n C.1.1 C.1.2.1 dX12_consolidate_113 rfl (lv_at hl 1 rfl) ?_
        refine ql_VI (As := [.int xl1]) (rest := [.int xl1, va_rf r19]) C S htab hlocks hl qy_X12_sectionsBefore qi_X12_sectionsBefore qs_X12_sectionsBefore gw_1844 (ci := 13) rfl w (fun b w => qm_X12_sectionsBefore l hl9 D _ b xl1 _ _ w) rfl ⟨Nat.le_of_ble_eq_true rfl, Nat.le_of_ble_eq_true rfl⟩ ⟨rfl, rfl⟩ (by generalize r19 = z0; cases z0 <;> exact Nat.le_of_ble_eq_true rfl) (fun b e9 => by cases e9; rfl) dX12_consolidate_114 ⟨Nat.le_of_ble_eq_true rfl, Nat.le_of_ble_eq_true rfl⟩ ⟨Nat.le_of_ble_eq_true rfl, Nat.le_of_ble_eq_true rfl⟩ (fun x20 h H locs S w => ?_)
        refine W.cs (cells' := 0) (slots' := 0) rfl rfl ?_
        refine lv_iconst (v := (1 : Int32)) C.1.1 C.1.2.1 dX12_consolidate_117 (by decide) ?_
        refine lv_iadd C.1.1 C.1.2.1 dX12_consolidate_118 ?_
        refine ql_iast C S dX12_consolidate_119 w (fun h H locs S w => ?_)
        refine ql_aload_n (r := (some a0)) C dX12_consolidate_120 rfl (lv_at hl 0 rfl) ?_
        refine lv_iload_n C.1.1 C.1.2.1 dX12_consolidate_121 rfl (lv_at hl 1 rfl) ?_
        refine ql_VI (As := [.int xl1]) (rest := []) C S htab hlocks hl qy_X12_lastVersion qi_X12_lastVersion qs_X12_lastVersion gw_1780 (ci := 13) rfl w (fun b w => qm_X12_lastVersion l hl9 D _ b xl1 _ _ w) rfl ⟨Nat.le_of_ble_eq_true rfl, Nat.le_of_ble_eq_true rfl⟩ ⟨rfl, rfl⟩ (by exact Nat.le_of_ble_eq_true rfl) (fun b e9 => by cases e9; rfl) dX12_consolidate_122 ⟨Nat.le_of_ble_eq_true rfl, Nat.le_of_ble_eq_true rfl⟩ ⟨Nat.le_of_ble_eq_true rfl, Nat.le_of_ble_eq_true rfl⟩ (fun x22 h H locs S w => ?_)
        refine W.cs (cells' := 0) (slots' := 0) rfl rfl ?_
        refine lv_istore_n (lv' := [(2, .int x22), (0, .ref a0), (1, .int xl1)]) C.1.1 C.1.2.1 dX12_consolidate_125 rfl hl (by decide) rfl (fun ls hl => ?_)
        refine lv_iconst (v := (0 : Int32)) C.1.1 C.1.2.1 dX12_consolidate_126 (by decide) ?_
        refine lv_istore_n (lv' := [(3, .int (0 : Int32)), (2, .int x22), (0, .ref a0), (1, .int xl1)]) C.1.1 C.1.2.1 dX12_consolidate_127 rfl hl (by decide) rfl (fun ls hl => ?_)
        exact hB128 k55 hk55 ql_FU xl1 x22 (0 : Int32) _ _ _ _ S (lv_sub hl [2, 3, 1, 0] rfl) w
      · replace w := ql_ifn w c9
        refine ql_aload_n (r := (some a0)) C dX12_consolidate_79 rfl (lv_at hl 0 rfl) ?_
        refine ql_aload_n (r := (some a0)) C dX12_consolidate_80 rfl (lv_at hl 0 rfl) ?_
        refine lv_iload_n C.1.1 C.1.2.1 dX12_consolidate_81 rfl (lv_at hl 1 rfl) ?_
        refine lv_bipush (v := (38 : Int32)) C.1.1 C.1.2.1 dX12_consolidate_82 (by decide) ?_
        refine lv_iload_n C.1.1 C.1.2.1 dX12_consolidate_84 rfl (lv_at hl 2 rfl) ?_
        refine lv_iadd C.1.1 C.1.2.1 dX12_consolidate_85 ?_
        refine ql_VI (As := [.int xl1, .int ((38 : Int32) + xl2)]) (rest := [.ref a0]) C S htab hlocks hl qy_X12_of qi_X12_of qs_X12_of gw_1745 (ci := 13) rfl w (fun b w => qm_X12_of l hl9 D _ b xl1 ((38 : Int32) + xl2) _ _ w) rfl ⟨Nat.le_of_ble_eq_true rfl, Nat.le_of_ble_eq_true rfl⟩ ⟨rfl, rfl⟩ (by exact Nat.le_of_ble_eq_true rfl) (fun b e9 => by cases e9; rfl) dX12_consolidate_86 ⟨Nat.le_of_ble_eq_true rfl, Nat.le_of_ble_eq_true rfl⟩ ⟨Nat.le_of_ble_eq_true rfl, Nat.le_of_ble_eq_true rfl⟩ (fun x24 h H locs S w => ?_)
        refine W.cs (cells' := 0) (slots' := 0) rfl rfl ?_
        refine ql_VI (As := [.int x24]) (rest := []) C S htab hlocks hl qy_X12_placeOf qi_X12_placeOf qs_X12_placeOf gw_1772 (ci := 13) rfl w (fun b w => qm_X12_placeOf l hl9 D _ b x24 _ _ w) rfl ⟨Nat.le_of_ble_eq_true rfl, Nat.le_of_ble_eq_true rfl⟩ ⟨rfl, rfl⟩ (by exact Nat.le_of_ble_eq_true rfl) (fun b e9 => by cases e9; rfl) dX12_consolidate_89 ⟨Nat.le_of_ble_eq_true rfl, Nat.le_of_ble_eq_true rfl⟩ ⟨Nat.le_of_ble_eq_true rfl, Nat.le_of_ble_eq_true rfl⟩ (fun x26 h H locs S w => ?_)
        refine W.cs (cells' := 0) (slots' := 0) rfl rfl ?_
        refine lv_if_ge (tgt := 101) C.1.1 C.1.2.1 dX12_consolidate_92 (by decide) (fun c9 => ?_) (fun c9 => ?_)
        · replace w := ql_if w c9
          exact hB101 (qw_X12_consolidate_75 a0 Q k55 n) ih xl1 xl2 _ _ _ _ S (lv_sub hl [0, 1, 2] rfl) w
        · replace w := ql_ifn w c9
          refine ql_aload_n (r := (some a0)) C dX12_consolidate_95 rfl (lv_at hl 0 rfl) ?_
          refine lv_iload_n C.1.1 C.1.2.1 dX12_consolidate_96 rfl (lv_at hl 1 rfl) ?_
          refine lv_iload_n C.1.1 C.1.2.1 dX12_consolidate_97 rfl (lv_at hl 2 rfl) ?_
          refine ql_VV (As := [.int xl1, .int xl2]) (rest := []) C S htab hlocks hl qy_X12_dropsCite qi_X12_dropsCite qs_X12_dropsCite gw_1828 (ci := 13) rfl w (fun b w => qm_X12_dropsCite l hl9 D _ b xl1 xl2 _ _ w) rfl ⟨Nat.le_of_ble_eq_true rfl, Nat.le_of_ble_eq_true rfl⟩ ⟨rfl, rfl⟩ (by exact Nat.le_of_ble_eq_true rfl) (fun b e9 => by cases e9; rfl) dX12_consolidate_98 ⟨Nat.le_of_ble_eq_true rfl, Nat.le_of_ble_eq_true rfl⟩ ⟨Nat.le_of_ble_eq_true rfl, Nat.le_of_ble_eq_true rfl⟩ (fun h H locs S w => ?_)
          refine W.cs (cells' := 0) (slots' := 0) rfl rfl ?_
          exact hB101 (qw_X12_consolidate_75 a0 Q k55 n) ih xl1 xl2 _ _ _ _ S (lv_sub hl [0, 1, 2] rfl) w
  have hB55 : ∀ n : Nat, ∀ (xl1 : Int32) (h : ql_H) (H : Heap) (locs : List Loc) (ls : Array Slot), ql_S D h0 s H locs h → lv_has ls 4 [(0, .ref a0), (1, .int xl1)] → qw_X12_consolidate_55 a0 Q n xl1 h → W p l e ({ frames := 6, cells := 0, slots := 0, locals := 111 } : Room) s m ([.ref a0] : List Value).toArray below meth c H locs 0 0 (vx_MQ below (ql_Q D h0 (ql_rI Q)) (ql_X D h0 X) ([.ref a0] : List Value).toArray s 0 0 (ql_A h0)) (F0 m 55 ls []) := by
    intro n
    induction n with
    | zero => intro xl1 h H locs ls S hl w; rw [qw_X12_consolidate_55] at w; exact w.elim
    | succ n ih =>
      intro xl1 h H locs ls S hl w
      rw [qw_X12_consolidate_55] at w
      refine lv_iload_n C.1.1 C.1.2.1 dX12_consolidate_55 rfl (lv_at hl 1 rfl) ?_
      refine ql_aload_n (r := (some a0)) C dX12_consolidate_56 rfl (lv_at hl 0 rfl) ?_
      refine ql_getR C S qf_13_0 gw_1668 dX12_consolidate_57 w (fun r29 w => ?_)
      refine lv_iconst (v := (0 : Int32)) C.1.1 C.1.2.1 dX12_consolidate_60 (by decide) ?_
      refine ql_iald C S dX12_consolidate_61 w (fun x30 w => ?_)
      refine lv_icmp_ge (tgt := 168) C.1.1 C.1.2.1 dX12_consolidate_62 (by decide) (fun c9 => ?_) (fun c9 => ?_)
      · replace w := ql_if w c9
        refine lv_iconst (v := (0 : Int32)) C.1.1 C.1.2.1 dX12_consolidate_168 (by decide) ?_
        refine lv_istore_n (lv' := [(1, .int (0 : Int32)), (0, .ref a0)]) C.1.1 C.1.2.1 dX12_consolidate_169 rfl hl (by decide) rfl (fun ls hl => ?_)
        exact hB170 ql_FU (0 : Int32) _ _ _ _ S (lv_sub hl [1, 0] rfl) w
      · replace w := ql_ifn w c9
        refine ql_aload_n (r := (some a0)) C dX12_consolidate_65 rfl (lv_at hl 0 rfl) ?_
        refine lv_iload_n C.1.1 C.1.2.1 dX12_consolidate_66 rfl (lv_at hl 1 rfl) ?_
        refine lv_bipush (v := (37 : Int32)) C.1.1 C.1.2.1 dX12_consolidate_67 (by decide) ?_
        refine ql_VI (As := [.int xl1, .int (37 : Int32)]) (rest := []) C S htab hlocks hl qy_X12_of qi_X12_of qs_X12_of gw_1745 (ci := 13) rfl w (fun b w => qm_X12_of l hl9 D _ b xl1 (37 : Int32) _ _ w) rfl ⟨Nat.le_of_ble_eq_true rfl, Nat.le_of_ble_eq_true rfl⟩ ⟨rfl, rfl⟩ (by exact Nat.le_of_ble_eq_true rfl) (fun b e9 => by cases e9; rfl) dX12_consolidate_69 ⟨Nat.le_of_ble_eq_true rfl, Nat.le_of_ble_eq_true rfl⟩ ⟨Nat.le_of_ble_eq_true rfl, Nat.le_of_ble_eq_true rfl⟩ (fun x31 h H locs S w => ?_)
        refine W.cs (cells' := 0) (slots' := 0) rfl rfl ?_
        refine lv_iconst (v := (1 : Int32)) C.1.1 C.1.2.1 dX12_consolidate_72 (by decide) ?_
        refine lv_isub C.1.1 C.1.2.1 dX12_consolidate_73 ?_
        refine lv_istore_n (lv' := [(2, .int (x31 - (1 : Int32))), (0, .ref a0), (1, .int xl1)]) C.1.1 C.1.2.1 dX12_consolidate_74 rfl hl (by decide) rfl (fun ls hl => ?_)
        exact hB75 (qw_X12_consolidate_55 a0 Q n) ih ql_FU xl1 (x31 - (1 : Int32)) _ _ _ _ S (lv_sub hl [1, 2, 0] rfl) w
  have hB47 : ∀ (k17 : Int32 → ql_H → Prop) (hk17 : ∀ (xl1 : Int32) (h : ql_H) (H : Heap) (locs : List Loc) (ls : Array Slot), ql_S D h0 s H locs h → lv_has ls 4 [(0, .ref a0), (1, .int xl1)] → k17 xl1 h → W p l e ({ frames := 6, cells := 0, slots := 0, locals := 111 } : Room) s m ([.ref a0] : List Value).toArray below meth c H locs 0 0 (vx_MQ below (ql_Q D h0 (ql_rI Q)) (ql_X D h0 X) ([.ref a0] : List Value).toArray s 0 0 (ql_A h0)) (F0 m 17 ls [])) , ∀ (xl1 : Int32) (h : ql_H) (H : Heap) (locs : List Loc) (ls : Array Slot), ql_S D h0 s H locs h → lv_has ls 4 [(0, .ref a0), (1, .int xl1)] → qw_X12_consolidate_47 a0 Q k17 xl1 h → W p l e ({ frames := 6, cells := 0, slots := 0, locals := 111 } : Room) s m ([.ref a0] : List Value).toArray below meth c H locs 0 0 (vx_MQ below (ql_Q D h0 (ql_rI Q)) (ql_X D h0 X) ([.ref a0] : List Value).toArray s 0 0 (ql_A h0)) (F0 m 47 ls []) := by
    intro k17 hk17 xl1 h H locs ls S hl w
    unfold qw_X12_consolidate_47 at w
    refine lv_iinc (v := (xl1 + (-1 : Int32))) (lv' := [(1, .int (xl1 + (-1 : Int32))), (0, .ref a0)]) C.1.1 C.1.2.1 dX12_consolidate_47 hl (k := 1) rfl rfl (by decide) rfl (fun ls hl => ?_)
    refine lv_goto (tgt := 17) C.1.1 C.1.2.1 dX12_consolidate_50 (by decide) ?_
    exact hk17 (xl1 + (-1 : Int32)) _ _ _ _ S (lv_sub hl [1, 0] rfl) w
  have hB17 : ∀ n : Nat, ∀ (xl1 : Int32) (h : ql_H) (H : Heap) (locs : List Loc) (ls : Array Slot), ql_S D h0 s H locs h → lv_has ls 4 [(0, .ref a0), (1, .int xl1)] → qw_X12_consolidate_17 a0 Q n xl1 h → W p l e ({ frames := 6, cells := 0, slots := 0, locals := 111 } : Room) s m ([.ref a0] : List Value).toArray below meth c H locs 0 0 (vx_MQ below (ql_Q D h0 (ql_rI Q)) (ql_X D h0 X) ([.ref a0] : List Value).toArray s 0 0 (ql_A h0)) (F0 m 17 ls []) := by
    intro n
    induction n with
    | zero => intro xl1 h H locs ls S hl w; rw [qw_X12_consolidate_17] at w; exact w.elim
    | succ n ih =>
      intro xl1 h H locs ls S hl w
      rw [qw_X12_consolidate_17] at w
      refine lv_iload_n C.1.1 C.1.2.1 dX12_consolidate_17 rfl (lv_at hl 1 rfl) ?_
      refine lv_if_lt (tgt := 53) C.1.1 C.1.2.1 dX12_consolidate_18 (by decide) (fun c9 => ?_) (fun c9 => ?_)
      · replace w := ql_if w c9
        refine lv_iconst (v := (0 : Int32)) C.1.1 C.1.2.1 dX12_consolidate_53 (by decide) ?_
        refine lv_istore_n (lv' := [(1, .int (0 : Int32)), (0, .ref a0)]) C.1.1 C.1.2.1 dX12_consolidate_54 rfl hl (by decide) rfl (fun ls hl => ?_)
        exact hB55 ql_FU (0 : Int32) _ _ _ _ S (lv_sub hl [1, 0] rfl) w
      · replace w := ql_ifn w c9
        refine ql_aload_n (r := (some a0)) C dX12_consolidate_21 rfl (lv_at hl 0 rfl) ?_
        refine lv_iload_n C.1.1 C.1.2.1 dX12_consolidate_22 rfl (lv_at hl 1 rfl) ?_
        refine ql_VI (As := [.int xl1]) (rest := []) C S htab hlocks hl qy_X12_isOver qi_X12_isOver qs_X12_isOver gw_1812 (ci := 13) rfl w (fun b w => qm_X12_isOver l hl9 D _ b xl1 _ _ w) rfl ⟨Nat.le_of_ble_eq_true rfl, Nat.le_of_ble_eq_true rfl⟩ ⟨rfl, rfl⟩ (by exact Nat.le_of_ble_eq_true rfl) (fun b e9 => by cases e9; rfl) dX12_consolidate_23 ⟨Nat.le_of_ble_eq_true rfl, Nat.le_of_ble_eq_true rfl⟩ ⟨Nat.le_of_ble_eq_true rfl, Nat.le_of_ble_eq_true rfl⟩ (fun x33 h H locs S w => ?_)
        refine W.cs (cells' := 0) (slots' := 0) rfl rfl ?_
        refine lv_if_ne (tgt := 32) C.1.1 C.1.2.1 dX12_consolidate_26 (by decide) (fun c9 => ?_) (fun c9 => ?_)
        · replace w := ql_ifn w c9
          refine ql_aload_n (r := (some a0)) C dX12_consolidate_32 rfl (lv_at hl 0 rfl) ?_
          refine lv_iload_n C.1.1 C.1.2.1 dX12_consolidate_33 rfl (lv_at hl 1 rfl) ?_
          refine ql_VV (As := [.int xl1]) (rest := []) C S htab hlocks hl qy_X12_drops qi_X12_drops qs_X12_drops gw_1836 (ci := 13) rfl w (fun b w => qm_X12_drops l hl9 D _ b xl1 _ _ w) rfl ⟨Nat.le_of_ble_eq_true rfl, Nat.le_of_ble_eq_true rfl⟩ ⟨rfl, rfl⟩ (by exact Nat.le_of_ble_eq_true rfl) (fun b e9 => by cases e9; rfl) dX12_consolidate_34 ⟨Nat.le_of_ble_eq_true rfl, Nat.le_of_ble_eq_true rfl⟩ ⟨Nat.le_of_ble_eq_true rfl, Nat.le_of_ble_eq_true rfl⟩ (fun h H locs S w => ?_)
          refine W.cs (cells' := 0) (slots' := 0) rfl rfl ?_
          refine ql_aload_n (r := (some a0)) C dX12_consolidate_37 rfl (lv_at hl 0 rfl) ?_
          refine ql_getR C S qf_13_0 gw_1668 dX12_consolidate_38 w (fun r36 w => ?_)
          refine lv_iconst (v := (5 : Int32)) C.1.1 C.1.2.1 dX12_consolidate_41 (by decide) ?_
          refine lv_dup2_11 C.1.1 C.1.2.1 dX12_consolidate_42 rfl (ql_catR _) ?_
          refine ql_iald C S dX12_consolidate_43 w (fun x37 w => ?_)
          refine lv_iconst (v := (1 : Int32)) C.1.1 C.1.2.1 dX12_consolidate_44 (by decide) ?_
          refine lv_iadd C.1.1 C.1.2.1 dX12_consolidate_45 ?_
          refine ql_iast C S dX12_consolidate_46 w (fun h H locs S w => ?_)
          exact hB47 (qw_X12_consolidate_17 a0 Q n) ih xl1 _ _ _ _ S (lv_sub hl [0, 1] rfl) w
        · replace w := ql_if w c9
          refine lv_goto (tgt := 47) C.1.1 C.1.2.1 dX12_consolidate_29 (by decide) ?_
          exact hB47 (qw_X12_consolidate_17 a0 Q n) ih xl1 _ _ _ _ S (lv_sub hl [0, 1] rfl) w
  unfold qw_X12_consolidate at w
  refine ql_aload_n (r := (some a0)) C dX12_consolidate_0 rfl (lv_at hl 0 rfl) ?_
  refine ql_aload_n (r := (some a0)) C dX12_consolidate_1 rfl (lv_at hl 0 rfl) ?_
  refine ql_getR C S qf_13_0 gw_1668 dX12_consolidate_2 w (fun r38 w => ?_)
  refine ql_VV (As := [va_rf r38]) (rest := []) C S htab hlocks hl qy_X12_keeps qi_X12_keeps qs_X12_keeps gw_1753 (ci := 13) rfl w (fun b w => qm_X12_keeps l hl9 D _ b r38 _ _ w) rfl ⟨Nat.le_of_ble_eq_true rfl, Nat.le_of_ble_eq_true rfl⟩ ⟨rfl, rfl⟩ (by exact Nat.le_of_ble_eq_true rfl) (fun b e9 => by cases e9; rfl) dX12_consolidate_5 ⟨Nat.le_of_ble_eq_true rfl, Nat.le_of_ble_eq_true rfl⟩ ⟨Nat.le_of_ble_eq_true rfl, Nat.le_of_ble_eq_true rfl⟩ (fun h H locs S w => ?_)
  refine W.cs (cells' := 0) (slots' := 0) rfl rfl ?_
  refine ql_aload_n (r := (some a0)) C dX12_consolidate_8 rfl (lv_at hl 0 rfl) ?_
  refine ql_getR C S qf_13_0 gw_1668 dX12_consolidate_9 w (fun r40 w => ?_)
  refine lv_iconst (v := (0 : Int32)) C.1.1 C.1.2.1 dX12_consolidate_12 (by decide) ?_
  refine ql_iald C S dX12_consolidate_13 w (fun x41 w => ?_)
  refine lv_iconst (v := (1 : Int32)) C.1.1 C.1.2.1 dX12_consolidate_14 (by decide) ?_
  refine lv_isub C.1.1 C.1.2.1 dX12_consolidate_15 ?_
  refine lv_istore_n (lv' := [(1, .int (x41 - (1 : Int32))), (0, .ref a0)]) C.1.1 C.1.2.1 dX12_consolidate_16 rfl hl (by decide) rfl (fun ls hl => ?_)
  exact hB17 ql_FU (x41 - (1 : Int32)) _ _ _ _ S (lv_sub hl [1, 0] rfl) w
def qw_X12_advance_105 (a0 : Nat) (Q : Int32 → ql_H → Prop) (k81 : Int32 → Int32 → ql_H → Prop) (xl3 : Int32) (xs0 : Int32) (xs1 : Int32) (h : ql_H) : Prop :=
k81 (xs0 + xs1) (xl3 + (1 : Int32)) h
def qw_X12_advance_81 (a0 : Nat) (Q : Int32 → ql_H → Prop) : Nat → Int32 → Int32 → ql_H → Prop
  | 0, _, _, _ => False
  | n + 1, xl2, xl3, h =>
    ql_gR h (some a0) 13 0 fun r1 =>
    ql_lI h r1 0 (0 : Int32) fun x2 =>
    if x2 ≤ xl3 then (Q xl2 h) else (ql_rv h (some a0) 13 fun b3 => qw_X12_isOver b3 xl3 h (fun x3 h =>
    if x3 = 0 then (qw_X12_advance_105 a0 Q (qw_X12_advance_81 a0 Q n) xl3 xl2 (0 : Int32) h) else (qw_X12_advance_105 a0 Q (qw_X12_advance_81 a0 Q n) xl3 xl2 (1 : Int32) h)))
def qw_X12_advance_61 (a0 : Nat) (Q : Int32 → ql_H → Prop) (k37 : Int32 → Int32 → Int32 → ql_H → Prop) (xl1 : Int32) (xl3 : Int32) (xs0 : Int32) (xs1 : Int32) (h : ql_H) : Prop :=
k37 xl1 (xs0 - xs1) (xl3 + (1 : Int32)) h
def qw_X12_advance_37 (a0 : Nat) (Q : Int32 → ql_H → Prop) : Nat → Int32 → Int32 → Int32 → ql_H → Prop
  | 0, _, _, _, _ => False
  | n + 1, xl1, xl2, xl3, h =>
    ql_gR h (some a0) 13 0 fun r5 =>
    ql_lI h r5 0 (0 : Int32) fun x6 =>
    if x6 ≤ xl3 then (ql_gR h (some a0) 13 0 fun r7 =>
    ql_lI h r7 0 (2 : Int32) fun x8 =>
    ql_sI h r7 0 (2 : Int32) (x8 + xl1) fun h =>
    qw_X12_advance_81 a0 Q ql_FU xl2 (0 : Int32) h) else (ql_rv h (some a0) 13 fun b9 => qw_X12_isOver b9 xl3 h (fun x9 h =>
    if x9 = 0 then (qw_X12_advance_61 a0 Q (qw_X12_advance_37 a0 Q n) xl1 xl3 xl2 (0 : Int32) h) else (qw_X12_advance_61 a0 Q (qw_X12_advance_37 a0 Q n) xl1 xl3 xl2 (1 : Int32) h)))
def qw_X12_advance_17 (a0 : Nat) (Q : Int32 → ql_H → Prop) (xl1 : Int32) (rs0 : Option Nat) (xs1 : Int32) (h : ql_H) : Prop :=
ql_rv h rs0 13 fun b11 => qw_X12_fails b11 xs1 h (fun x11 h =>
if x11 = 0 then (ql_gR h (some a0) 13 0 fun r13 =>
ql_rv h (some a0) 13 fun b13 => qw_X12_keeps b13 r13 h (fun h =>
qw_X12_advance_37 a0 Q ql_FU xl1 (0 : Int32) (0 : Int32) h)) else (Q (0 : Int32) h))
def qw_X12_advance (a0 : Nat) (xp1 : Int32) (h : ql_H) (Q : Int32 → ql_H → Prop) : Prop :=
qw_X12_in xp1 (1 : Int32) (400 : Int32) h (fun x15 h =>
if x15 = 0 then (qw_X12_advance_17 a0 Q xp1 (some a0) (1 : Int32) h) else (qw_X12_advance_17 a0 Q xp1 (some a0) (0 : Int32) h))
set_option maxHeartbeats 4000000 in
set_option maxRecDepth 100000 in
theorem qm_X12_advance (l : Launch) (hl9 : l.stackTraces = false) (D : ql_D) (h0 : ql_H) (a0 : Nat) (xp1 : Int32) (Q : Int32 → ql_H → Prop) (X : String → ql_H → Prop) (w : qw_X12_advance a0 xp1 h0 Q) : ql_M D l yX12_advance cX12_advance 4 (some .int) ({ frames := 6, cells := 0, slots := 0, locals := 110 } : Room) h0 [.ref a0, .int xp1] (ql_rI Q) X 0 0 := by
  refine ql_ofW (by decide) (Nat.le_of_ble_eq_true rfl) ?_
  intro p e s m below meth c ls C hr hlocks hnm htab S hl
  have hl : lv_has ls 4 [(0, .ref a0), (1, .int xp1)] := hl
  have hB105 : ∀ (k81 : Int32 → Int32 → ql_H → Prop) (hk81 : ∀ (xl2 : Int32) (xl3 : Int32) (h : ql_H) (H : Heap) (locs : List Loc) (ls : Array Slot), ql_S D h0 s H locs h → lv_has ls 4 [(0, .ref a0), (2, .int xl2), (3, .int xl3)] → k81 xl2 xl3 h → W p l e ({ frames := 6, cells := 0, slots := 0, locals := 110 } : Room) s m ([.ref a0, .int xp1] : List Value).toArray below meth c H locs 0 0 (vx_MQ below (ql_Q D h0 (ql_rI Q)) (ql_X D h0 X) ([.ref a0, .int xp1] : List Value).toArray s 0 0 (ql_A h0)) (F0 m 81 ls [])) , ∀ (xl3 : Int32) (xs0 : Int32) (xs1 : Int32) (h : ql_H) (H : Heap) (locs : List Loc) (ls : Array Slot), ql_S D h0 s H locs h → lv_has ls 4 [(0, .ref a0), (3, .int xl3)] → qw_X12_advance_105 a0 Q k81 xl3 xs0 xs1 h → W p l e ({ frames := 6, cells := 0, slots := 0, locals := 110 } : Room) s m ([.ref a0, .int xp1] : List Value).toArray below meth c H locs 0 0 (vx_MQ below (ql_Q D h0 (ql_rI Q)) (ql_X D h0 X) ([.ref a0, .int xp1] : List Value).toArray s 0 0 (ql_A h0)) (F0 m 105 ls [.int xs1, .int xs0]) := by
    intro k81 hk81 xl3 xs0 xs1 h H locs ls S hl w
    unfold qw_X12_advance_105 at w
    refine lv_iadd C.1.1 C.1.2.1 dX12_advance_105 ?_
    refine lv_istore_n (lv' := [(2, .int (xs0 + xs1)), (0, .ref a0), (3, .int xl3)]) C.1.1 C.1.2.1 dX12_advance_106 rfl hl (by decide) rfl (fun ls hl => ?_)
    refine lv_iinc (v := (xl3 + (1 : Int32))) (lv' := [(3, .int (xl3 + (1 : Int32))), (2, .int (xs0 + xs1)), (0, .ref a0)]) C.1.1 C.1.2.1 dX12_advance_107 hl (k := 2) rfl rfl (by decide) rfl (fun ls hl => ?_)
    refine lv_goto (tgt := 81) C.1.1 C.1.2.1 dX12_advance_110 (by decide) ?_
    exact hk81 (xs0 + xs1) (xl3 + (1 : Int32)) _ _ _ _ S (lv_sub hl [2, 1, 0] rfl) w
  have hB81 : ∀ n : Nat, ∀ (xl2 : Int32) (xl3 : Int32) (h : ql_H) (H : Heap) (locs : List Loc) (ls : Array Slot), ql_S D h0 s H locs h → lv_has ls 4 [(0, .ref a0), (2, .int xl2), (3, .int xl3)] → qw_X12_advance_81 a0 Q n xl2 xl3 h → W p l e ({ frames := 6, cells := 0, slots := 0, locals := 110 } : Room) s m ([.ref a0, .int xp1] : List Value).toArray below meth c H locs 0 0 (vx_MQ below (ql_Q D h0 (ql_rI Q)) (ql_X D h0 X) ([.ref a0, .int xp1] : List Value).toArray s 0 0 (ql_A h0)) (F0 m 81 ls []) := by
    intro n
    induction n with
    | zero => intro xl2 xl3 h H locs ls S hl w; rw [qw_X12_advance_81] at w; exact w.elim
    | succ n ih =>
      intro xl2 xl3 h H locs ls S hl w
      rw [qw_X12_advance_81] at w
      refine lv_iload_n C.1.1 C.1.2.1 dX12_advance_81 rfl (lv_at hl 2 rfl) ?_
      refine ql_aload_n (r := (some a0)) C dX12_advance_82 rfl (lv_at hl 0 rfl) ?_
      refine ql_getR C S qf_13_0 gw_1668 dX12_advance_83 w (fun r1 w => ?_)
      refine lv_iconst (v := (0 : Int32)) C.1.1 C.1.2.1 dX12_advance_86 (by decide) ?_
      refine ql_iald C S dX12_advance_87 w (fun x2 w => ?_)
      refine lv_icmp_ge (tgt := 113) C.1.1 C.1.2.1 dX12_advance_88 (by decide) (fun c9 => ?_) (fun c9 => ?_)
      · replace w := ql_if w c9
        refine lv_iload_n C.1.1 C.1.2.1 dX12_advance_113 rfl (lv_at hl 1 rfl) ?_
        exact ql_iret C S hr hlocks dX12_advance_114 ⟨Nat.le_of_ble_eq_true rfl, Nat.le_of_ble_eq_true rfl⟩ w
      · replace w := ql_ifn w c9
        refine lv_iload_n C.1.1 C.1.2.1 dX12_advance_91 rfl (lv_at hl 1 rfl) ?_
        refine ql_aload_n (r := (some a0)) C dX12_advance_92 rfl (lv_at hl 0 rfl) ?_
        refine lv_iload_n C.1.1 C.1.2.1 dX12_advance_93 rfl (lv_at hl 2 rfl) ?_
        refine ql_VI (As := [.int xl3]) (rest := [.int xl2]) C S htab hlocks hl qy_X12_isOver qi_X12_isOver qs_X12_isOver gw_1812 (ci := 13) rfl w (fun b w => qm_X12_isOver l hl9 D _ b xl3 _ _ w) rfl ⟨Nat.le_of_ble_eq_true rfl, Nat.le_of_ble_eq_true rfl⟩ ⟨rfl, rfl⟩ (by exact Nat.le_of_ble_eq_true rfl) (fun b e9 => by cases e9; rfl) dX12_advance_94 ⟨Nat.le_of_ble_eq_true rfl, Nat.le_of_ble_eq_true rfl⟩ ⟨Nat.le_of_ble_eq_true rfl, Nat.le_of_ble_eq_true rfl⟩ (fun x3 h H locs S w => ?_)
        refine W.cs (cells' := 0) (slots' := 0) rfl rfl ?_
        refine lv_if_eq (tgt := 104) C.1.1 C.1.2.1 dX12_advance_97 (by decide) (fun c9 => ?_) (fun c9 => ?_)
        · replace w := ql_if w c9
          refine lv_iconst (v := (0 : Int32)) C.1.1 C.1.2.1 dX12_advance_104 (by decide) ?_
          exact hB105 (qw_X12_advance_81 a0 Q n) ih xl3 xl2 (0 : Int32) _ _ _ _ S (lv_sub hl [0, 2] rfl) w
        · replace w := ql_ifn w c9
          refine lv_iconst (v := (1 : Int32)) C.1.1 C.1.2.1 dX12_advance_100 (by decide) ?_
          refine lv_goto (tgt := 105) C.1.1 C.1.2.1 dX12_advance_101 (by decide) ?_
          exact hB105 (qw_X12_advance_81 a0 Q n) ih xl3 xl2 (1 : Int32) _ _ _ _ S (lv_sub hl [0, 2] rfl) w
  have hB61 : ∀ (k37 : Int32 → Int32 → Int32 → ql_H → Prop) (hk37 : ∀ (xl1 : Int32) (xl2 : Int32) (xl3 : Int32) (h : ql_H) (H : Heap) (locs : List Loc) (ls : Array Slot), ql_S D h0 s H locs h → lv_has ls 4 [(0, .ref a0), (1, .int xl1), (2, .int xl2), (3, .int xl3)] → k37 xl1 xl2 xl3 h → W p l e ({ frames := 6, cells := 0, slots := 0, locals := 110 } : Room) s m ([.ref a0, .int xp1] : List Value).toArray below meth c H locs 0 0 (vx_MQ below (ql_Q D h0 (ql_rI Q)) (ql_X D h0 X) ([.ref a0, .int xp1] : List Value).toArray s 0 0 (ql_A h0)) (F0 m 37 ls [])) , ∀ (xl1 : Int32) (xl3 : Int32) (xs0 : Int32) (xs1 : Int32) (h : ql_H) (H : Heap) (locs : List Loc) (ls : Array Slot), ql_S D h0 s H locs h → lv_has ls 4 [(0, .ref a0), (1, .int xl1), (3, .int xl3)] → qw_X12_advance_61 a0 Q k37 xl1 xl3 xs0 xs1 h → W p l e ({ frames := 6, cells := 0, slots := 0, locals := 110 } : Room) s m ([.ref a0, .int xp1] : List Value).toArray below meth c H locs 0 0 (vx_MQ below (ql_Q D h0 (ql_rI Q)) (ql_X D h0 X) ([.ref a0, .int xp1] : List Value).toArray s 0 0 (ql_A h0)) (F0 m 61 ls [.int xs1, .int xs0]) := by
    intro k37 hk37 xl1 xl3 xs0 xs1 h H locs ls S hl w
    unfold qw_X12_advance_61 at w
    refine lv_isub C.1.1 C.1.2.1 dX12_advance_61 ?_
    refine lv_istore_n (lv' := [(2, .int (xs0 - xs1)), (0, .ref a0), (1, .int xl1), (3, .int xl3)]) C.1.1 C.1.2.1 dX12_advance_62 rfl hl (by decide) rfl (fun ls hl => ?_)
    refine lv_iinc (v := (xl3 + (1 : Int32))) (lv' := [(3, .int (xl3 + (1 : Int32))), (2, .int (xs0 - xs1)), (0, .ref a0), (1, .int xl1)]) C.1.1 C.1.2.1 dX12_advance_63 hl (k := 3) rfl rfl (by decide) rfl (fun ls hl => ?_)
    refine lv_goto (tgt := 37) C.1.1 C.1.2.1 dX12_advance_66 (by decide) ?_
    exact hk37 xl1 (xs0 - xs1) (xl3 + (1 : Int32)) _ _ _ _ S (lv_sub hl [2, 3, 1, 0] rfl) w
  have hB37 : ∀ n : Nat, ∀ (xl1 : Int32) (xl2 : Int32) (xl3 : Int32) (h : ql_H) (H : Heap) (locs : List Loc) (ls : Array Slot), ql_S D h0 s H locs h → lv_has ls 4 [(0, .ref a0), (1, .int xl1), (2, .int xl2), (3, .int xl3)] → qw_X12_advance_37 a0 Q n xl1 xl2 xl3 h → W p l e ({ frames := 6, cells := 0, slots := 0, locals := 110 } : Room) s m ([.ref a0, .int xp1] : List Value).toArray below meth c H locs 0 0 (vx_MQ below (ql_Q D h0 (ql_rI Q)) (ql_X D h0 X) ([.ref a0, .int xp1] : List Value).toArray s 0 0 (ql_A h0)) (F0 m 37 ls []) := by
    intro n
    induction n with
    | zero => intro xl1 xl2 xl3 h H locs ls S hl w; rw [qw_X12_advance_37] at w; exact w.elim
    | succ n ih =>
      intro xl1 xl2 xl3 h H locs ls S hl w
      rw [qw_X12_advance_37] at w
      refine lv_iload_n C.1.1 C.1.2.1 dX12_advance_37 rfl (lv_at hl 3 rfl) ?_
      refine ql_aload_n (r := (some a0)) C dX12_advance_38 rfl (lv_at hl 0 rfl) ?_
      refine ql_getR C S qf_13_0 gw_1668 dX12_advance_39 w (fun r5 w => ?_)
      refine lv_iconst (v := (0 : Int32)) C.1.1 C.1.2.1 dX12_advance_42 (by decide) ?_
      refine ql_iald C S dX12_advance_43 w (fun x6 w => ?_)
      refine lv_icmp_ge (tgt := 69) C.1.1 C.1.2.1 dX12_advance_44 (by decide) (fun c9 => ?_) (fun c9 => ?_)
      · replace w := ql_if w c9
        refine ql_aload_n (r := (some a0)) C dX12_advance_69 rfl (lv_at hl 0 rfl) ?_
        refine ql_getR C S qf_13_0 gw_1668 dX12_advance_70 w (fun r7 w => ?_)
        refine lv_iconst (v := (2 : Int32)) C.1.1 C.1.2.1 dX12_advance_73 (by decide) ?_
        refine lv_dup2_11 C.1.1 C.1.2.1 dX12_advance_74 rfl (ql_catR _) ?_
        refine ql_iald C S dX12_advance_75 w (fun x8 w => ?_)
        refine lv_iload_n C.1.1 C.1.2.1 dX12_advance_76 rfl (lv_at hl 1 rfl) ?_
        refine lv_iadd C.1.1 C.1.2.1 dX12_advance_77 ?_
        refine ql_iast C S dX12_advance_78 w (fun h H locs S w => ?_)
        refine lv_iconst (v := (0 : Int32)) C.1.1 C.1.2.1 dX12_advance_79 (by decide) ?_
        refine lv_istore_n (lv' := [(3, .int (0 : Int32)), (0, .ref a0), (1, .int xl1), (2, .int xl2)]) C.1.1 C.1.2.1 dX12_advance_80 rfl hl (by decide) rfl (fun ls hl => ?_)
        exact hB81 ql_FU xl2 (0 : Int32) _ _ _ _ S (lv_sub hl [1, 3, 0] rfl) w
      · replace w := ql_ifn w c9
        refine lv_iload_n C.1.1 C.1.2.1 dX12_advance_47 rfl (lv_at hl 2 rfl) ?_
        refine ql_aload_n (r := (some a0)) C dX12_advance_48 rfl (lv_at hl 0 rfl) ?_
        refine lv_iload_n C.1.1 C.1.2.1 dX12_advance_49 rfl (lv_at hl 3 rfl) ?_
        refine ql_VI (As := [.int xl3]) (rest := [.int xl2]) C S htab hlocks hl qy_X12_isOver qi_X12_isOver qs_X12_isOver gw_1812 (ci := 13) rfl w (fun b w => qm_X12_isOver l hl9 D _ b xl3 _ _ w) rfl ⟨Nat.le_of_ble_eq_true rfl, Nat.le_of_ble_eq_true rfl⟩ ⟨rfl, rfl⟩ (by exact Nat.le_of_ble_eq_true rfl) (fun b e9 => by cases e9; rfl) dX12_advance_50 ⟨Nat.le_of_ble_eq_true rfl, Nat.le_of_ble_eq_true rfl⟩ ⟨Nat.le_of_ble_eq_true rfl, Nat.le_of_ble_eq_true rfl⟩ (fun x9 h H locs S w => ?_)
        refine W.cs (cells' := 0) (slots' := 0) rfl rfl ?_
        refine lv_if_eq (tgt := 60) C.1.1 C.1.2.1 dX12_advance_53 (by decide) (fun c9 => ?_) (fun c9 => ?_)
        · replace w := ql_if w c9
          refine lv_iconst (v := (0 : Int32)) C.1.1 C.1.2.1 dX12_advance_60 (by decide) ?_
          exact hB61 (qw_X12_advance_37 a0 Q n) ih xl1 xl3 xl2 (0 : Int32) _ _ _ _ S (lv_sub hl [0, 1, 3] rfl) w
        · replace w := ql_ifn w c9
          refine lv_iconst (v := (1 : Int32)) C.1.1 C.1.2.1 dX12_advance_56 (by decide) ?_
          refine lv_goto (tgt := 61) C.1.1 C.1.2.1 dX12_advance_57 (by decide) ?_
          exact hB61 (qw_X12_advance_37 a0 Q n) ih xl1 xl3 xl2 (1 : Int32) _ _ _ _ S (lv_sub hl [0, 1, 3] rfl) w
  have hB17 : ∀ (xl1 : Int32) (rs0 : Option Nat) (xs1 : Int32) (h : ql_H) (H : Heap) (locs : List Loc) (ls : Array Slot), ql_S D h0 s H locs h → lv_has ls 4 [(0, .ref a0), (1, .int xl1)] → qw_X12_advance_17 a0 Q xl1 rs0 xs1 h → W p l e ({ frames := 6, cells := 0, slots := 0, locals := 110 } : Room) s m ([.ref a0, .int xp1] : List Value).toArray below meth c H locs 0 0 (vx_MQ below (ql_Q D h0 (ql_rI Q)) (ql_X D h0 X) ([.ref a0, .int xp1] : List Value).toArray s 0 0 (ql_A h0)) (F0 m 17 ls [.int xs1, va_rf rs0]) := by
    intro xl1 rs0 xs1 h H locs ls S hl w
    unfold qw_X12_advance_17 at w
    refine ql_VI (As := [.int xs1]) (rest := []) C S htab hlocks hl qy_X12_fails qi_X12_fails qs_X12_fails gw_1749 (ci := 13) rfl w (fun b w => qm_X12_fails l hl9 D _ b xs1 _ _ w) rfl ⟨Nat.le_of_ble_eq_true rfl, Nat.le_of_ble_eq_true rfl⟩ ⟨rfl, rfl⟩ (by exact Nat.le_of_ble_eq_true rfl) (fun b e9 => by cases e9; rfl) dX12_advance_17 ⟨Nat.le_of_ble_eq_true rfl, Nat.le_of_ble_eq_true rfl⟩ ⟨Nat.le_of_ble_eq_true rfl, Nat.le_of_ble_eq_true rfl⟩ (fun x11 h H locs S w => ?_)
    refine W.cs (cells' := 0) (slots' := 0) rfl rfl ?_
    refine lv_if_eq (tgt := 25) C.1.1 C.1.2.1 dX12_advance_20 (by decide) (fun c9 => ?_) (fun c9 => ?_)
    · replace w := ql_if w c9
      refine ql_aload_n (r := (some a0)) C dX12_advance_25 rfl (lv_at hl 0 rfl) ?_
      refine ql_aload_n (r := (some a0)) C dX12_advance_26 rfl (lv_at hl 0 rfl) ?_
      refine ql_getR C S qf_13_0 gw_1668 dX12_advance_27 w (fun r13 w => ?_)
      refine ql_VV (As := [va_rf r13]) (rest := []) C S htab hlocks hl qy_X12_keeps qi_X12_keeps qs_X12_keeps gw_1753 (ci := 13) rfl w (fun b w => qm_X12_keeps l hl9 D _ b r13 _ _ w) rfl ⟨Nat.le_of_ble_eq_true rfl, Nat.le_of_ble_eq_true rfl⟩ ⟨rfl, rfl⟩ (by exact Nat.le_of_ble_eq_true rfl) (fun b e9 => by cases e9; rfl) dX12_advance_30 ⟨Nat.le_of_ble_eq_true rfl, Nat.le_of_ble_eq_true rfl⟩ ⟨Nat.le_of_ble_eq_true rfl, Nat.le_of_ble_eq_true rfl⟩ (fun h H locs S w => ?_)
      refine W.cs (cells' := 0) (slots' := 0) rfl rfl ?_
      refine lv_iconst (v := (0 : Int32)) C.1.1 C.1.2.1 dX12_advance_33 (by decide) ?_
      refine lv_istore_n (lv' := [(2, .int (0 : Int32)), (0, .ref a0), (1, .int xl1)]) C.1.1 C.1.2.1 dX12_advance_34 rfl hl (by decide) rfl (fun ls hl => ?_)
      refine lv_iconst (v := (0 : Int32)) C.1.1 C.1.2.1 dX12_advance_35 (by decide) ?_
      refine lv_istore_n (lv' := [(3, .int (0 : Int32)), (2, .int (0 : Int32)), (0, .ref a0), (1, .int xl1)]) C.1.1 C.1.2.1 dX12_advance_36 rfl hl (by decide) rfl (fun ls hl => ?_)
      exact hB37 ql_FU xl1 (0 : Int32) (0 : Int32) _ _ _ _ S (lv_sub hl [2, 3, 1, 0] rfl) w
    · replace w := ql_ifn w c9
      refine lv_iconst (v := (0 : Int32)) C.1.1 C.1.2.1 dX12_advance_23 (by decide) ?_
      exact ql_iret C S hr hlocks dX12_advance_24 ⟨Nat.le_of_ble_eq_true rfl, Nat.le_of_ble_eq_true rfl⟩ w
  unfold qw_X12_advance at w
  refine ql_aload_n (r := (some a0)) C dX12_advance_0 rfl (lv_at hl 0 rfl) ?_
  refine lv_iload_n C.1.1 C.1.2.1 dX12_advance_1 rfl (lv_at hl 1 rfl) ?_
  refine lv_iconst (v := (1 : Int32)) C.1.1 C.1.2.1 dX12_advance_2 (by decide) ?_
  refine lv_sipush (v := (400 : Int32)) C.1.1 C.1.2.1 dX12_advance_3 (by decide) ?_
  refine ql_SI (As := [.int xp1, .int (1 : Int32), .int (400 : Int32)]) (rest := [.ref a0]) C S htab hlocks hl qy_X12_in qi_X12_in gw_1735 (qm_X12_in l hl9 D _ xp1 (1 : Int32) (400 : Int32) _ _ w) rfl ⟨Nat.le_of_ble_eq_true rfl, Nat.le_of_ble_eq_true rfl⟩ ⟨rfl, rfl⟩ (by exact Nat.le_of_ble_eq_true rfl) rfl dX12_advance_6 ⟨Nat.le_of_ble_eq_true rfl, Nat.le_of_ble_eq_true rfl⟩ ⟨Nat.le_of_ble_eq_true rfl, Nat.le_of_ble_eq_true rfl⟩ (fun x15 h H locs S w => ?_)
  refine W.cs (cells' := 0) (slots' := 0) rfl rfl ?_
  refine lv_if_eq (tgt := 16) C.1.1 C.1.2.1 dX12_advance_9 (by decide) (fun c9 => ?_) (fun c9 => ?_)
  · replace w := ql_if w c9
    refine lv_iconst (v := (1 : Int32)) C.1.1 C.1.2.1 dX12_advance_16 (by decide) ?_
    exact hB17 xp1 (some a0) (1 : Int32) _ _ _ _ S (lv_sub hl [0, 1] rfl) w
  · replace w := ql_ifn w c9
    refine lv_iconst (v := (0 : Int32)) C.1.1 C.1.2.1 dX12_advance_12 (by decide) ?_
    refine lv_goto (tgt := 17) C.1.1 C.1.2.1 dX12_advance_13 (by decide) ?_
    exact hB17 xp1 (some a0) (0 : Int32) _ _ _ _ S (lv_sub hl [0, 1] rfl) w
def qw_X12_day (a0 : Nat) (h : ql_H) (Q : Int32 → ql_H → Prop) : Prop :=
ql_pV h (some a0) 13 7 (.int (0 : Int32)) fun h =>
ql_gR h (some a0) 13 0 fun r1 =>
ql_lI h r1 0 (2 : Int32) fun x2 =>
Q x2 h
set_option maxHeartbeats 4000000 in
set_option maxRecDepth 100000 in
theorem qm_X12_day (l : Launch) (hl9 : l.stackTraces = false) (D : ql_D) (h0 : ql_H) (a0 : Nat) (Q : Int32 → ql_H → Prop) (X : String → ql_H → Prop) (w : qw_X12_day a0 h0 Q) : ql_M D l yX12_day cX12_day 1 (some .int) ({ frames := 2, cells := 0, slots := 0, locals := 48 } : Room) h0 [.ref a0] (ql_rI Q) X 0 0 := by
  refine ql_ofW (by decide) (Nat.le_of_ble_eq_true rfl) ?_
  intro p e s m below meth c ls C hr hlocks hnm htab S hl
  have hl : lv_has ls 1 [(0, .ref a0)] := hl
  unfold qw_X12_day at w
  refine ql_aload_n (r := (some a0)) C dX12_day_0 rfl (lv_at hl 0 rfl) ?_
  refine lv_iconst (v := (0 : Int32)) C.1.1 C.1.2.1 dX12_day_1 (by decide) ?_
  refine ql_putV C S qf_13_7 gw_1675 (tyX12) tyX12_ok nmX12 rfl dX12_day_2 (v := .int (0 : Int32)) rfl rfl w (fun h H locs S w => ?_)
  refine ql_aload_n (r := (some a0)) C dX12_day_5 rfl (lv_at hl 0 rfl) ?_
  refine ql_getR C S qf_13_0 gw_1668 dX12_day_6 w (fun r1 w => ?_)
  refine lv_iconst (v := (2 : Int32)) C.1.1 C.1.2.1 dX12_day_9 (by decide) ?_
  refine ql_iald C S dX12_day_10 w (fun x2 w => ?_)
  exact ql_iret C S hr hlocks dX12_day_11 ⟨Nat.le_of_ble_eq_true rfl, Nat.le_of_ble_eq_true rfl⟩ w
def qw_X12_clauseCount (a0 : Nat) (h : ql_H) (Q : Int32 → ql_H → Prop) : Prop :=
ql_pV h (some a0) 13 7 (.int (0 : Int32)) fun h =>
ql_gR h (some a0) 13 0 fun r1 =>
ql_lI h r1 0 (0 : Int32) fun x2 =>
Q x2 h
set_option maxHeartbeats 4000000 in
set_option maxRecDepth 100000 in
theorem qm_X12_clauseCount (l : Launch) (hl9 : l.stackTraces = false) (D : ql_D) (h0 : ql_H) (a0 : Nat) (Q : Int32 → ql_H → Prop) (X : String → ql_H → Prop) (w : qw_X12_clauseCount a0 h0 Q) : ql_M D l yX12_clauseCount cX12_clauseCount 1 (some .int) ({ frames := 2, cells := 0, slots := 0, locals := 48 } : Room) h0 [.ref a0] (ql_rI Q) X 0 0 := by
  refine ql_ofW (by decide) (Nat.le_of_ble_eq_true rfl) ?_
  intro p e s m below meth c ls C hr hlocks hnm htab S hl
  have hl : lv_has ls 1 [(0, .ref a0)] := hl
  unfold qw_X12_clauseCount at w
  refine ql_aload_n (r := (some a0)) C dX12_clauseCount_0 rfl (lv_at hl 0 rfl) ?_
  refine lv_iconst (v := (0 : Int32)) C.1.1 C.1.2.1 dX12_clauseCount_1 (by decide) ?_
  refine ql_putV C S qf_13_7 gw_1675 (tyX12) tyX12_ok nmX12 rfl dX12_clauseCount_2 (v := .int (0 : Int32)) rfl rfl w (fun h H locs S w => ?_)
  refine ql_aload_n (r := (some a0)) C dX12_clauseCount_5 rfl (lv_at hl 0 rfl) ?_
  refine ql_getR C S qf_13_0 gw_1668 dX12_clauseCount_6 w (fun r1 w => ?_)
  refine lv_iconst (v := (0 : Int32)) C.1.1 C.1.2.1 dX12_clauseCount_9 (by decide) ?_
  refine ql_iald C S dX12_clauseCount_10 w (fun x2 w => ?_)
  exact ql_iret C S hr hlocks dX12_clauseCount_11 ⟨Nat.le_of_ble_eq_true rfl, Nat.le_of_ble_eq_true rfl⟩ w
def qw_X12_clauseAt_2 (a0 : Nat) (Q : Int32 → ql_H → Prop) : Nat → Int32 → Int32 → ql_H → Prop
  | 0, _, _, _ => False
  | n + 1, xl1, xl2, h =>
    ql_gR h (some a0) 13 0 fun r1 =>
    ql_lI h r1 0 (0 : Int32) fun x2 =>
    if x2 ≤ xl2 then (ql_pV h (some a0) 13 7 (.int (1 : Int32)) fun h =>
    Q (0 : Int32) h) else (ql_rv h (some a0) 13 fun b3 => qw_X12_sectionsBefore b3 xl2 h (fun x3 h =>
    if x3 = xl1 then (ql_pV h (some a0) 13 7 (.int (0 : Int32)) fun h =>
    ql_rv h (some a0) 13 fun b5 => qw_X12_of b5 xl2 (0 : Int32) h (fun x5 h =>
    Q x5 h)) else (qw_X12_clauseAt_2 a0 Q n xl1 (xl2 + (1 : Int32)) h)))
def qw_X12_clauseAt (a0 : Nat) (xp1 : Int32) (h : ql_H) (Q : Int32 → ql_H → Prop) : Prop :=
qw_X12_clauseAt_2 a0 Q ql_FU xp1 (0 : Int32) h
set_option maxHeartbeats 4000000 in
set_option maxRecDepth 100000 in
theorem qm_X12_clauseAt (l : Launch) (hl9 : l.stackTraces = false) (D : ql_D) (h0 : ql_H) (a0 : Nat) (xp1 : Int32) (Q : Int32 → ql_H → Prop) (X : String → ql_H → Prop) (w : qw_X12_clauseAt a0 xp1 h0 Q) : ql_M D l yX12_clauseAt cX12_clauseAt 3 (some .int) ({ frames := 6, cells := 0, slots := 0, locals := 109 } : Room) h0 [.ref a0, .int xp1] (ql_rI Q) X 0 0 := by
  refine ql_ofW (by decide) (Nat.le_of_ble_eq_true rfl) ?_
  intro p e s m below meth c ls C hr hlocks hnm htab S hl
  have hl : lv_has ls 3 [(0, .ref a0), (1, .int xp1)] := hl
  have hB2 : ∀ n : Nat, ∀ (xl1 : Int32) (xl2 : Int32) (h : ql_H) (H : Heap) (locs : List Loc) (ls : Array Slot), ql_S D h0 s H locs h → lv_has ls 3 [(0, .ref a0), (1, .int xl1), (2, .int xl2)] → qw_X12_clauseAt_2 a0 Q n xl1 xl2 h → W p l e ({ frames := 6, cells := 0, slots := 0, locals := 109 } : Room) s m ([.ref a0, .int xp1] : List Value).toArray below meth c H locs 0 0 (vx_MQ below (ql_Q D h0 (ql_rI Q)) (ql_X D h0 X) ([.ref a0, .int xp1] : List Value).toArray s 0 0 (ql_A h0)) (F0 m 2 ls []) := by
    intro n
    induction n with
    | zero => intro xl1 xl2 h H locs ls S hl w; rw [qw_X12_clauseAt_2] at w; exact w.elim
    | succ n ih =>
      intro xl1 xl2 h H locs ls S hl w
      rw [qw_X12_clauseAt_2] at w
      refine lv_iload_n C.1.1 C.1.2.1 dX12_clauseAt_2 rfl (lv_at hl 2 rfl) ?_
      refine ql_aload_n (r := (some a0)) C dX12_clauseAt_3 rfl (lv_at hl 0 rfl) ?_
      refine ql_getR C S qf_13_0 gw_1668 dX12_clauseAt_4 w (fun r1 w => ?_)
      refine lv_iconst (v := (0 : Int32)) C.1.1 C.1.2.1 dX12_clauseAt_7 (by decide) ?_
      refine ql_iald C S dX12_clauseAt_8 w (fun x2 w => ?_)
      refine lv_icmp_ge (tgt := 42) C.1.1 C.1.2.1 dX12_clauseAt_9 (by decide) (fun c9 => ?_) (fun c9 => ?_)
      · replace w := ql_if w c9
        refine ql_aload_n (r := (some a0)) C dX12_clauseAt_42 rfl (lv_at hl 0 rfl) ?_
        refine lv_iconst (v := (1 : Int32)) C.1.1 C.1.2.1 dX12_clauseAt_43 (by decide) ?_
        refine ql_putV C S qf_13_7 gw_1675 (tyX12) tyX12_ok nmX12 rfl dX12_clauseAt_44 (v := .int (1 : Int32)) rfl rfl w (fun h H locs S w => ?_)
        refine lv_iconst (v := (0 : Int32)) C.1.1 C.1.2.1 dX12_clauseAt_47 (by decide) ?_
        exact ql_iret C S hr hlocks dX12_clauseAt_48 ⟨Nat.le_of_ble_eq_true rfl, Nat.le_of_ble_eq_true rfl⟩ w
      · replace w := ql_ifn w c9
        refine ql_aload_n (r := (some a0)) C dX12_clauseAt_12 rfl (lv_at hl 0 rfl) ?_
        refine lv_iload_n C.1.1 C.1.2.1 dX12_clauseAt_13 rfl (lv_at hl 2 rfl) ?_
        refine ql_VI (As := [.int xl2]) (rest := []) C S htab hlocks hl qy_X12_sectionsBefore qi_X12_sectionsBefore qs_X12_sectionsBefore gw_1844 (ci := 13) rfl w (fun b w => qm_X12_sectionsBefore l hl9 D _ b xl2 _ _ w) rfl ⟨Nat.le_of_ble_eq_true rfl, Nat.le_of_ble_eq_true rfl⟩ ⟨rfl, rfl⟩ (by exact Nat.le_of_ble_eq_true rfl) (fun b e9 => by cases e9; rfl) dX12_clauseAt_14 ⟨Nat.le_of_ble_eq_true rfl, Nat.le_of_ble_eq_true rfl⟩ ⟨Nat.le_of_ble_eq_true rfl, Nat.le_of_ble_eq_true rfl⟩ (fun x3 h H locs S w => ?_)
        refine W.cs (cells' := 0) (slots' := 0) rfl rfl ?_
        refine lv_iload_n C.1.1 C.1.2.1 dX12_clauseAt_17 rfl (lv_at hl 1 rfl) ?_
        refine lv_icmp_eq (tgt := 24) C.1.1 C.1.2.1 dX12_clauseAt_18 (by decide) (fun c9 => ?_) (fun c9 => ?_)
        · replace w := ql_if w c9
          refine ql_aload_n (r := (some a0)) C dX12_clauseAt_24 rfl (lv_at hl 0 rfl) ?_
          refine lv_iconst (v := (0 : Int32)) C.1.1 C.1.2.1 dX12_clauseAt_25 (by decide) ?_
          refine ql_putV C S qf_13_7 gw_1675 (tyX12) tyX12_ok nmX12 rfl dX12_clauseAt_26 (v := .int (0 : Int32)) rfl rfl w (fun h H locs S w => ?_)
          refine ql_aload_n (r := (some a0)) C dX12_clauseAt_29 rfl (lv_at hl 0 rfl) ?_
          refine lv_iload_n C.1.1 C.1.2.1 dX12_clauseAt_30 rfl (lv_at hl 2 rfl) ?_
          refine lv_iconst (v := (0 : Int32)) C.1.1 C.1.2.1 dX12_clauseAt_31 (by decide) ?_
          refine ql_VI (As := [.int xl2, .int (0 : Int32)]) (rest := []) C S htab hlocks hl qy_X12_of qi_X12_of qs_X12_of gw_1745 (ci := 13) rfl w (fun b w => qm_X12_of l hl9 D _ b xl2 (0 : Int32) _ _ w) rfl ⟨Nat.le_of_ble_eq_true rfl, Nat.le_of_ble_eq_true rfl⟩ ⟨rfl, rfl⟩ (by exact Nat.le_of_ble_eq_true rfl) (fun b e9 => by cases e9; rfl) dX12_clauseAt_32 ⟨Nat.le_of_ble_eq_true rfl, Nat.le_of_ble_eq_true rfl⟩ ⟨Nat.le_of_ble_eq_true rfl, Nat.le_of_ble_eq_true rfl⟩ (fun x5 h H locs S w => ?_)
          refine W.cs (cells' := 0) (slots' := 0) rfl rfl ?_
          exact ql_iret C S hr hlocks dX12_clauseAt_35 ⟨Nat.le_of_ble_eq_true rfl, Nat.le_of_ble_eq_true rfl⟩ w
        · replace w := ql_ifn w c9
          refine lv_goto (tgt := 36) C.1.1 C.1.2.1 dX12_clauseAt_21 (by decide) ?_
          refine lv_iinc (v := (xl2 + (1 : Int32))) (lv' := [(2, .int (xl2 + (1 : Int32))), (0, .ref a0), (1, .int xl1)]) C.1.1 C.1.2.1 dX12_clauseAt_36 hl (k := 2) rfl rfl (by decide) rfl (fun ls hl => ?_)
          refine lv_goto (tgt := 2) C.1.1 C.1.2.1 dX12_clauseAt_39 (by decide) ?_
          exact ih xl1 (xl2 + (1 : Int32)) _ _ _ _ S (lv_sub hl [1, 2, 0] rfl) w
  unfold qw_X12_clauseAt at w
  refine lv_iconst (v := (0 : Int32)) C.1.1 C.1.2.1 dX12_clauseAt_0 (by decide) ?_
  refine lv_istore_n (lv' := [(2, .int (0 : Int32)), (0, .ref a0), (1, .int xp1)]) C.1.1 C.1.2.1 dX12_clauseAt_1 rfl hl (by decide) rfl (fun ls hl => ?_)
  exact hB2 ql_FU xp1 (0 : Int32) _ _ _ _ S (lv_sub hl [1, 2, 0] rfl) w
def qw_X12_clauseOfSection_14 (a0 : Nat) (Q : Int32 → ql_H → Prop) (xl1 : Int32) (rs0 : Option Nat) (xs1 : Int32) (h : ql_H) : Prop :=
ql_rv h rs0 13 fun b1 => qw_X12_fails b1 xs1 h (fun x1 h =>
if x1 = 0 then (ql_rv h (some a0) 13 fun b3 => qw_X12_withSection b3 xl1 h (fun x3 h =>
ql_rv h (some a0) 13 fun b5 => qw_X12_of b5 x3 (0 : Int32) h (fun x5 h =>
Q x5 h))) else (Q (0 : Int32) h))
def qw_X12_clauseOfSection (a0 : Nat) (xp1 : Int32) (h : ql_H) (Q : Int32 → ql_H → Prop) : Prop :=
ql_rv h (some a0) 13 fun b7 => qw_X12_withSection b7 xp1 h (fun x7 h =>
if 0 ≤ x7 then (qw_X12_clauseOfSection_14 a0 Q xp1 (some a0) (0 : Int32) h) else (qw_X12_clauseOfSection_14 a0 Q xp1 (some a0) (1 : Int32) h))
set_option maxHeartbeats 4000000 in
set_option maxRecDepth 100000 in
theorem qm_X12_clauseOfSection (l : Launch) (hl9 : l.stackTraces = false) (D : ql_D) (h0 : ql_H) (a0 : Nat) (xp1 : Int32) (Q : Int32 → ql_H → Prop) (X : String → ql_H → Prop) (w : qw_X12_clauseOfSection a0 xp1 h0 Q) : ql_M D l yX12_clauseOfSection cX12_clauseOfSection 2 (some .int) ({ frames := 6, cells := 0, slots := 0, locals := 108 } : Room) h0 [.ref a0, .int xp1] (ql_rI Q) X 0 0 := by
  refine ql_ofW (by decide) (Nat.le_of_ble_eq_true rfl) ?_
  intro p e s m below meth c ls C hr hlocks hnm htab S hl
  have hl : lv_has ls 2 [(0, .ref a0), (1, .int xp1)] := hl
  have hB14 : ∀ (xl1 : Int32) (rs0 : Option Nat) (xs1 : Int32) (h : ql_H) (H : Heap) (locs : List Loc) (ls : Array Slot), ql_S D h0 s H locs h → lv_has ls 2 [(0, .ref a0), (1, .int xl1)] → qw_X12_clauseOfSection_14 a0 Q xl1 rs0 xs1 h → W p l e ({ frames := 6, cells := 0, slots := 0, locals := 108 } : Room) s m ([.ref a0, .int xp1] : List Value).toArray below meth c H locs 0 0 (vx_MQ below (ql_Q D h0 (ql_rI Q)) (ql_X D h0 X) ([.ref a0, .int xp1] : List Value).toArray s 0 0 (ql_A h0)) (F0 m 14 ls [.int xs1, va_rf rs0]) := by
    intro xl1 rs0 xs1 h H locs ls S hl w
    unfold qw_X12_clauseOfSection_14 at w
    refine ql_VI (As := [.int xs1]) (rest := []) C S htab hlocks hl qy_X12_fails qi_X12_fails qs_X12_fails gw_1749 (ci := 13) rfl w (fun b w => qm_X12_fails l hl9 D _ b xs1 _ _ w) rfl ⟨Nat.le_of_ble_eq_true rfl, Nat.le_of_ble_eq_true rfl⟩ ⟨rfl, rfl⟩ (by exact Nat.le_of_ble_eq_true rfl) (fun b e9 => by cases e9; rfl) dX12_clauseOfSection_14 ⟨Nat.le_of_ble_eq_true rfl, Nat.le_of_ble_eq_true rfl⟩ ⟨Nat.le_of_ble_eq_true rfl, Nat.le_of_ble_eq_true rfl⟩ (fun x1 h H locs S w => ?_)
    refine W.cs (cells' := 0) (slots' := 0) rfl rfl ?_
    refine lv_if_eq (tgt := 24) C.1.1 C.1.2.1 dX12_clauseOfSection_17 (by decide) (fun c9 => ?_) (fun c9 => ?_)
    · replace w := ql_if w c9
      refine ql_aload_n (r := (some a0)) C dX12_clauseOfSection_24 rfl (lv_at hl 0 rfl) ?_
      refine ql_aload_n (r := (some a0)) C dX12_clauseOfSection_25 rfl (lv_at hl 0 rfl) ?_
      refine lv_iload_n C.1.1 C.1.2.1 dX12_clauseOfSection_26 rfl (lv_at hl 1 rfl) ?_
      refine ql_VI (As := [.int xl1]) (rest := [.ref a0]) C S htab hlocks hl qy_X12_withSection qi_X12_withSection qs_X12_withSection gw_1741 (ci := 13) rfl w (fun b w => qm_X12_withSection l hl9 D _ b xl1 _ _ w) rfl ⟨Nat.le_of_ble_eq_true rfl, Nat.le_of_ble_eq_true rfl⟩ ⟨rfl, rfl⟩ (by exact Nat.le_of_ble_eq_true rfl) (fun b e9 => by cases e9; rfl) dX12_clauseOfSection_27 ⟨Nat.le_of_ble_eq_true rfl, Nat.le_of_ble_eq_true rfl⟩ ⟨Nat.le_of_ble_eq_true rfl, Nat.le_of_ble_eq_true rfl⟩ (fun x3 h H locs S w => ?_)
      refine W.cs (cells' := 0) (slots' := 0) rfl rfl ?_
      refine lv_iconst (v := (0 : Int32)) C.1.1 C.1.2.1 dX12_clauseOfSection_30 (by decide) ?_
      refine ql_VI (As := [.int x3, .int (0 : Int32)]) (rest := []) C S htab hlocks hl qy_X12_of qi_X12_of qs_X12_of gw_1745 (ci := 13) rfl w (fun b w => qm_X12_of l hl9 D _ b x3 (0 : Int32) _ _ w) rfl ⟨Nat.le_of_ble_eq_true rfl, Nat.le_of_ble_eq_true rfl⟩ ⟨rfl, rfl⟩ (by exact Nat.le_of_ble_eq_true rfl) (fun b e9 => by cases e9; rfl) dX12_clauseOfSection_31 ⟨Nat.le_of_ble_eq_true rfl, Nat.le_of_ble_eq_true rfl⟩ ⟨Nat.le_of_ble_eq_true rfl, Nat.le_of_ble_eq_true rfl⟩ (fun x5 h H locs S w => ?_)
      refine W.cs (cells' := 0) (slots' := 0) rfl rfl ?_
      exact ql_iret C S hr hlocks dX12_clauseOfSection_34 ⟨Nat.le_of_ble_eq_true rfl, Nat.le_of_ble_eq_true rfl⟩ w
    · replace w := ql_ifn w c9
      refine lv_iconst (v := (0 : Int32)) C.1.1 C.1.2.1 dX12_clauseOfSection_20 (by decide) ?_
      refine lv_goto (tgt := 34) C.1.1 C.1.2.1 dX12_clauseOfSection_21 (by decide) ?_
      exact ql_iret C S hr hlocks dX12_clauseOfSection_34 ⟨Nat.le_of_ble_eq_true rfl, Nat.le_of_ble_eq_true rfl⟩ w
  unfold qw_X12_clauseOfSection at w
  refine ql_aload_n (r := (some a0)) C dX12_clauseOfSection_0 rfl (lv_at hl 0 rfl) ?_
  refine ql_aload_n (r := (some a0)) C dX12_clauseOfSection_1 rfl (lv_at hl 0 rfl) ?_
  refine lv_iload_n C.1.1 C.1.2.1 dX12_clauseOfSection_2 rfl (lv_at hl 1 rfl) ?_
  refine ql_VI (As := [.int xp1]) (rest := [.ref a0]) C S htab hlocks hl qy_X12_withSection qi_X12_withSection qs_X12_withSection gw_1741 (ci := 13) rfl w (fun b w => qm_X12_withSection l hl9 D _ b xp1 _ _ w) rfl ⟨Nat.le_of_ble_eq_true rfl, Nat.le_of_ble_eq_true rfl⟩ ⟨rfl, rfl⟩ (by exact Nat.le_of_ble_eq_true rfl) (fun b e9 => by cases e9; rfl) dX12_clauseOfSection_3 ⟨Nat.le_of_ble_eq_true rfl, Nat.le_of_ble_eq_true rfl⟩ ⟨Nat.le_of_ble_eq_true rfl, Nat.le_of_ble_eq_true rfl⟩ (fun x7 h H locs S w => ?_)
  refine W.cs (cells' := 0) (slots' := 0) rfl rfl ?_
  refine lv_if_ge (tgt := 13) C.1.1 C.1.2.1 dX12_clauseOfSection_6 (by decide) (fun c9 => ?_) (fun c9 => ?_)
  · replace w := ql_if w c9
    refine lv_iconst (v := (0 : Int32)) C.1.1 C.1.2.1 dX12_clauseOfSection_13 (by decide) ?_
    exact hB14 xp1 (some a0) (0 : Int32) _ _ _ _ S (lv_sub hl [0, 1] rfl) w
  · replace w := ql_ifn w c9
    refine lv_iconst (v := (1 : Int32)) C.1.1 C.1.2.1 dX12_clauseOfSection_9 (by decide) ?_
    refine lv_goto (tgt := 14) C.1.1 C.1.2.1 dX12_clauseOfSection_10 (by decide) ?_
    exact hB14 xp1 (some a0) (1 : Int32) _ _ _ _ S (lv_sub hl [0, 1] rfl) w
def qw_X12_section (a0 : Nat) (xp1 : Int32) (h : ql_H) (Q : Int32 → ql_H → Prop) : Prop :=
ql_rv h (some a0) 13 fun b1 => qw_X12_isNone b1 xp1 h (fun x1 h =>
if x1 = 0 then (ql_rv h (some a0) 13 fun b3 => qw_X12_placeOf b3 xp1 h (fun x3 h =>
ql_rv h (some a0) 13 fun b5 => qw_X12_of b5 x3 (1 : Int32) h (fun x5 h =>
Q x5 h))) else (Q (0 : Int32) h))
set_option maxHeartbeats 4000000 in
set_option maxRecDepth 100000 in
theorem qm_X12_section (l : Launch) (hl9 : l.stackTraces = false) (D : ql_D) (h0 : ql_H) (a0 : Nat) (xp1 : Int32) (Q : Int32 → ql_H → Prop) (X : String → ql_H → Prop) (w : qw_X12_section a0 xp1 h0 Q) : ql_M D l yX12_section cX12_section 2 (some .int) ({ frames := 8, cells := 0, slots := 0, locals := 137 } : Room) h0 [.ref a0, .int xp1] (ql_rI Q) X 0 0 := by
  refine ql_ofW (by decide) (Nat.le_of_ble_eq_true rfl) ?_
  intro p e s m below meth c ls C hr hlocks hnm htab S hl
  have hl : lv_has ls 2 [(0, .ref a0), (1, .int xp1)] := hl
  unfold qw_X12_section at w
  refine ql_aload_n (r := (some a0)) C dX12_section_0 rfl (lv_at hl 0 rfl) ?_
  refine lv_iload_n C.1.1 C.1.2.1 dX12_section_1 rfl (lv_at hl 1 rfl) ?_
  refine ql_VI (As := [.int xp1]) (rest := []) C S htab hlocks hl qy_X12_isNone qi_X12_isNone qs_X12_isNone gw_1872 (ci := 13) rfl w (fun b w => qm_X12_isNone l hl9 D _ b xp1 _ _ w) rfl ⟨Nat.le_of_ble_eq_true rfl, Nat.le_of_ble_eq_true rfl⟩ ⟨rfl, rfl⟩ (by exact Nat.le_of_ble_eq_true rfl) (fun b e9 => by cases e9; rfl) dX12_section_2 ⟨Nat.le_of_ble_eq_true rfl, Nat.le_of_ble_eq_true rfl⟩ ⟨Nat.le_of_ble_eq_true rfl, Nat.le_of_ble_eq_true rfl⟩ (fun x1 h H locs S w => ?_)
  refine W.cs (cells' := 0) (slots' := 0) rfl rfl ?_
  refine lv_if_eq (tgt := 12) C.1.1 C.1.2.1 dX12_section_5 (by decide) (fun c9 => ?_) (fun c9 => ?_)
  · replace w := ql_if w c9
    refine ql_aload_n (r := (some a0)) C dX12_section_12 rfl (lv_at hl 0 rfl) ?_
    refine ql_aload_n (r := (some a0)) C dX12_section_13 rfl (lv_at hl 0 rfl) ?_
    refine lv_iload_n C.1.1 C.1.2.1 dX12_section_14 rfl (lv_at hl 1 rfl) ?_
    refine ql_VI (As := [.int xp1]) (rest := [.ref a0]) C S htab hlocks hl qy_X12_placeOf qi_X12_placeOf qs_X12_placeOf gw_1772 (ci := 13) rfl w (fun b w => qm_X12_placeOf l hl9 D _ b xp1 _ _ w) rfl ⟨Nat.le_of_ble_eq_true rfl, Nat.le_of_ble_eq_true rfl⟩ ⟨rfl, rfl⟩ (by exact Nat.le_of_ble_eq_true rfl) (fun b e9 => by cases e9; rfl) dX12_section_15 ⟨Nat.le_of_ble_eq_true rfl, Nat.le_of_ble_eq_true rfl⟩ ⟨Nat.le_of_ble_eq_true rfl, Nat.le_of_ble_eq_true rfl⟩ (fun x3 h H locs S w => ?_)
    refine W.cs (cells' := 0) (slots' := 0) rfl rfl ?_
    refine lv_iconst (v := (1 : Int32)) C.1.1 C.1.2.1 dX12_section_18 (by decide) ?_
    refine ql_VI (As := [.int x3, .int (1 : Int32)]) (rest := []) C S htab hlocks hl qy_X12_of qi_X12_of qs_X12_of gw_1745 (ci := 13) rfl w (fun b w => qm_X12_of l hl9 D _ b x3 (1 : Int32) _ _ w) rfl ⟨Nat.le_of_ble_eq_true rfl, Nat.le_of_ble_eq_true rfl⟩ ⟨rfl, rfl⟩ (by exact Nat.le_of_ble_eq_true rfl) (fun b e9 => by cases e9; rfl) dX12_section_19 ⟨Nat.le_of_ble_eq_true rfl, Nat.le_of_ble_eq_true rfl⟩ ⟨Nat.le_of_ble_eq_true rfl, Nat.le_of_ble_eq_true rfl⟩ (fun x5 h H locs S w => ?_)
    refine W.cs (cells' := 0) (slots' := 0) rfl rfl ?_
    exact ql_iret C S hr hlocks dX12_section_22 ⟨Nat.le_of_ble_eq_true rfl, Nat.le_of_ble_eq_true rfl⟩ w
  · replace w := ql_ifn w c9
    refine lv_iconst (v := (0 : Int32)) C.1.1 C.1.2.1 dX12_section_8 (by decide) ?_
    refine lv_goto (tgt := 22) C.1.1 C.1.2.1 dX12_section_9 (by decide) ?_
    exact ql_iret C S hr hlocks dX12_section_22 ⟨Nat.le_of_ble_eq_true rfl, Nat.le_of_ble_eq_true rfl⟩ w
def qw_X12_enactedOn (a0 : Nat) (xp1 : Int32) (h : ql_H) (Q : Int32 → ql_H → Prop) : Prop :=
ql_rv h (some a0) 13 fun b1 => qw_X12_isNone b1 xp1 h (fun x1 h =>
if x1 = 0 then (ql_rv h (some a0) 13 fun b3 => qw_X12_placeOf b3 xp1 h (fun x3 h =>
ql_rv h (some a0) 13 fun b5 => qw_X12_of b5 x3 (2 : Int32) h (fun x5 h =>
Q x5 h))) else (Q (0 : Int32) h))
set_option maxHeartbeats 4000000 in
set_option maxRecDepth 100000 in
theorem qm_X12_enactedOn (l : Launch) (hl9 : l.stackTraces = false) (D : ql_D) (h0 : ql_H) (a0 : Nat) (xp1 : Int32) (Q : Int32 → ql_H → Prop) (X : String → ql_H → Prop) (w : qw_X12_enactedOn a0 xp1 h0 Q) : ql_M D l yX12_enactedOn cX12_enactedOn 2 (some .int) ({ frames := 8, cells := 0, slots := 0, locals := 137 } : Room) h0 [.ref a0, .int xp1] (ql_rI Q) X 0 0 := by
  refine ql_ofW (by decide) (Nat.le_of_ble_eq_true rfl) ?_
  intro p e s m below meth c ls C hr hlocks hnm htab S hl
  have hl : lv_has ls 2 [(0, .ref a0), (1, .int xp1)] := hl
  unfold qw_X12_enactedOn at w
  refine ql_aload_n (r := (some a0)) C dX12_enactedOn_0 rfl (lv_at hl 0 rfl) ?_
  refine lv_iload_n C.1.1 C.1.2.1 dX12_enactedOn_1 rfl (lv_at hl 1 rfl) ?_
  refine ql_VI (As := [.int xp1]) (rest := []) C S htab hlocks hl qy_X12_isNone qi_X12_isNone qs_X12_isNone gw_1872 (ci := 13) rfl w (fun b w => qm_X12_isNone l hl9 D _ b xp1 _ _ w) rfl ⟨Nat.le_of_ble_eq_true rfl, Nat.le_of_ble_eq_true rfl⟩ ⟨rfl, rfl⟩ (by exact Nat.le_of_ble_eq_true rfl) (fun b e9 => by cases e9; rfl) dX12_enactedOn_2 ⟨Nat.le_of_ble_eq_true rfl, Nat.le_of_ble_eq_true rfl⟩ ⟨Nat.le_of_ble_eq_true rfl, Nat.le_of_ble_eq_true rfl⟩ (fun x1 h H locs S w => ?_)
  refine W.cs (cells' := 0) (slots' := 0) rfl rfl ?_
  refine lv_if_eq (tgt := 12) C.1.1 C.1.2.1 dX12_enactedOn_5 (by decide) (fun c9 => ?_) (fun c9 => ?_)
  · replace w := ql_if w c9
    refine ql_aload_n (r := (some a0)) C dX12_enactedOn_12 rfl (lv_at hl 0 rfl) ?_
    refine ql_aload_n (r := (some a0)) C dX12_enactedOn_13 rfl (lv_at hl 0 rfl) ?_
    refine lv_iload_n C.1.1 C.1.2.1 dX12_enactedOn_14 rfl (lv_at hl 1 rfl) ?_
    refine ql_VI (As := [.int xp1]) (rest := [.ref a0]) C S htab hlocks hl qy_X12_placeOf qi_X12_placeOf qs_X12_placeOf gw_1772 (ci := 13) rfl w (fun b w => qm_X12_placeOf l hl9 D _ b xp1 _ _ w) rfl ⟨Nat.le_of_ble_eq_true rfl, Nat.le_of_ble_eq_true rfl⟩ ⟨rfl, rfl⟩ (by exact Nat.le_of_ble_eq_true rfl) (fun b e9 => by cases e9; rfl) dX12_enactedOn_15 ⟨Nat.le_of_ble_eq_true rfl, Nat.le_of_ble_eq_true rfl⟩ ⟨Nat.le_of_ble_eq_true rfl, Nat.le_of_ble_eq_true rfl⟩ (fun x3 h H locs S w => ?_)
    refine W.cs (cells' := 0) (slots' := 0) rfl rfl ?_
    refine lv_iconst (v := (2 : Int32)) C.1.1 C.1.2.1 dX12_enactedOn_18 (by decide) ?_
    refine ql_VI (As := [.int x3, .int (2 : Int32)]) (rest := []) C S htab hlocks hl qy_X12_of qi_X12_of qs_X12_of gw_1745 (ci := 13) rfl w (fun b w => qm_X12_of l hl9 D _ b x3 (2 : Int32) _ _ w) rfl ⟨Nat.le_of_ble_eq_true rfl, Nat.le_of_ble_eq_true rfl⟩ ⟨rfl, rfl⟩ (by exact Nat.le_of_ble_eq_true rfl) (fun b e9 => by cases e9; rfl) dX12_enactedOn_19 ⟨Nat.le_of_ble_eq_true rfl, Nat.le_of_ble_eq_true rfl⟩ ⟨Nat.le_of_ble_eq_true rfl, Nat.le_of_ble_eq_true rfl⟩ (fun x5 h H locs S w => ?_)
    refine W.cs (cells' := 0) (slots' := 0) rfl rfl ?_
    exact ql_iret C S hr hlocks dX12_enactedOn_22 ⟨Nat.le_of_ble_eq_true rfl, Nat.le_of_ble_eq_true rfl⟩ w
  · replace w := ql_ifn w c9
    refine lv_iconst (v := (0 : Int32)) C.1.1 C.1.2.1 dX12_enactedOn_8 (by decide) ?_
    refine lv_goto (tgt := 22) C.1.1 C.1.2.1 dX12_enactedOn_9 (by decide) ?_
    exact ql_iret C S hr hlocks dX12_enactedOn_22 ⟨Nat.le_of_ble_eq_true rfl, Nat.le_of_ble_eq_true rfl⟩ w
def qw_X12_isEndless_27 (a0 : Nat) (Q : Int32 → ql_H → Prop) (rs0 : Option Nat) (xs1 : Int32) (h : ql_H) : Prop :=
ql_rv h rs0 13 fun b1 => qw_X12_fails b1 xs1 h (fun x1 h =>
ql_nz .boolean x1 ∧ Q x1 h)
def qw_X12_isEndless_22 (a0 : Nat) (Q : Int32 → ql_H → Prop) (rs0 : Option Nat) (h : ql_H) : Prop :=
qw_X12_isEndless_27 a0 Q rs0 (1 : Int32) h
def qw_X12_isEndless (a0 : Nat) (xp1 : Int32) (h : ql_H) (Q : Int32 → ql_H → Prop) : Prop :=
ql_rv h (some a0) 13 fun b3 => qw_X12_placeOf b3 xp1 h (fun x3 h =>
if x3 < 0 then (qw_X12_isEndless_22 a0 Q (some a0) h) else (ql_rv h (some a0) 13 fun b5 => qw_X12_placeOf b5 xp1 h (fun x5 h =>
ql_rv h (some a0) 13 fun b7 => qw_X12_of b7 x5 (3 : Int32) h (fun x7 h =>
if 0 ≤ x7 then (qw_X12_isEndless_27 a0 Q (some a0) (0 : Int32) h) else (qw_X12_isEndless_22 a0 Q (some a0) h)))))
set_option maxHeartbeats 4000000 in
set_option maxRecDepth 100000 in
theorem qm_X12_isEndless (l : Launch) (hl9 : l.stackTraces = false) (D : ql_D) (h0 : ql_H) (a0 : Nat) (xp1 : Int32) (Q : Int32 → ql_H → Prop) (X : String → ql_H → Prop) (w : qw_X12_isEndless a0 xp1 h0 Q) : ql_M D l yX12_isEndless cX12_isEndless 2 (some .boolean) ({ frames := 6, cells := 0, slots := 0, locals := 108 } : Room) h0 [.ref a0, .int xp1] (ql_rI Q) X 0 0 := by
  refine ql_ofW (by decide) (Nat.le_of_ble_eq_true rfl) ?_
  intro p e s m below meth c ls C hr hlocks hnm htab S hl
  have hl : lv_has ls 2 [(0, .ref a0), (1, .int xp1)] := hl
  have hB27 : ∀ (rs0 : Option Nat) (xs1 : Int32) (h : ql_H) (H : Heap) (locs : List Loc) (ls : Array Slot), ql_S D h0 s H locs h → lv_has ls 2 [] → qw_X12_isEndless_27 a0 Q rs0 xs1 h → W p l e ({ frames := 6, cells := 0, slots := 0, locals := 108 } : Room) s m ([.ref a0, .int xp1] : List Value).toArray below meth c H locs 0 0 (vx_MQ below (ql_Q D h0 (ql_rI Q)) (ql_X D h0 X) ([.ref a0, .int xp1] : List Value).toArray s 0 0 (ql_A h0)) (F0 m 27 ls [.int xs1, va_rf rs0]) := by
    intro rs0 xs1 h H locs ls S hl w
    unfold qw_X12_isEndless_27 at w
    refine ql_VI (As := [.int xs1]) (rest := []) C S htab hlocks hl qy_X12_fails qi_X12_fails qs_X12_fails gw_1749 (ci := 13) rfl w (fun b w => qm_X12_fails l hl9 D _ b xs1 _ _ w) rfl ⟨Nat.le_of_ble_eq_true rfl, Nat.le_of_ble_eq_true rfl⟩ ⟨rfl, rfl⟩ (by exact Nat.le_of_ble_eq_true rfl) (fun b e9 => by cases e9; rfl) dX12_isEndless_27 ⟨Nat.le_of_ble_eq_true rfl, Nat.le_of_ble_eq_true rfl⟩ ⟨Nat.le_of_ble_eq_true rfl, Nat.le_of_ble_eq_true rfl⟩ (fun x1 h H locs S w => ?_)
    refine W.cs (cells' := 0) (slots' := 0) rfl rfl ?_
    exact ql_zret C S hr hlocks dX12_isEndless_30 ⟨Nat.le_of_ble_eq_true rfl, Nat.le_of_ble_eq_true rfl⟩ w
  have hB22 : ∀ (rs0 : Option Nat) (h : ql_H) (H : Heap) (locs : List Loc) (ls : Array Slot), ql_S D h0 s H locs h → lv_has ls 2 [] → qw_X12_isEndless_22 a0 Q rs0 h → W p l e ({ frames := 6, cells := 0, slots := 0, locals := 108 } : Room) s m ([.ref a0, .int xp1] : List Value).toArray below meth c H locs 0 0 (vx_MQ below (ql_Q D h0 (ql_rI Q)) (ql_X D h0 X) ([.ref a0, .int xp1] : List Value).toArray s 0 0 (ql_A h0)) (F0 m 22 ls [va_rf rs0]) := by
    intro rs0 h H locs ls S hl w
    unfold qw_X12_isEndless_22 at w
    refine lv_iconst (v := (1 : Int32)) C.1.1 C.1.2.1 dX12_isEndless_22 (by decide) ?_
    refine lv_goto (tgt := 27) C.1.1 C.1.2.1 dX12_isEndless_23 (by decide) ?_
    exact hB27 rs0 (1 : Int32) _ _ _ _ S (lv_sub hl [] rfl) w
  unfold qw_X12_isEndless at w
  refine ql_aload_n (r := (some a0)) C dX12_isEndless_0 rfl (lv_at hl 0 rfl) ?_
  refine ql_aload_n (r := (some a0)) C dX12_isEndless_1 rfl (lv_at hl 0 rfl) ?_
  refine lv_iload_n C.1.1 C.1.2.1 dX12_isEndless_2 rfl (lv_at hl 1 rfl) ?_
  refine ql_VI (As := [.int xp1]) (rest := [.ref a0]) C S htab hlocks hl qy_X12_placeOf qi_X12_placeOf qs_X12_placeOf gw_1772 (ci := 13) rfl w (fun b w => qm_X12_placeOf l hl9 D _ b xp1 _ _ w) rfl ⟨Nat.le_of_ble_eq_true rfl, Nat.le_of_ble_eq_true rfl⟩ ⟨rfl, rfl⟩ (by exact Nat.le_of_ble_eq_true rfl) (fun b e9 => by cases e9; rfl) dX12_isEndless_3 ⟨Nat.le_of_ble_eq_true rfl, Nat.le_of_ble_eq_true rfl⟩ ⟨Nat.le_of_ble_eq_true rfl, Nat.le_of_ble_eq_true rfl⟩ (fun x3 h H locs S w => ?_)
  refine W.cs (cells' := 0) (slots' := 0) rfl rfl ?_
  refine lv_if_lt (tgt := 22) C.1.1 C.1.2.1 dX12_isEndless_6 (by decide) (fun c9 => ?_) (fun c9 => ?_)
  · replace w := ql_if w c9
    exact hB22 (some a0) _ _ _ _ S (lv_sub hl [] rfl) w
  · replace w := ql_ifn w c9
    refine ql_aload_n (r := (some a0)) C dX12_isEndless_9 rfl (lv_at hl 0 rfl) ?_
    refine ql_aload_n (r := (some a0)) C dX12_isEndless_10 rfl (lv_at hl 0 rfl) ?_
    refine lv_iload_n C.1.1 C.1.2.1 dX12_isEndless_11 rfl (lv_at hl 1 rfl) ?_
    refine ql_VI (As := [.int xp1]) (rest := [.ref a0, .ref a0]) C S htab hlocks hl qy_X12_placeOf qi_X12_placeOf qs_X12_placeOf gw_1772 (ci := 13) rfl w (fun b w => qm_X12_placeOf l hl9 D _ b xp1 _ _ w) rfl ⟨Nat.le_of_ble_eq_true rfl, Nat.le_of_ble_eq_true rfl⟩ ⟨rfl, rfl⟩ (by exact Nat.le_of_ble_eq_true rfl) (fun b e9 => by cases e9; rfl) dX12_isEndless_12 ⟨Nat.le_of_ble_eq_true rfl, Nat.le_of_ble_eq_true rfl⟩ ⟨Nat.le_of_ble_eq_true rfl, Nat.le_of_ble_eq_true rfl⟩ (fun x5 h H locs S w => ?_)
    refine W.cs (cells' := 0) (slots' := 0) rfl rfl ?_
    refine lv_iconst (v := (3 : Int32)) C.1.1 C.1.2.1 dX12_isEndless_15 (by decide) ?_
    refine ql_VI (As := [.int x5, .int (3 : Int32)]) (rest := [.ref a0]) C S htab hlocks hl qy_X12_of qi_X12_of qs_X12_of gw_1745 (ci := 13) rfl w (fun b w => qm_X12_of l hl9 D _ b x5 (3 : Int32) _ _ w) rfl ⟨Nat.le_of_ble_eq_true rfl, Nat.le_of_ble_eq_true rfl⟩ ⟨rfl, rfl⟩ (by exact Nat.le_of_ble_eq_true rfl) (fun b e9 => by cases e9; rfl) dX12_isEndless_16 ⟨Nat.le_of_ble_eq_true rfl, Nat.le_of_ble_eq_true rfl⟩ ⟨Nat.le_of_ble_eq_true rfl, Nat.le_of_ble_eq_true rfl⟩ (fun x7 h H locs S w => ?_)
    refine W.cs (cells' := 0) (slots' := 0) rfl rfl ?_
    refine lv_if_ge (tgt := 26) C.1.1 C.1.2.1 dX12_isEndless_19 (by decide) (fun c9 => ?_) (fun c9 => ?_)
    · replace w := ql_if w c9
      refine lv_iconst (v := (0 : Int32)) C.1.1 C.1.2.1 dX12_isEndless_26 (by decide) ?_
      exact hB27 (some a0) (0 : Int32) _ _ _ _ S (lv_sub hl [] rfl) w
    · replace w := ql_ifn w c9
      exact hB22 (some a0) _ _ _ _ S (lv_sub hl [] rfl) w
def qw_X12_sunset (a0 : Nat) (xp1 : Int32) (h : ql_H) (Q : Int32 → ql_H → Prop) : Prop :=
ql_rv h (some a0) 13 fun b1 => qw_X12_isEndless b1 xp1 h (fun x1 h =>
if x1 = 0 then (ql_rv h (some a0) 13 fun b3 => qw_X12_placeOf b3 xp1 h (fun x3 h =>
ql_rv h (some a0) 13 fun b5 => qw_X12_of b5 x3 (3 : Int32) h (fun x5 h =>
Q x5 h))) else (Q (0 : Int32) h))
set_option maxHeartbeats 4000000 in
set_option maxRecDepth 100000 in
theorem qm_X12_sunset (l : Launch) (hl9 : l.stackTraces = false) (D : ql_D) (h0 : ql_H) (a0 : Nat) (xp1 : Int32) (Q : Int32 → ql_H → Prop) (X : String → ql_H → Prop) (w : qw_X12_sunset a0 xp1 h0 Q) : ql_M D l yX12_sunset cX12_sunset 2 (some .int) ({ frames := 8, cells := 0, slots := 0, locals := 137 } : Room) h0 [.ref a0, .int xp1] (ql_rI Q) X 0 0 := by
  refine ql_ofW (by decide) (Nat.le_of_ble_eq_true rfl) ?_
  intro p e s m below meth c ls C hr hlocks hnm htab S hl
  have hl : lv_has ls 2 [(0, .ref a0), (1, .int xp1)] := hl
  unfold qw_X12_sunset at w
  refine ql_aload_n (r := (some a0)) C dX12_sunset_0 rfl (lv_at hl 0 rfl) ?_
  refine lv_iload_n C.1.1 C.1.2.1 dX12_sunset_1 rfl (lv_at hl 1 rfl) ?_
  refine ql_VI (As := [.int xp1]) (rest := []) C S htab hlocks hl qy_X12_isEndless qi_X12_isEndless qs_X12_isEndless gw_1884 (ci := 13) rfl w (fun b w => qm_X12_isEndless l hl9 D _ b xp1 _ _ w) rfl ⟨Nat.le_of_ble_eq_true rfl, Nat.le_of_ble_eq_true rfl⟩ ⟨rfl, rfl⟩ (by exact Nat.le_of_ble_eq_true rfl) (fun b e9 => by cases e9; rfl) dX12_sunset_2 ⟨Nat.le_of_ble_eq_true rfl, Nat.le_of_ble_eq_true rfl⟩ ⟨Nat.le_of_ble_eq_true rfl, Nat.le_of_ble_eq_true rfl⟩ (fun x1 h H locs S w => ?_)
  refine W.cs (cells' := 0) (slots' := 0) rfl rfl ?_
  refine lv_if_eq (tgt := 12) C.1.1 C.1.2.1 dX12_sunset_5 (by decide) (fun c9 => ?_) (fun c9 => ?_)
  · replace w := ql_if w c9
    refine ql_aload_n (r := (some a0)) C dX12_sunset_12 rfl (lv_at hl 0 rfl) ?_
    refine ql_aload_n (r := (some a0)) C dX12_sunset_13 rfl (lv_at hl 0 rfl) ?_
    refine lv_iload_n C.1.1 C.1.2.1 dX12_sunset_14 rfl (lv_at hl 1 rfl) ?_
    refine ql_VI (As := [.int xp1]) (rest := [.ref a0]) C S htab hlocks hl qy_X12_placeOf qi_X12_placeOf qs_X12_placeOf gw_1772 (ci := 13) rfl w (fun b w => qm_X12_placeOf l hl9 D _ b xp1 _ _ w) rfl ⟨Nat.le_of_ble_eq_true rfl, Nat.le_of_ble_eq_true rfl⟩ ⟨rfl, rfl⟩ (by exact Nat.le_of_ble_eq_true rfl) (fun b e9 => by cases e9; rfl) dX12_sunset_15 ⟨Nat.le_of_ble_eq_true rfl, Nat.le_of_ble_eq_true rfl⟩ ⟨Nat.le_of_ble_eq_true rfl, Nat.le_of_ble_eq_true rfl⟩ (fun x3 h H locs S w => ?_)
    refine W.cs (cells' := 0) (slots' := 0) rfl rfl ?_
    refine lv_iconst (v := (3 : Int32)) C.1.1 C.1.2.1 dX12_sunset_18 (by decide) ?_
    refine ql_VI (As := [.int x3, .int (3 : Int32)]) (rest := []) C S htab hlocks hl qy_X12_of qi_X12_of qs_X12_of gw_1745 (ci := 13) rfl w (fun b w => qm_X12_of l hl9 D _ b x3 (3 : Int32) _ _ w) rfl ⟨Nat.le_of_ble_eq_true rfl, Nat.le_of_ble_eq_true rfl⟩ ⟨rfl, rfl⟩ (by exact Nat.le_of_ble_eq_true rfl) (fun b e9 => by cases e9; rfl) dX12_sunset_19 ⟨Nat.le_of_ble_eq_true rfl, Nat.le_of_ble_eq_true rfl⟩ ⟨Nat.le_of_ble_eq_true rfl, Nat.le_of_ble_eq_true rfl⟩ (fun x5 h H locs S w => ?_)
    refine W.cs (cells' := 0) (slots' := 0) rfl rfl ?_
    exact ql_iret C S hr hlocks dX12_sunset_22 ⟨Nat.le_of_ble_eq_true rfl, Nat.le_of_ble_eq_true rfl⟩ w
  · replace w := ql_ifn w c9
    refine lv_iconst (v := (0 : Int32)) C.1.1 C.1.2.1 dX12_sunset_8 (by decide) ?_
    refine lv_goto (tgt := 22) C.1.1 C.1.2.1 dX12_sunset_9 (by decide) ?_
    exact ql_iret C S hr hlocks dX12_sunset_22 ⟨Nat.le_of_ble_eq_true rfl, Nat.le_of_ble_eq_true rfl⟩ w
def qw_X12_isInForce (a0 : Nat) (xp1 : Int32) (xp2 : Int32) (h : ql_H) (Q : Int32 → ql_H → Prop) : Prop :=
ql_rv h (some a0) 13 fun b1 => qw_X12_isNone b1 xp1 h (fun x1 h =>
if x1 = 0 then (ql_rv h (some a0) 13 fun b3 => qw_X12_placeOf b3 xp1 h (fun x3 h =>
ql_rv h (some a0) 13 fun b5 => qw_X12_isValid b5 x3 xp2 h (fun x5 h =>
if x5 = 0 then (ql_nz .boolean (0 : Int32) ∧ Q (0 : Int32) h) else (ql_nz .boolean (1 : Int32) ∧ Q (1 : Int32) h)))) else (ql_nz .boolean (0 : Int32) ∧ Q (0 : Int32) h))
set_option maxHeartbeats 4000000 in
set_option maxRecDepth 100000 in
theorem qm_X12_isInForce (l : Launch) (hl9 : l.stackTraces = false) (D : ql_D) (h0 : ql_H) (a0 : Nat) (xp1 : Int32) (xp2 : Int32) (Q : Int32 → ql_H → Prop) (X : String → ql_H → Prop) (w : qw_X12_isInForce a0 xp1 xp2 h0 Q) : ql_M D l yX12_isInForce cX12_isInForce 3 (some .boolean) ({ frames := 8, cells := 0, slots := 0, locals := 137 } : Room) h0 [.ref a0, .int xp1, .int xp2] (ql_rI Q) X 0 0 := by
  refine ql_ofW (by decide) (Nat.le_of_ble_eq_true rfl) ?_
  intro p e s m below meth c ls C hr hlocks hnm htab S hl
  have hl : lv_has ls 3 [(0, .ref a0), (1, .int xp1), (2, .int xp2)] := hl
  unfold qw_X12_isInForce at w
  refine ql_aload_n (r := (some a0)) C dX12_isInForce_0 rfl (lv_at hl 0 rfl) ?_
  refine lv_iload_n C.1.1 C.1.2.1 dX12_isInForce_1 rfl (lv_at hl 1 rfl) ?_
  refine ql_VI (As := [.int xp1]) (rest := []) C S htab hlocks hl qy_X12_isNone qi_X12_isNone qs_X12_isNone gw_1872 (ci := 13) rfl w (fun b w => qm_X12_isNone l hl9 D _ b xp1 _ _ w) rfl ⟨Nat.le_of_ble_eq_true rfl, Nat.le_of_ble_eq_true rfl⟩ ⟨rfl, rfl⟩ (by exact Nat.le_of_ble_eq_true rfl) (fun b e9 => by cases e9; rfl) dX12_isInForce_2 ⟨Nat.le_of_ble_eq_true rfl, Nat.le_of_ble_eq_true rfl⟩ ⟨Nat.le_of_ble_eq_true rfl, Nat.le_of_ble_eq_true rfl⟩ (fun x1 h H locs S w => ?_)
  refine W.cs (cells' := 0) (slots' := 0) rfl rfl ?_
  refine lv_if_ne (tgt := 25) C.1.1 C.1.2.1 dX12_isInForce_5 (by decide) (fun c9 => ?_) (fun c9 => ?_)
  · replace w := ql_ifn w c9
    refine lv_iconst (v := (0 : Int32)) C.1.1 C.1.2.1 dX12_isInForce_25 (by decide) ?_
    exact ql_zret C S hr hlocks dX12_isInForce_26 ⟨Nat.le_of_ble_eq_true rfl, Nat.le_of_ble_eq_true rfl⟩ w
  · replace w := ql_if w c9
    refine ql_aload_n (r := (some a0)) C dX12_isInForce_8 rfl (lv_at hl 0 rfl) ?_
    refine ql_aload_n (r := (some a0)) C dX12_isInForce_9 rfl (lv_at hl 0 rfl) ?_
    refine lv_iload_n C.1.1 C.1.2.1 dX12_isInForce_10 rfl (lv_at hl 1 rfl) ?_
    refine ql_VI (As := [.int xp1]) (rest := [.ref a0]) C S htab hlocks hl qy_X12_placeOf qi_X12_placeOf qs_X12_placeOf gw_1772 (ci := 13) rfl w (fun b w => qm_X12_placeOf l hl9 D _ b xp1 _ _ w) rfl ⟨Nat.le_of_ble_eq_true rfl, Nat.le_of_ble_eq_true rfl⟩ ⟨rfl, rfl⟩ (by exact Nat.le_of_ble_eq_true rfl) (fun b e9 => by cases e9; rfl) dX12_isInForce_11 ⟨Nat.le_of_ble_eq_true rfl, Nat.le_of_ble_eq_true rfl⟩ ⟨Nat.le_of_ble_eq_true rfl, Nat.le_of_ble_eq_true rfl⟩ (fun x3 h H locs S w => ?_)
    refine W.cs (cells' := 0) (slots' := 0) rfl rfl ?_
    refine lv_iload_n C.1.1 C.1.2.1 dX12_isInForce_14 rfl (lv_at hl 2 rfl) ?_
    refine ql_VI (As := [.int x3, .int xp2]) (rest := []) C S htab hlocks hl qy_X12_isValid qi_X12_isValid qs_X12_isValid gw_1788 (ci := 13) rfl w (fun b w => qm_X12_isValid l hl9 D _ b x3 xp2 _ _ w) rfl ⟨Nat.le_of_ble_eq_true rfl, Nat.le_of_ble_eq_true rfl⟩ ⟨rfl, rfl⟩ (by exact Nat.le_of_ble_eq_true rfl) (fun b e9 => by cases e9; rfl) dX12_isInForce_15 ⟨Nat.le_of_ble_eq_true rfl, Nat.le_of_ble_eq_true rfl⟩ ⟨Nat.le_of_ble_eq_true rfl, Nat.le_of_ble_eq_true rfl⟩ (fun x5 h H locs S w => ?_)
    refine W.cs (cells' := 0) (slots' := 0) rfl rfl ?_
    refine lv_if_eq (tgt := 25) C.1.1 C.1.2.1 dX12_isInForce_18 (by decide) (fun c9 => ?_) (fun c9 => ?_)
    · replace w := ql_if w c9
      refine lv_iconst (v := (0 : Int32)) C.1.1 C.1.2.1 dX12_isInForce_25 (by decide) ?_
      exact ql_zret C S hr hlocks dX12_isInForce_26 ⟨Nat.le_of_ble_eq_true rfl, Nat.le_of_ble_eq_true rfl⟩ w
    · replace w := ql_ifn w c9
      refine lv_iconst (v := (1 : Int32)) C.1.1 C.1.2.1 dX12_isInForce_21 (by decide) ?_
      refine lv_goto (tgt := 26) C.1.1 C.1.2.1 dX12_isInForce_22 (by decide) ?_
      exact ql_zret C S hr hlocks dX12_isInForce_26 ⟨Nat.le_of_ble_eq_true rfl, Nat.le_of_ble_eq_true rfl⟩ w
def qw_X12_hasLapsed (a0 : Nat) (xp1 : Int32) (h : ql_H) (Q : Int32 → ql_H → Prop) : Prop :=
ql_rv h (some a0) 13 fun b1 => qw_X12_isNone b1 xp1 h (fun x1 h =>
if x1 = 0 then (ql_rv h (some a0) 13 fun b3 => qw_X12_placeOf b3 xp1 h (fun x3 h =>
ql_rv h (some a0) 13 fun b5 => qw_X12_isOver b5 x3 h (fun x5 h =>
if x5 = 0 then (ql_nz .boolean (0 : Int32) ∧ Q (0 : Int32) h) else (ql_nz .boolean (1 : Int32) ∧ Q (1 : Int32) h)))) else (ql_nz .boolean (0 : Int32) ∧ Q (0 : Int32) h))
set_option maxHeartbeats 4000000 in
set_option maxRecDepth 100000 in
theorem qm_X12_hasLapsed (l : Launch) (hl9 : l.stackTraces = false) (D : ql_D) (h0 : ql_H) (a0 : Nat) (xp1 : Int32) (Q : Int32 → ql_H → Prop) (X : String → ql_H → Prop) (w : qw_X12_hasLapsed a0 xp1 h0 Q) : ql_M D l yX12_hasLapsed cX12_hasLapsed 2 (some .boolean) ({ frames := 8, cells := 0, slots := 0, locals := 137 } : Room) h0 [.ref a0, .int xp1] (ql_rI Q) X 0 0 := by
  refine ql_ofW (by decide) (Nat.le_of_ble_eq_true rfl) ?_
  intro p e s m below meth c ls C hr hlocks hnm htab S hl
  have hl : lv_has ls 2 [(0, .ref a0), (1, .int xp1)] := hl
  unfold qw_X12_hasLapsed at w
  refine ql_aload_n (r := (some a0)) C dX12_hasLapsed_0 rfl (lv_at hl 0 rfl) ?_
  refine lv_iload_n C.1.1 C.1.2.1 dX12_hasLapsed_1 rfl (lv_at hl 1 rfl) ?_
  refine ql_VI (As := [.int xp1]) (rest := []) C S htab hlocks hl qy_X12_isNone qi_X12_isNone qs_X12_isNone gw_1872 (ci := 13) rfl w (fun b w => qm_X12_isNone l hl9 D _ b xp1 _ _ w) rfl ⟨Nat.le_of_ble_eq_true rfl, Nat.le_of_ble_eq_true rfl⟩ ⟨rfl, rfl⟩ (by exact Nat.le_of_ble_eq_true rfl) (fun b e9 => by cases e9; rfl) dX12_hasLapsed_2 ⟨Nat.le_of_ble_eq_true rfl, Nat.le_of_ble_eq_true rfl⟩ ⟨Nat.le_of_ble_eq_true rfl, Nat.le_of_ble_eq_true rfl⟩ (fun x1 h H locs S w => ?_)
  refine W.cs (cells' := 0) (slots' := 0) rfl rfl ?_
  refine lv_if_ne (tgt := 24) C.1.1 C.1.2.1 dX12_hasLapsed_5 (by decide) (fun c9 => ?_) (fun c9 => ?_)
  · replace w := ql_ifn w c9
    refine lv_iconst (v := (0 : Int32)) C.1.1 C.1.2.1 dX12_hasLapsed_24 (by decide) ?_
    exact ql_zret C S hr hlocks dX12_hasLapsed_25 ⟨Nat.le_of_ble_eq_true rfl, Nat.le_of_ble_eq_true rfl⟩ w
  · replace w := ql_if w c9
    refine ql_aload_n (r := (some a0)) C dX12_hasLapsed_8 rfl (lv_at hl 0 rfl) ?_
    refine ql_aload_n (r := (some a0)) C dX12_hasLapsed_9 rfl (lv_at hl 0 rfl) ?_
    refine lv_iload_n C.1.1 C.1.2.1 dX12_hasLapsed_10 rfl (lv_at hl 1 rfl) ?_
    refine ql_VI (As := [.int xp1]) (rest := [.ref a0]) C S htab hlocks hl qy_X12_placeOf qi_X12_placeOf qs_X12_placeOf gw_1772 (ci := 13) rfl w (fun b w => qm_X12_placeOf l hl9 D _ b xp1 _ _ w) rfl ⟨Nat.le_of_ble_eq_true rfl, Nat.le_of_ble_eq_true rfl⟩ ⟨rfl, rfl⟩ (by exact Nat.le_of_ble_eq_true rfl) (fun b e9 => by cases e9; rfl) dX12_hasLapsed_11 ⟨Nat.le_of_ble_eq_true rfl, Nat.le_of_ble_eq_true rfl⟩ ⟨Nat.le_of_ble_eq_true rfl, Nat.le_of_ble_eq_true rfl⟩ (fun x3 h H locs S w => ?_)
    refine W.cs (cells' := 0) (slots' := 0) rfl rfl ?_
    refine ql_VI (As := [.int x3]) (rest := []) C S htab hlocks hl qy_X12_isOver qi_X12_isOver qs_X12_isOver gw_1812 (ci := 13) rfl w (fun b w => qm_X12_isOver l hl9 D _ b x3 _ _ w) rfl ⟨Nat.le_of_ble_eq_true rfl, Nat.le_of_ble_eq_true rfl⟩ ⟨rfl, rfl⟩ (by exact Nat.le_of_ble_eq_true rfl) (fun b e9 => by cases e9; rfl) dX12_hasLapsed_14 ⟨Nat.le_of_ble_eq_true rfl, Nat.le_of_ble_eq_true rfl⟩ ⟨Nat.le_of_ble_eq_true rfl, Nat.le_of_ble_eq_true rfl⟩ (fun x5 h H locs S w => ?_)
    refine W.cs (cells' := 0) (slots' := 0) rfl rfl ?_
    refine lv_if_eq (tgt := 24) C.1.1 C.1.2.1 dX12_hasLapsed_17 (by decide) (fun c9 => ?_) (fun c9 => ?_)
    · replace w := ql_if w c9
      refine lv_iconst (v := (0 : Int32)) C.1.1 C.1.2.1 dX12_hasLapsed_24 (by decide) ?_
      exact ql_zret C S hr hlocks dX12_hasLapsed_25 ⟨Nat.le_of_ble_eq_true rfl, Nat.le_of_ble_eq_true rfl⟩ w
    · replace w := ql_ifn w c9
      refine lv_iconst (v := (1 : Int32)) C.1.1 C.1.2.1 dX12_hasLapsed_20 (by decide) ?_
      refine lv_goto (tgt := 25) C.1.1 C.1.2.1 dX12_hasLapsed_21 (by decide) ?_
      exact ql_zret C S hr hlocks dX12_hasLapsed_25 ⟨Nat.le_of_ble_eq_true rfl, Nat.le_of_ble_eq_true rfl⟩ w
def qw_X12_valid_29 (a0 : Nat) (Q : Int32 → ql_H → Prop) (k4 : Int32 → Int32 → Int32 → ql_H → Prop) (xl1 : Int32) (xl3 : Int32) (xs0 : Int32) (xs1 : Int32) (h : ql_H) : Prop :=
k4 xl1 (xs0 + xs1) (xl3 + (1 : Int32)) h
def qw_X12_valid_4 (a0 : Nat) (Q : Int32 → ql_H → Prop) : Nat → Int32 → Int32 → Int32 → ql_H → Prop
  | 0, _, _, _, _ => False
  | n + 1, xl1, xl2, xl3, h =>
    ql_gR h (some a0) 13 0 fun r1 =>
    ql_lI h r1 0 (0 : Int32) fun x2 =>
    if x2 ≤ xl3 then (Q xl2 h) else (ql_rv h (some a0) 13 fun b3 => qw_X12_isValid b3 xl3 xl1 h (fun x3 h =>
    if x3 = 0 then (qw_X12_valid_29 a0 Q (qw_X12_valid_4 a0 Q n) xl1 xl3 xl2 (0 : Int32) h) else (qw_X12_valid_29 a0 Q (qw_X12_valid_4 a0 Q n) xl1 xl3 xl2 (1 : Int32) h)))
def qw_X12_valid (a0 : Nat) (xp1 : Int32) (h : ql_H) (Q : Int32 → ql_H → Prop) : Prop :=
qw_X12_valid_4 a0 Q ql_FU xp1 (0 : Int32) (0 : Int32) h
set_option maxHeartbeats 4000000 in
set_option maxRecDepth 100000 in
theorem qm_X12_valid (l : Launch) (hl9 : l.stackTraces = false) (D : ql_D) (h0 : ql_H) (a0 : Nat) (xp1 : Int32) (Q : Int32 → ql_H → Prop) (X : String → ql_H → Prop) (w : qw_X12_valid a0 xp1 h0 Q) : ql_M D l yX12_valid cX12_valid 4 (some .int) ({ frames := 6, cells := 0, slots := 0, locals := 108 } : Room) h0 [.ref a0, .int xp1] (ql_rI Q) X 0 0 := by
  refine ql_ofW (by decide) (Nat.le_of_ble_eq_true rfl) ?_
  intro p e s m below meth c ls C hr hlocks hnm htab S hl
  have hl : lv_has ls 4 [(0, .ref a0), (1, .int xp1)] := hl
  have hB29 : ∀ (k4 : Int32 → Int32 → Int32 → ql_H → Prop) (hk4 : ∀ (xl1 : Int32) (xl2 : Int32) (xl3 : Int32) (h : ql_H) (H : Heap) (locs : List Loc) (ls : Array Slot), ql_S D h0 s H locs h → lv_has ls 4 [(0, .ref a0), (1, .int xl1), (2, .int xl2), (3, .int xl3)] → k4 xl1 xl2 xl3 h → W p l e ({ frames := 6, cells := 0, slots := 0, locals := 108 } : Room) s m ([.ref a0, .int xp1] : List Value).toArray below meth c H locs 0 0 (vx_MQ below (ql_Q D h0 (ql_rI Q)) (ql_X D h0 X) ([.ref a0, .int xp1] : List Value).toArray s 0 0 (ql_A h0)) (F0 m 4 ls [])) , ∀ (xl1 : Int32) (xl3 : Int32) (xs0 : Int32) (xs1 : Int32) (h : ql_H) (H : Heap) (locs : List Loc) (ls : Array Slot), ql_S D h0 s H locs h → lv_has ls 4 [(0, .ref a0), (1, .int xl1), (3, .int xl3)] → qw_X12_valid_29 a0 Q k4 xl1 xl3 xs0 xs1 h → W p l e ({ frames := 6, cells := 0, slots := 0, locals := 108 } : Room) s m ([.ref a0, .int xp1] : List Value).toArray below meth c H locs 0 0 (vx_MQ below (ql_Q D h0 (ql_rI Q)) (ql_X D h0 X) ([.ref a0, .int xp1] : List Value).toArray s 0 0 (ql_A h0)) (F0 m 29 ls [.int xs1, .int xs0]) := by
    intro k4 hk4 xl1 xl3 xs0 xs1 h H locs ls S hl w
    unfold qw_X12_valid_29 at w
    refine lv_iadd C.1.1 C.1.2.1 dX12_valid_29 ?_
    refine lv_istore_n (lv' := [(2, .int (xs0 + xs1)), (0, .ref a0), (1, .int xl1), (3, .int xl3)]) C.1.1 C.1.2.1 dX12_valid_30 rfl hl (by decide) rfl (fun ls hl => ?_)
    refine lv_iinc (v := (xl3 + (1 : Int32))) (lv' := [(3, .int (xl3 + (1 : Int32))), (2, .int (xs0 + xs1)), (0, .ref a0), (1, .int xl1)]) C.1.1 C.1.2.1 dX12_valid_31 hl (k := 3) rfl rfl (by decide) rfl (fun ls hl => ?_)
    refine lv_goto (tgt := 4) C.1.1 C.1.2.1 dX12_valid_34 (by decide) ?_
    exact hk4 xl1 (xs0 + xs1) (xl3 + (1 : Int32)) _ _ _ _ S (lv_sub hl [2, 3, 1, 0] rfl) w
  have hB4 : ∀ n : Nat, ∀ (xl1 : Int32) (xl2 : Int32) (xl3 : Int32) (h : ql_H) (H : Heap) (locs : List Loc) (ls : Array Slot), ql_S D h0 s H locs h → lv_has ls 4 [(0, .ref a0), (1, .int xl1), (2, .int xl2), (3, .int xl3)] → qw_X12_valid_4 a0 Q n xl1 xl2 xl3 h → W p l e ({ frames := 6, cells := 0, slots := 0, locals := 108 } : Room) s m ([.ref a0, .int xp1] : List Value).toArray below meth c H locs 0 0 (vx_MQ below (ql_Q D h0 (ql_rI Q)) (ql_X D h0 X) ([.ref a0, .int xp1] : List Value).toArray s 0 0 (ql_A h0)) (F0 m 4 ls []) := by
    intro n
    induction n with
    | zero => intro xl1 xl2 xl3 h H locs ls S hl w; rw [qw_X12_valid_4] at w; exact w.elim
    | succ n ih =>
      intro xl1 xl2 xl3 h H locs ls S hl w
      rw [qw_X12_valid_4] at w
      refine lv_iload_n C.1.1 C.1.2.1 dX12_valid_4 rfl (lv_at hl 3 rfl) ?_
      refine ql_aload_n (r := (some a0)) C dX12_valid_5 rfl (lv_at hl 0 rfl) ?_
      refine ql_getR C S qf_13_0 gw_1668 dX12_valid_6 w (fun r1 w => ?_)
      refine lv_iconst (v := (0 : Int32)) C.1.1 C.1.2.1 dX12_valid_9 (by decide) ?_
      refine ql_iald C S dX12_valid_10 w (fun x2 w => ?_)
      refine lv_icmp_ge (tgt := 37) C.1.1 C.1.2.1 dX12_valid_11 (by decide) (fun c9 => ?_) (fun c9 => ?_)
      · replace w := ql_if w c9
        refine lv_iload_n C.1.1 C.1.2.1 dX12_valid_37 rfl (lv_at hl 2 rfl) ?_
        exact ql_iret C S hr hlocks dX12_valid_38 ⟨Nat.le_of_ble_eq_true rfl, Nat.le_of_ble_eq_true rfl⟩ w
      · replace w := ql_ifn w c9
        refine lv_iload_n C.1.1 C.1.2.1 dX12_valid_14 rfl (lv_at hl 2 rfl) ?_
        refine ql_aload_n (r := (some a0)) C dX12_valid_15 rfl (lv_at hl 0 rfl) ?_
        refine lv_iload_n C.1.1 C.1.2.1 dX12_valid_16 rfl (lv_at hl 3 rfl) ?_
        refine lv_iload_n C.1.1 C.1.2.1 dX12_valid_17 rfl (lv_at hl 1 rfl) ?_
        refine ql_VI (As := [.int xl3, .int xl1]) (rest := [.int xl2]) C S htab hlocks hl qy_X12_isValid qi_X12_isValid qs_X12_isValid gw_1788 (ci := 13) rfl w (fun b w => qm_X12_isValid l hl9 D _ b xl3 xl1 _ _ w) rfl ⟨Nat.le_of_ble_eq_true rfl, Nat.le_of_ble_eq_true rfl⟩ ⟨rfl, rfl⟩ (by exact Nat.le_of_ble_eq_true rfl) (fun b e9 => by cases e9; rfl) dX12_valid_18 ⟨Nat.le_of_ble_eq_true rfl, Nat.le_of_ble_eq_true rfl⟩ ⟨Nat.le_of_ble_eq_true rfl, Nat.le_of_ble_eq_true rfl⟩ (fun x3 h H locs S w => ?_)
        refine W.cs (cells' := 0) (slots' := 0) rfl rfl ?_
        refine lv_if_eq (tgt := 28) C.1.1 C.1.2.1 dX12_valid_21 (by decide) (fun c9 => ?_) (fun c9 => ?_)
        · replace w := ql_if w c9
          refine lv_iconst (v := (0 : Int32)) C.1.1 C.1.2.1 dX12_valid_28 (by decide) ?_
          exact hB29 (qw_X12_valid_4 a0 Q n) ih xl1 xl3 xl2 (0 : Int32) _ _ _ _ S (lv_sub hl [0, 1, 3] rfl) w
        · replace w := ql_ifn w c9
          refine lv_iconst (v := (1 : Int32)) C.1.1 C.1.2.1 dX12_valid_24 (by decide) ?_
          refine lv_goto (tgt := 29) C.1.1 C.1.2.1 dX12_valid_25 (by decide) ?_
          exact hB29 (qw_X12_valid_4 a0 Q n) ih xl1 xl3 xl2 (1 : Int32) _ _ _ _ S (lv_sub hl [0, 1, 3] rfl) w
  unfold qw_X12_valid at w
  refine lv_iconst (v := (0 : Int32)) C.1.1 C.1.2.1 dX12_valid_0 (by decide) ?_
  refine lv_istore_n (lv' := [(2, .int (0 : Int32)), (0, .ref a0), (1, .int xp1)]) C.1.1 C.1.2.1 dX12_valid_1 rfl hl (by decide) rfl (fun ls hl => ?_)
  refine lv_iconst (v := (0 : Int32)) C.1.1 C.1.2.1 dX12_valid_2 (by decide) ?_
  refine lv_istore_n (lv' := [(3, .int (0 : Int32)), (2, .int (0 : Int32)), (0, .ref a0), (1, .int xp1)]) C.1.1 C.1.2.1 dX12_valid_3 rfl hl (by decide) rfl (fun ls hl => ?_)
  exact hB4 ql_FU xp1 (0 : Int32) (0 : Int32) _ _ _ _ S (lv_sub hl [2, 3, 1, 0] rfl) w
def qw_X12_inForceOn (a0 : Nat) (xp1 : Int32) (h : ql_H) (Q : Int32 → ql_H → Prop) : Prop :=
ql_pV h (some a0) 13 7 (.int (0 : Int32)) fun h =>
ql_rv h (some a0) 13 fun b1 => qw_X12_valid b1 xp1 h (fun x1 h =>
Q x1 h)
set_option maxHeartbeats 4000000 in
set_option maxRecDepth 100000 in
theorem qm_X12_inForceOn (l : Launch) (hl9 : l.stackTraces = false) (D : ql_D) (h0 : ql_H) (a0 : Nat) (xp1 : Int32) (Q : Int32 → ql_H → Prop) (X : String → ql_H → Prop) (w : qw_X12_inForceOn a0 xp1 h0 Q) : ql_M D l yX12_inForceOn cX12_inForceOn 2 (some .int) ({ frames := 8, cells := 0, slots := 0, locals := 139 } : Room) h0 [.ref a0, .int xp1] (ql_rI Q) X 0 0 := by
  refine ql_ofW (by decide) (Nat.le_of_ble_eq_true rfl) ?_
  intro p e s m below meth c ls C hr hlocks hnm htab S hl
  have hl : lv_has ls 2 [(0, .ref a0), (1, .int xp1)] := hl
  unfold qw_X12_inForceOn at w
  refine ql_aload_n (r := (some a0)) C dX12_inForceOn_0 rfl (lv_at hl 0 rfl) ?_
  refine lv_iconst (v := (0 : Int32)) C.1.1 C.1.2.1 dX12_inForceOn_1 (by decide) ?_
  refine ql_putV C S qf_13_7 gw_1675 (tyX12) tyX12_ok nmX12 rfl dX12_inForceOn_2 (v := .int (0 : Int32)) rfl rfl w (fun h H locs S w => ?_)
  refine ql_aload_n (r := (some a0)) C dX12_inForceOn_5 rfl (lv_at hl 0 rfl) ?_
  refine lv_iload_n C.1.1 C.1.2.1 dX12_inForceOn_6 rfl (lv_at hl 1 rfl) ?_
  refine ql_VI (As := [.int xp1]) (rest := []) C S htab hlocks hl qy_X12_valid qi_X12_valid qs_X12_valid gw_1900 (ci := 13) rfl w (fun b w => qm_X12_valid l hl9 D _ b xp1 _ _ w) rfl ⟨Nat.le_of_ble_eq_true rfl, Nat.le_of_ble_eq_true rfl⟩ ⟨rfl, rfl⟩ (by exact Nat.le_of_ble_eq_true rfl) (fun b e9 => by cases e9; rfl) dX12_inForceOn_7 ⟨Nat.le_of_ble_eq_true rfl, Nat.le_of_ble_eq_true rfl⟩ ⟨Nat.le_of_ble_eq_true rfl, Nat.le_of_ble_eq_true rfl⟩ (fun x1 h H locs S w => ?_)
  refine W.cs (cells' := 0) (slots' := 0) rfl rfl ?_
  exact ql_iret C S hr hlocks dX12_inForceOn_10 ⟨Nat.le_of_ble_eq_true rfl, Nat.le_of_ble_eq_true rfl⟩ w
def qw_X12_daysUntilLapsed (a0 : Nat) (xp1 : Int32) (h : ql_H) (Q : Int32 → ql_H → Prop) : Prop :=
ql_rv h (some a0) 13 fun b1 => qw_X12_isEndless b1 xp1 h (fun x1 h =>
if x1 = 0 then (ql_rv h (some a0) 13 fun b3 => qw_X12_placeOf b3 xp1 h (fun x3 h =>
ql_rv h (some a0) 13 fun b5 => qw_X12_of b5 x3 (3 : Int32) h (fun x5 h =>
ql_gR h (some a0) 13 0 fun r7 =>
ql_lI h r7 0 (2 : Int32) fun x8 =>
qw_X12_most (0 : Int32) ((x5 - x8) + (1 : Int32)) h (fun x9 h =>
Q x9 h)))) else (Q (0 : Int32) h))
set_option maxHeartbeats 4000000 in
set_option maxRecDepth 100000 in
theorem qm_X12_daysUntilLapsed (l : Launch) (hl9 : l.stackTraces = false) (D : ql_D) (h0 : ql_H) (a0 : Nat) (xp1 : Int32) (Q : Int32 → ql_H → Prop) (X : String → ql_H → Prop) (w : qw_X12_daysUntilLapsed a0 xp1 h0 Q) : ql_M D l yX12_daysUntilLapsed cX12_daysUntilLapsed 2 (some .int) ({ frames := 8, cells := 0, slots := 0, locals := 137 } : Room) h0 [.ref a0, .int xp1] (ql_rI Q) X 0 0 := by
  refine ql_ofW (by decide) (Nat.le_of_ble_eq_true rfl) ?_
  intro p e s m below meth c ls C hr hlocks hnm htab S hl
  have hl : lv_has ls 2 [(0, .ref a0), (1, .int xp1)] := hl
  unfold qw_X12_daysUntilLapsed at w
  refine ql_aload_n (r := (some a0)) C dX12_daysUntilLapsed_0 rfl (lv_at hl 0 rfl) ?_
  refine lv_iload_n C.1.1 C.1.2.1 dX12_daysUntilLapsed_1 rfl (lv_at hl 1 rfl) ?_
  refine ql_VI (As := [.int xp1]) (rest := []) C S htab hlocks hl qy_X12_isEndless qi_X12_isEndless qs_X12_isEndless gw_1884 (ci := 13) rfl w (fun b w => qm_X12_isEndless l hl9 D _ b xp1 _ _ w) rfl ⟨Nat.le_of_ble_eq_true rfl, Nat.le_of_ble_eq_true rfl⟩ ⟨rfl, rfl⟩ (by exact Nat.le_of_ble_eq_true rfl) (fun b e9 => by cases e9; rfl) dX12_daysUntilLapsed_2 ⟨Nat.le_of_ble_eq_true rfl, Nat.le_of_ble_eq_true rfl⟩ ⟨Nat.le_of_ble_eq_true rfl, Nat.le_of_ble_eq_true rfl⟩ (fun x1 h H locs S w => ?_)
  refine W.cs (cells' := 0) (slots' := 0) rfl rfl ?_
  refine lv_if_eq (tgt := 12) C.1.1 C.1.2.1 dX12_daysUntilLapsed_5 (by decide) (fun c9 => ?_) (fun c9 => ?_)
  · replace w := ql_if w c9
    refine lv_iconst (v := (0 : Int32)) C.1.1 C.1.2.1 dX12_daysUntilLapsed_12 (by decide) ?_
    refine ql_aload_n (r := (some a0)) C dX12_daysUntilLapsed_13 rfl (lv_at hl 0 rfl) ?_
    refine ql_aload_n (r := (some a0)) C dX12_daysUntilLapsed_14 rfl (lv_at hl 0 rfl) ?_
    refine lv_iload_n C.1.1 C.1.2.1 dX12_daysUntilLapsed_15 rfl (lv_at hl 1 rfl) ?_
    refine ql_VI (As := [.int xp1]) (rest := [.ref a0, .int (0 : Int32)]) C S htab hlocks hl qy_X12_placeOf qi_X12_placeOf qs_X12_placeOf gw_1772 (ci := 13) rfl w (fun b w => qm_X12_placeOf l hl9 D _ b xp1 _ _ w) rfl ⟨Nat.le_of_ble_eq_true rfl, Nat.le_of_ble_eq_true rfl⟩ ⟨rfl, rfl⟩ (by exact Nat.le_of_ble_eq_true rfl) (fun b e9 => by cases e9; rfl) dX12_daysUntilLapsed_16 ⟨Nat.le_of_ble_eq_true rfl, Nat.le_of_ble_eq_true rfl⟩ ⟨Nat.le_of_ble_eq_true rfl, Nat.le_of_ble_eq_true rfl⟩ (fun x3 h H locs S w => ?_)
    refine W.cs (cells' := 0) (slots' := 0) rfl rfl ?_
    refine lv_iconst (v := (3 : Int32)) C.1.1 C.1.2.1 dX12_daysUntilLapsed_19 (by decide) ?_
    refine ql_VI (As := [.int x3, .int (3 : Int32)]) (rest := [.int (0 : Int32)]) C S htab hlocks hl qy_X12_of qi_X12_of qs_X12_of gw_1745 (ci := 13) rfl w (fun b w => qm_X12_of l hl9 D _ b x3 (3 : Int32) _ _ w) rfl ⟨Nat.le_of_ble_eq_true rfl, Nat.le_of_ble_eq_true rfl⟩ ⟨rfl, rfl⟩ (by exact Nat.le_of_ble_eq_true rfl) (fun b e9 => by cases e9; rfl) dX12_daysUntilLapsed_20 ⟨Nat.le_of_ble_eq_true rfl, Nat.le_of_ble_eq_true rfl⟩ ⟨Nat.le_of_ble_eq_true rfl, Nat.le_of_ble_eq_true rfl⟩ (fun x5 h H locs S w => ?_)
    refine W.cs (cells' := 0) (slots' := 0) rfl rfl ?_
    refine ql_aload_n (r := (some a0)) C dX12_daysUntilLapsed_23 rfl (lv_at hl 0 rfl) ?_
    refine ql_getR C S qf_13_0 gw_1668 dX12_daysUntilLapsed_24 w (fun r7 w => ?_)
    refine lv_iconst (v := (2 : Int32)) C.1.1 C.1.2.1 dX12_daysUntilLapsed_27 (by decide) ?_
    refine ql_iald C S dX12_daysUntilLapsed_28 w (fun x8 w => ?_)
    refine lv_isub C.1.1 C.1.2.1 dX12_daysUntilLapsed_29 ?_
    refine lv_iconst (v := (1 : Int32)) C.1.1 C.1.2.1 dX12_daysUntilLapsed_30 (by decide) ?_
    refine lv_iadd C.1.1 C.1.2.1 dX12_daysUntilLapsed_31 ?_
    refine ql_SI (As := [.int (0 : Int32), .int ((x5 - x8) + (1 : Int32))]) (rest := []) C S htab hlocks hl qy_X12_most qi_X12_most gw_1908 (qm_X12_most l hl9 D _ (0 : Int32) ((x5 - x8) + (1 : Int32)) _ _ w) rfl ⟨Nat.le_of_ble_eq_true rfl, Nat.le_of_ble_eq_true rfl⟩ ⟨rfl, rfl⟩ (by exact Nat.le_of_ble_eq_true rfl) rfl dX12_daysUntilLapsed_32 ⟨Nat.le_of_ble_eq_true rfl, Nat.le_of_ble_eq_true rfl⟩ ⟨Nat.le_of_ble_eq_true rfl, Nat.le_of_ble_eq_true rfl⟩ (fun x9 h H locs S w => ?_)
    refine W.cs (cells' := 0) (slots' := 0) rfl rfl ?_
    exact ql_iret C S hr hlocks dX12_daysUntilLapsed_35 ⟨Nat.le_of_ble_eq_true rfl, Nat.le_of_ble_eq_true rfl⟩ w
  · replace w := ql_ifn w c9
    refine lv_iconst (v := (0 : Int32)) C.1.1 C.1.2.1 dX12_daysUntilLapsed_8 (by decide) ?_
    refine lv_goto (tgt := 35) C.1.1 C.1.2.1 dX12_daysUntilLapsed_9 (by decide) ?_
    exact ql_iret C S hr hlocks dX12_daysUntilLapsed_35 ⟨Nat.le_of_ble_eq_true rfl, Nat.le_of_ble_eq_true rfl⟩ w
def qw_X12_length (a0 : Nat) (xp1 : Int32) (h : ql_H) (Q : Int32 → ql_H → Prop) : Prop :=
ql_rv h (some a0) 13 fun b1 => qw_X12_isNone b1 xp1 h (fun x1 h =>
if x1 = 0 then (ql_rv h (some a0) 13 fun b3 => qw_X12_placeOf b3 xp1 h (fun x3 h =>
ql_rv h (some a0) 13 fun b5 => qw_X12_long0 b5 x3 h (fun x5 h =>
Q x5 h))) else (Q (0 : Int32) h))
set_option maxHeartbeats 4000000 in
set_option maxRecDepth 100000 in
theorem qm_X12_length (l : Launch) (hl9 : l.stackTraces = false) (D : ql_D) (h0 : ql_H) (a0 : Nat) (xp1 : Int32) (Q : Int32 → ql_H → Prop) (X : String → ql_H → Prop) (w : qw_X12_length a0 xp1 h0 Q) : ql_M D l yX12_length cX12_length 2 (some .int) ({ frames := 8, cells := 0, slots := 0, locals := 137 } : Room) h0 [.ref a0, .int xp1] (ql_rI Q) X 0 0 := by
  refine ql_ofW (by decide) (Nat.le_of_ble_eq_true rfl) ?_
  intro p e s m below meth c ls C hr hlocks hnm htab S hl
  have hl : lv_has ls 2 [(0, .ref a0), (1, .int xp1)] := hl
  unfold qw_X12_length at w
  refine ql_aload_n (r := (some a0)) C dX12_length_0 rfl (lv_at hl 0 rfl) ?_
  refine lv_iload_n C.1.1 C.1.2.1 dX12_length_1 rfl (lv_at hl 1 rfl) ?_
  refine ql_VI (As := [.int xp1]) (rest := []) C S htab hlocks hl qy_X12_isNone qi_X12_isNone qs_X12_isNone gw_1872 (ci := 13) rfl w (fun b w => qm_X12_isNone l hl9 D _ b xp1 _ _ w) rfl ⟨Nat.le_of_ble_eq_true rfl, Nat.le_of_ble_eq_true rfl⟩ ⟨rfl, rfl⟩ (by exact Nat.le_of_ble_eq_true rfl) (fun b e9 => by cases e9; rfl) dX12_length_2 ⟨Nat.le_of_ble_eq_true rfl, Nat.le_of_ble_eq_true rfl⟩ ⟨Nat.le_of_ble_eq_true rfl, Nat.le_of_ble_eq_true rfl⟩ (fun x1 h H locs S w => ?_)
  refine W.cs (cells' := 0) (slots' := 0) rfl rfl ?_
  refine lv_if_eq (tgt := 12) C.1.1 C.1.2.1 dX12_length_5 (by decide) (fun c9 => ?_) (fun c9 => ?_)
  · replace w := ql_if w c9
    refine ql_aload_n (r := (some a0)) C dX12_length_12 rfl (lv_at hl 0 rfl) ?_
    refine ql_aload_n (r := (some a0)) C dX12_length_13 rfl (lv_at hl 0 rfl) ?_
    refine lv_iload_n C.1.1 C.1.2.1 dX12_length_14 rfl (lv_at hl 1 rfl) ?_
    refine ql_VI (As := [.int xp1]) (rest := [.ref a0]) C S htab hlocks hl qy_X12_placeOf qi_X12_placeOf qs_X12_placeOf gw_1772 (ci := 13) rfl w (fun b w => qm_X12_placeOf l hl9 D _ b xp1 _ _ w) rfl ⟨Nat.le_of_ble_eq_true rfl, Nat.le_of_ble_eq_true rfl⟩ ⟨rfl, rfl⟩ (by exact Nat.le_of_ble_eq_true rfl) (fun b e9 => by cases e9; rfl) dX12_length_15 ⟨Nat.le_of_ble_eq_true rfl, Nat.le_of_ble_eq_true rfl⟩ ⟨Nat.le_of_ble_eq_true rfl, Nat.le_of_ble_eq_true rfl⟩ (fun x3 h H locs S w => ?_)
    refine W.cs (cells' := 0) (slots' := 0) rfl rfl ?_
    refine ql_VI (As := [.int x3]) (rest := []) C S htab hlocks hl qy_X12_long0 qi_X12_long0 qs_X12_long0 gw_1776 (ci := 13) rfl w (fun b w => qm_X12_long0 l hl9 D _ b x3 _ _ w) rfl ⟨Nat.le_of_ble_eq_true rfl, Nat.le_of_ble_eq_true rfl⟩ ⟨rfl, rfl⟩ (by exact Nat.le_of_ble_eq_true rfl) (fun b e9 => by cases e9; rfl) dX12_length_18 ⟨Nat.le_of_ble_eq_true rfl, Nat.le_of_ble_eq_true rfl⟩ ⟨Nat.le_of_ble_eq_true rfl, Nat.le_of_ble_eq_true rfl⟩ (fun x5 h H locs S w => ?_)
    refine W.cs (cells' := 0) (slots' := 0) rfl rfl ?_
    exact ql_iret C S hr hlocks dX12_length_21 ⟨Nat.le_of_ble_eq_true rfl, Nat.le_of_ble_eq_true rfl⟩ w
  · replace w := ql_ifn w c9
    refine lv_iconst (v := (0 : Int32)) C.1.1 C.1.2.1 dX12_length_8 (by decide) ?_
    refine lv_goto (tgt := 21) C.1.1 C.1.2.1 dX12_length_9 (by decide) ?_
    exact ql_iret C S hr hlocks dX12_length_21 ⟨Nat.le_of_ble_eq_true rfl, Nat.le_of_ble_eq_true rfl⟩ w
def qw_X12_noteAt_35 (a0 : Nat) (Q : Int32 → ql_H → Prop) (xl2 : Int32) (xl3 : Int32) (rs0 : Option Nat) (xs1 : Int32) (h : ql_H) : Prop :=
ql_rv h rs0 13 fun b1 => qw_X12_fails b1 xs1 h (fun x1 h =>
if x1 = 0 then (ql_rv h (some a0) 13 fun b3 => qw_X12_lastVersion b3 xl3 h (fun x3 h =>
ql_rv h (some a0) 13 fun b5 => qw_X12_note b5 xl3 x3 xl2 h (fun x5 h =>
ql_nz .char (x5.toUInt32 % 65536).toInt32 ∧ Q (x5.toUInt32 % 65536).toInt32 h))) else (ql_nz .char (32 : Int32) ∧ Q (32 : Int32) h))
def qw_X12_noteAt (a0 : Nat) (xp1 : Int32) (xp2 : Int32) (h : ql_H) (Q : Int32 → ql_H → Prop) : Prop :=
ql_rv h (some a0) 13 fun b7 => qw_X12_placeOf b7 xp1 h (fun x7 h =>
if 0 ≤ x7 then (ql_rv h (some a0) 13 fun b9 => qw_X12_long0 b9 x7 h (fun x9 h =>
qw_X12_in xp2 (0 : Int32) (x9 - (1 : Int32)) h (fun x11 h =>
if x11 = 0 then (qw_X12_noteAt_35 a0 Q xp2 x7 (some a0) (2 : Int32) h) else (qw_X12_noteAt_35 a0 Q xp2 x7 (some a0) (0 : Int32) h)))) else (qw_X12_noteAt_35 a0 Q xp2 x7 (some a0) (1 : Int32) h))
set_option maxHeartbeats 4000000 in
set_option maxRecDepth 100000 in
theorem qm_X12_noteAt (l : Launch) (hl9 : l.stackTraces = false) (D : ql_D) (h0 : ql_H) (a0 : Nat) (xp1 : Int32) (xp2 : Int32) (Q : Int32 → ql_H → Prop) (X : String → ql_H → Prop) (w : qw_X12_noteAt a0 xp1 xp2 h0 Q) : ql_M D l yX12_noteAt cX12_noteAt 4 (some .char) ({ frames := 8, cells := 0, slots := 0, locals := 136 } : Room) h0 [.ref a0, .int xp1, .int xp2] (ql_rI Q) X 0 0 := by
  refine ql_ofW (by decide) (Nat.le_of_ble_eq_true rfl) ?_
  intro p e s m below meth c ls C hr hlocks hnm htab S hl
  have hl : lv_has ls 4 [(0, .ref a0), (1, .int xp1), (2, .int xp2)] := hl
  have hB35 : ∀ (xl2 : Int32) (xl3 : Int32) (rs0 : Option Nat) (xs1 : Int32) (h : ql_H) (H : Heap) (locs : List Loc) (ls : Array Slot), ql_S D h0 s H locs h → lv_has ls 4 [(0, .ref a0), (2, .int xl2), (3, .int xl3)] → qw_X12_noteAt_35 a0 Q xl2 xl3 rs0 xs1 h → W p l e ({ frames := 8, cells := 0, slots := 0, locals := 136 } : Room) s m ([.ref a0, .int xp1, .int xp2] : List Value).toArray below meth c H locs 0 0 (vx_MQ below (ql_Q D h0 (ql_rI Q)) (ql_X D h0 X) ([.ref a0, .int xp1, .int xp2] : List Value).toArray s 0 0 (ql_A h0)) (F0 m 35 ls [.int xs1, va_rf rs0]) := by
    intro xl2 xl3 rs0 xs1 h H locs ls S hl w
    unfold qw_X12_noteAt_35 at w
    refine ql_VI (As := [.int xs1]) (rest := []) C S htab hlocks hl qy_X12_fails qi_X12_fails qs_X12_fails gw_1749 (ci := 13) rfl w (fun b w => qm_X12_fails l hl9 D _ b xs1 _ _ w) rfl ⟨Nat.le_of_ble_eq_true rfl, Nat.le_of_ble_eq_true rfl⟩ ⟨rfl, rfl⟩ (by exact Nat.le_of_ble_eq_true rfl) (fun b e9 => by cases e9; rfl) dX12_noteAt_35 ⟨Nat.le_of_ble_eq_true rfl, Nat.le_of_ble_eq_true rfl⟩ ⟨Nat.le_of_ble_eq_true rfl, Nat.le_of_ble_eq_true rfl⟩ (fun x1 h H locs S w => ?_)
    refine W.cs (cells' := 0) (slots' := 0) rfl rfl ?_
    refine lv_if_eq (tgt := 46) C.1.1 C.1.2.1 dX12_noteAt_38 (by decide) (fun c9 => ?_) (fun c9 => ?_)
    · replace w := ql_if w c9
      refine ql_aload_n (r := (some a0)) C dX12_noteAt_46 rfl (lv_at hl 0 rfl) ?_
      refine lv_iload_n C.1.1 C.1.2.1 dX12_noteAt_47 rfl (lv_at hl 2 rfl) ?_
      refine ql_aload_n (r := (some a0)) C dX12_noteAt_48 rfl (lv_at hl 0 rfl) ?_
      refine lv_iload_n C.1.1 C.1.2.1 dX12_noteAt_49 rfl (lv_at hl 2 rfl) ?_
      refine ql_VI (As := [.int xl3]) (rest := [.int xl3, .ref a0]) C S htab hlocks hl qy_X12_lastVersion qi_X12_lastVersion qs_X12_lastVersion gw_1780 (ci := 13) rfl w (fun b w => qm_X12_lastVersion l hl9 D _ b xl3 _ _ w) rfl ⟨Nat.le_of_ble_eq_true rfl, Nat.le_of_ble_eq_true rfl⟩ ⟨rfl, rfl⟩ (by exact Nat.le_of_ble_eq_true rfl) (fun b e9 => by cases e9; rfl) dX12_noteAt_50 ⟨Nat.le_of_ble_eq_true rfl, Nat.le_of_ble_eq_true rfl⟩ ⟨Nat.le_of_ble_eq_true rfl, Nat.le_of_ble_eq_true rfl⟩ (fun x3 h H locs S w => ?_)
      refine W.cs (cells' := 0) (slots' := 0) rfl rfl ?_
      refine lv_iload_n C.1.1 C.1.2.1 dX12_noteAt_53 rfl (lv_at hl 1 rfl) ?_
      refine ql_VI (As := [.int xl3, .int x3, .int xl2]) (rest := []) C S htab hlocks hl qy_X12_note qi_X12_note qs_X12_note gw_1796 (ci := 13) rfl w (fun b w => qm_X12_note l hl9 D _ b xl3 x3 xl2 _ _ w) rfl ⟨Nat.le_of_ble_eq_true rfl, Nat.le_of_ble_eq_true rfl⟩ ⟨rfl, rfl⟩ (by exact Nat.le_of_ble_eq_true rfl) (fun b e9 => by cases e9; rfl) dX12_noteAt_54 ⟨Nat.le_of_ble_eq_true rfl, Nat.le_of_ble_eq_true rfl⟩ ⟨Nat.le_of_ble_eq_true rfl, Nat.le_of_ble_eq_true rfl⟩ (fun x5 h H locs S w => ?_)
      refine W.cs (cells' := 0) (slots' := 0) rfl rfl ?_
      refine lv_i2c C.1.1 C.1.2.1 dX12_noteAt_57 rfl ?_
      exact ql_zret C S hr hlocks dX12_noteAt_58 ⟨Nat.le_of_ble_eq_true rfl, Nat.le_of_ble_eq_true rfl⟩ w
    · replace w := ql_ifn w c9
      refine lv_bipush (v := (32 : Int32)) C.1.1 C.1.2.1 dX12_noteAt_41 (by decide) ?_
      refine lv_goto (tgt := 58) C.1.1 C.1.2.1 dX12_noteAt_43 (by decide) ?_
      exact ql_zret C S hr hlocks dX12_noteAt_58 ⟨Nat.le_of_ble_eq_true rfl, Nat.le_of_ble_eq_true rfl⟩ w
  unfold qw_X12_noteAt at w
  refine ql_aload_n (r := (some a0)) C dX12_noteAt_0 rfl (lv_at hl 0 rfl) ?_
  refine lv_iload_n C.1.1 C.1.2.1 dX12_noteAt_1 rfl (lv_at hl 1 rfl) ?_
  refine ql_VI (As := [.int xp1]) (rest := []) C S htab hlocks hl qy_X12_placeOf qi_X12_placeOf qs_X12_placeOf gw_1772 (ci := 13) rfl w (fun b w => qm_X12_placeOf l hl9 D _ b xp1 _ _ w) rfl ⟨Nat.le_of_ble_eq_true rfl, Nat.le_of_ble_eq_true rfl⟩ ⟨rfl, rfl⟩ (by exact Nat.le_of_ble_eq_true rfl) (fun b e9 => by cases e9; rfl) dX12_noteAt_2 ⟨Nat.le_of_ble_eq_true rfl, Nat.le_of_ble_eq_true rfl⟩ ⟨Nat.le_of_ble_eq_true rfl, Nat.le_of_ble_eq_true rfl⟩ (fun x7 h H locs S w => ?_)
  refine W.cs (cells' := 0) (slots' := 0) rfl rfl ?_
  refine lv_istore_n (lv' := [(3, .int x7), (0, .ref a0), (1, .int xp1), (2, .int xp2)]) C.1.1 C.1.2.1 dX12_noteAt_5 rfl hl (by decide) rfl (fun ls hl => ?_)
  refine ql_aload_n (r := (some a0)) C dX12_noteAt_6 rfl (lv_at hl 1 rfl) ?_
  refine lv_iload_n C.1.1 C.1.2.1 dX12_noteAt_7 rfl (lv_at hl 0 rfl) ?_
  refine lv_if_ge (tgt := 15) C.1.1 C.1.2.1 dX12_noteAt_8 (by decide) (fun c9 => ?_) (fun c9 => ?_)
  · replace w := ql_if w c9
    refine lv_iload_n C.1.1 C.1.2.1 dX12_noteAt_15 rfl (lv_at hl 3 rfl) ?_
    refine lv_iconst (v := (0 : Int32)) C.1.1 C.1.2.1 dX12_noteAt_16 (by decide) ?_
    refine ql_aload_n (r := (some a0)) C dX12_noteAt_17 rfl (lv_at hl 1 rfl) ?_
    refine lv_iload_n C.1.1 C.1.2.1 dX12_noteAt_18 rfl (lv_at hl 0 rfl) ?_
    refine ql_VI (As := [.int x7]) (rest := [.int (0 : Int32), .int xp2, .ref a0]) C S htab hlocks hl qy_X12_long0 qi_X12_long0 qs_X12_long0 gw_1776 (ci := 13) rfl w (fun b w => qm_X12_long0 l hl9 D _ b x7 _ _ w) rfl ⟨Nat.le_of_ble_eq_true rfl, Nat.le_of_ble_eq_true rfl⟩ ⟨rfl, rfl⟩ (by exact Nat.le_of_ble_eq_true rfl) (fun b e9 => by cases e9; rfl) dX12_noteAt_19 ⟨Nat.le_of_ble_eq_true rfl, Nat.le_of_ble_eq_true rfl⟩ ⟨Nat.le_of_ble_eq_true rfl, Nat.le_of_ble_eq_true rfl⟩ (fun x9 h H locs S w => ?_)
    refine W.cs (cells' := 0) (slots' := 0) rfl rfl ?_
    refine lv_iconst (v := (1 : Int32)) C.1.1 C.1.2.1 dX12_noteAt_22 (by decide) ?_
    refine lv_isub C.1.1 C.1.2.1 dX12_noteAt_23 ?_
    refine ql_SI (As := [.int xp2, .int (0 : Int32), .int (x9 - (1 : Int32))]) (rest := [.ref a0]) C S htab hlocks hl qy_X12_in qi_X12_in gw_1735 (qm_X12_in l hl9 D _ xp2 (0 : Int32) (x9 - (1 : Int32)) _ _ w) rfl ⟨Nat.le_of_ble_eq_true rfl, Nat.le_of_ble_eq_true rfl⟩ ⟨rfl, rfl⟩ (by exact Nat.le_of_ble_eq_true rfl) rfl dX12_noteAt_24 ⟨Nat.le_of_ble_eq_true rfl, Nat.le_of_ble_eq_true rfl⟩ ⟨Nat.le_of_ble_eq_true rfl, Nat.le_of_ble_eq_true rfl⟩ (fun x11 h H locs S w => ?_)
    refine W.cs (cells' := 0) (slots' := 0) rfl rfl ?_
    refine lv_if_eq (tgt := 34) C.1.1 C.1.2.1 dX12_noteAt_27 (by decide) (fun c9 => ?_) (fun c9 => ?_)
    · replace w := ql_if w c9
      refine lv_iconst (v := (2 : Int32)) C.1.1 C.1.2.1 dX12_noteAt_34 (by decide) ?_
      exact hB35 xp2 x7 (some a0) (2 : Int32) _ _ _ _ S (lv_sub hl [1, 3, 0] rfl) w
    · replace w := ql_ifn w c9
      refine lv_iconst (v := (0 : Int32)) C.1.1 C.1.2.1 dX12_noteAt_30 (by decide) ?_
      refine lv_goto (tgt := 35) C.1.1 C.1.2.1 dX12_noteAt_31 (by decide) ?_
      exact hB35 xp2 x7 (some a0) (0 : Int32) _ _ _ _ S (lv_sub hl [1, 3, 0] rfl) w
  · replace w := ql_ifn w c9
    refine lv_iconst (v := (1 : Int32)) C.1.1 C.1.2.1 dX12_noteAt_11 (by decide) ?_
    refine lv_goto (tgt := 35) C.1.1 C.1.2.1 dX12_noteAt_12 (by decide) ?_
    exact hB35 xp2 x7 (some a0) (1 : Int32) _ _ _ _ S (lv_sub hl [1, 3, 0] rfl) w
def qw_X12_versionCount (a0 : Nat) (xp1 : Int32) (h : ql_H) (Q : Int32 → ql_H → Prop) : Prop :=
ql_rv h (some a0) 13 fun b1 => qw_X12_isNone b1 xp1 h (fun x1 h =>
if x1 = 0 then (ql_rv h (some a0) 13 fun b3 => qw_X12_placeOf b3 xp1 h (fun x3 h =>
ql_rv h (some a0) 13 fun b5 => qw_X12_of b5 x3 (4 : Int32) h (fun x5 h =>
Q x5 h))) else (Q (0 : Int32) h))
set_option maxHeartbeats 4000000 in
set_option maxRecDepth 100000 in
theorem qm_X12_versionCount (l : Launch) (hl9 : l.stackTraces = false) (D : ql_D) (h0 : ql_H) (a0 : Nat) (xp1 : Int32) (Q : Int32 → ql_H → Prop) (X : String → ql_H → Prop) (w : qw_X12_versionCount a0 xp1 h0 Q) : ql_M D l yX12_versionCount cX12_versionCount 2 (some .int) ({ frames := 8, cells := 0, slots := 0, locals := 137 } : Room) h0 [.ref a0, .int xp1] (ql_rI Q) X 0 0 := by
  refine ql_ofW (by decide) (Nat.le_of_ble_eq_true rfl) ?_
  intro p e s m below meth c ls C hr hlocks hnm htab S hl
  have hl : lv_has ls 2 [(0, .ref a0), (1, .int xp1)] := hl
  unfold qw_X12_versionCount at w
  refine ql_aload_n (r := (some a0)) C dX12_versionCount_0 rfl (lv_at hl 0 rfl) ?_
  refine lv_iload_n C.1.1 C.1.2.1 dX12_versionCount_1 rfl (lv_at hl 1 rfl) ?_
  refine ql_VI (As := [.int xp1]) (rest := []) C S htab hlocks hl qy_X12_isNone qi_X12_isNone qs_X12_isNone gw_1872 (ci := 13) rfl w (fun b w => qm_X12_isNone l hl9 D _ b xp1 _ _ w) rfl ⟨Nat.le_of_ble_eq_true rfl, Nat.le_of_ble_eq_true rfl⟩ ⟨rfl, rfl⟩ (by exact Nat.le_of_ble_eq_true rfl) (fun b e9 => by cases e9; rfl) dX12_versionCount_2 ⟨Nat.le_of_ble_eq_true rfl, Nat.le_of_ble_eq_true rfl⟩ ⟨Nat.le_of_ble_eq_true rfl, Nat.le_of_ble_eq_true rfl⟩ (fun x1 h H locs S w => ?_)
  refine W.cs (cells' := 0) (slots' := 0) rfl rfl ?_
  refine lv_if_eq (tgt := 12) C.1.1 C.1.2.1 dX12_versionCount_5 (by decide) (fun c9 => ?_) (fun c9 => ?_)
  · replace w := ql_if w c9
    refine ql_aload_n (r := (some a0)) C dX12_versionCount_12 rfl (lv_at hl 0 rfl) ?_
    refine ql_aload_n (r := (some a0)) C dX12_versionCount_13 rfl (lv_at hl 0 rfl) ?_
    refine lv_iload_n C.1.1 C.1.2.1 dX12_versionCount_14 rfl (lv_at hl 1 rfl) ?_
    refine ql_VI (As := [.int xp1]) (rest := [.ref a0]) C S htab hlocks hl qy_X12_placeOf qi_X12_placeOf qs_X12_placeOf gw_1772 (ci := 13) rfl w (fun b w => qm_X12_placeOf l hl9 D _ b xp1 _ _ w) rfl ⟨Nat.le_of_ble_eq_true rfl, Nat.le_of_ble_eq_true rfl⟩ ⟨rfl, rfl⟩ (by exact Nat.le_of_ble_eq_true rfl) (fun b e9 => by cases e9; rfl) dX12_versionCount_15 ⟨Nat.le_of_ble_eq_true rfl, Nat.le_of_ble_eq_true rfl⟩ ⟨Nat.le_of_ble_eq_true rfl, Nat.le_of_ble_eq_true rfl⟩ (fun x3 h H locs S w => ?_)
    refine W.cs (cells' := 0) (slots' := 0) rfl rfl ?_
    refine lv_iconst (v := (4 : Int32)) C.1.1 C.1.2.1 dX12_versionCount_18 (by decide) ?_
    refine ql_VI (As := [.int x3, .int (4 : Int32)]) (rest := []) C S htab hlocks hl qy_X12_of qi_X12_of qs_X12_of gw_1745 (ci := 13) rfl w (fun b w => qm_X12_of l hl9 D _ b x3 (4 : Int32) _ _ w) rfl ⟨Nat.le_of_ble_eq_true rfl, Nat.le_of_ble_eq_true rfl⟩ ⟨rfl, rfl⟩ (by exact Nat.le_of_ble_eq_true rfl) (fun b e9 => by cases e9; rfl) dX12_versionCount_19 ⟨Nat.le_of_ble_eq_true rfl, Nat.le_of_ble_eq_true rfl⟩ ⟨Nat.le_of_ble_eq_true rfl, Nat.le_of_ble_eq_true rfl⟩ (fun x5 h H locs S w => ?_)
    refine W.cs (cells' := 0) (slots' := 0) rfl rfl ?_
    exact ql_iret C S hr hlocks dX12_versionCount_22 ⟨Nat.le_of_ble_eq_true rfl, Nat.le_of_ble_eq_true rfl⟩ w
  · replace w := ql_ifn w c9
    refine lv_iconst (v := (0 : Int32)) C.1.1 C.1.2.1 dX12_versionCount_8 (by decide) ?_
    refine lv_goto (tgt := 22) C.1.1 C.1.2.1 dX12_versionCount_9 (by decide) ?_
    exact ql_iret C S hr hlocks dX12_versionCount_22 ⟨Nat.le_of_ble_eq_true rfl, Nat.le_of_ble_eq_true rfl⟩ w
def qw_X12_isBlank_27 (a0 : Nat) (Q : Int32 → ql_H → Prop) (rs0 : Option Nat) (xs1 : Int32) (h : ql_H) : Prop :=
ql_rv h rs0 13 fun b1 => qw_X12_fails b1 xs1 h (fun x1 h =>
ql_nz .boolean x1 ∧ Q x1 h)
def qw_X12_isBlank_22 (a0 : Nat) (Q : Int32 → ql_H → Prop) (rs0 : Option Nat) (h : ql_H) : Prop :=
qw_X12_isBlank_27 a0 Q rs0 (1 : Int32) h
def qw_X12_isBlank (a0 : Nat) (xp1 : Int32) (xp2 : Int32) (h : ql_H) (Q : Int32 → ql_H → Prop) : Prop :=
ql_rv h (some a0) 13 fun b3 => qw_X12_placeOf b3 xp1 h (fun x3 h =>
if x3 < 0 then (qw_X12_isBlank_22 a0 Q (some a0) h) else (ql_rv h (some a0) 13 fun b5 => qw_X12_placeOf b5 xp1 h (fun x5 h =>
ql_rv h (some a0) 13 fun b7 => qw_X12_versionOn b7 x5 xp2 h (fun x7 h =>
if 0 ≤ x7 then (qw_X12_isBlank_27 a0 Q (some a0) (0 : Int32) h) else (qw_X12_isBlank_22 a0 Q (some a0) h)))))
set_option maxHeartbeats 4000000 in
set_option maxRecDepth 100000 in
theorem qm_X12_isBlank (l : Launch) (hl9 : l.stackTraces = false) (D : ql_D) (h0 : ql_H) (a0 : Nat) (xp1 : Int32) (xp2 : Int32) (Q : Int32 → ql_H → Prop) (X : String → ql_H → Prop) (w : qw_X12_isBlank a0 xp1 xp2 h0 Q) : ql_M D l yX12_isBlank cX12_isBlank 3 (some .boolean) ({ frames := 6, cells := 0, slots := 0, locals := 110 } : Room) h0 [.ref a0, .int xp1, .int xp2] (ql_rI Q) X 0 0 := by
  refine ql_ofW (by decide) (Nat.le_of_ble_eq_true rfl) ?_
  intro p e s m below meth c ls C hr hlocks hnm htab S hl
  have hl : lv_has ls 3 [(0, .ref a0), (1, .int xp1), (2, .int xp2)] := hl
  have hB27 : ∀ (rs0 : Option Nat) (xs1 : Int32) (h : ql_H) (H : Heap) (locs : List Loc) (ls : Array Slot), ql_S D h0 s H locs h → lv_has ls 3 [] → qw_X12_isBlank_27 a0 Q rs0 xs1 h → W p l e ({ frames := 6, cells := 0, slots := 0, locals := 110 } : Room) s m ([.ref a0, .int xp1, .int xp2] : List Value).toArray below meth c H locs 0 0 (vx_MQ below (ql_Q D h0 (ql_rI Q)) (ql_X D h0 X) ([.ref a0, .int xp1, .int xp2] : List Value).toArray s 0 0 (ql_A h0)) (F0 m 27 ls [.int xs1, va_rf rs0]) := by
    intro rs0 xs1 h H locs ls S hl w
    unfold qw_X12_isBlank_27 at w
    refine ql_VI (As := [.int xs1]) (rest := []) C S htab hlocks hl qy_X12_fails qi_X12_fails qs_X12_fails gw_1749 (ci := 13) rfl w (fun b w => qm_X12_fails l hl9 D _ b xs1 _ _ w) rfl ⟨Nat.le_of_ble_eq_true rfl, Nat.le_of_ble_eq_true rfl⟩ ⟨rfl, rfl⟩ (by exact Nat.le_of_ble_eq_true rfl) (fun b e9 => by cases e9; rfl) dX12_isBlank_27 ⟨Nat.le_of_ble_eq_true rfl, Nat.le_of_ble_eq_true rfl⟩ ⟨Nat.le_of_ble_eq_true rfl, Nat.le_of_ble_eq_true rfl⟩ (fun x1 h H locs S w => ?_)
    refine W.cs (cells' := 0) (slots' := 0) rfl rfl ?_
    exact ql_zret C S hr hlocks dX12_isBlank_30 ⟨Nat.le_of_ble_eq_true rfl, Nat.le_of_ble_eq_true rfl⟩ w
  have hB22 : ∀ (rs0 : Option Nat) (h : ql_H) (H : Heap) (locs : List Loc) (ls : Array Slot), ql_S D h0 s H locs h → lv_has ls 3 [] → qw_X12_isBlank_22 a0 Q rs0 h → W p l e ({ frames := 6, cells := 0, slots := 0, locals := 110 } : Room) s m ([.ref a0, .int xp1, .int xp2] : List Value).toArray below meth c H locs 0 0 (vx_MQ below (ql_Q D h0 (ql_rI Q)) (ql_X D h0 X) ([.ref a0, .int xp1, .int xp2] : List Value).toArray s 0 0 (ql_A h0)) (F0 m 22 ls [va_rf rs0]) := by
    intro rs0 h H locs ls S hl w
    unfold qw_X12_isBlank_22 at w
    refine lv_iconst (v := (1 : Int32)) C.1.1 C.1.2.1 dX12_isBlank_22 (by decide) ?_
    refine lv_goto (tgt := 27) C.1.1 C.1.2.1 dX12_isBlank_23 (by decide) ?_
    exact hB27 rs0 (1 : Int32) _ _ _ _ S (lv_sub hl [] rfl) w
  unfold qw_X12_isBlank at w
  refine ql_aload_n (r := (some a0)) C dX12_isBlank_0 rfl (lv_at hl 0 rfl) ?_
  refine ql_aload_n (r := (some a0)) C dX12_isBlank_1 rfl (lv_at hl 0 rfl) ?_
  refine lv_iload_n C.1.1 C.1.2.1 dX12_isBlank_2 rfl (lv_at hl 1 rfl) ?_
  refine ql_VI (As := [.int xp1]) (rest := [.ref a0]) C S htab hlocks hl qy_X12_placeOf qi_X12_placeOf qs_X12_placeOf gw_1772 (ci := 13) rfl w (fun b w => qm_X12_placeOf l hl9 D _ b xp1 _ _ w) rfl ⟨Nat.le_of_ble_eq_true rfl, Nat.le_of_ble_eq_true rfl⟩ ⟨rfl, rfl⟩ (by exact Nat.le_of_ble_eq_true rfl) (fun b e9 => by cases e9; rfl) dX12_isBlank_3 ⟨Nat.le_of_ble_eq_true rfl, Nat.le_of_ble_eq_true rfl⟩ ⟨Nat.le_of_ble_eq_true rfl, Nat.le_of_ble_eq_true rfl⟩ (fun x3 h H locs S w => ?_)
  refine W.cs (cells' := 0) (slots' := 0) rfl rfl ?_
  refine lv_if_lt (tgt := 22) C.1.1 C.1.2.1 dX12_isBlank_6 (by decide) (fun c9 => ?_) (fun c9 => ?_)
  · replace w := ql_if w c9
    exact hB22 (some a0) _ _ _ _ S (lv_sub hl [] rfl) w
  · replace w := ql_ifn w c9
    refine ql_aload_n (r := (some a0)) C dX12_isBlank_9 rfl (lv_at hl 0 rfl) ?_
    refine ql_aload_n (r := (some a0)) C dX12_isBlank_10 rfl (lv_at hl 0 rfl) ?_
    refine lv_iload_n C.1.1 C.1.2.1 dX12_isBlank_11 rfl (lv_at hl 1 rfl) ?_
    refine ql_VI (As := [.int xp1]) (rest := [.ref a0, .ref a0]) C S htab hlocks hl qy_X12_placeOf qi_X12_placeOf qs_X12_placeOf gw_1772 (ci := 13) rfl w (fun b w => qm_X12_placeOf l hl9 D _ b xp1 _ _ w) rfl ⟨Nat.le_of_ble_eq_true rfl, Nat.le_of_ble_eq_true rfl⟩ ⟨rfl, rfl⟩ (by exact Nat.le_of_ble_eq_true rfl) (fun b e9 => by cases e9; rfl) dX12_isBlank_12 ⟨Nat.le_of_ble_eq_true rfl, Nat.le_of_ble_eq_true rfl⟩ ⟨Nat.le_of_ble_eq_true rfl, Nat.le_of_ble_eq_true rfl⟩ (fun x5 h H locs S w => ?_)
    refine W.cs (cells' := 0) (slots' := 0) rfl rfl ?_
    refine lv_iload_n C.1.1 C.1.2.1 dX12_isBlank_15 rfl (lv_at hl 2 rfl) ?_
    refine ql_VI (As := [.int x5, .int xp2]) (rest := [.ref a0]) C S htab hlocks hl qy_X12_versionOn qi_X12_versionOn qs_X12_versionOn gw_1931 (ci := 13) rfl w (fun b w => qm_X12_versionOn l hl9 D _ b x5 xp2 _ _ w) rfl ⟨Nat.le_of_ble_eq_true rfl, Nat.le_of_ble_eq_true rfl⟩ ⟨rfl, rfl⟩ (by exact Nat.le_of_ble_eq_true rfl) (fun b e9 => by cases e9; rfl) dX12_isBlank_16 ⟨Nat.le_of_ble_eq_true rfl, Nat.le_of_ble_eq_true rfl⟩ ⟨Nat.le_of_ble_eq_true rfl, Nat.le_of_ble_eq_true rfl⟩ (fun x7 h H locs S w => ?_)
    refine W.cs (cells' := 0) (slots' := 0) rfl rfl ?_
    refine lv_if_ge (tgt := 26) C.1.1 C.1.2.1 dX12_isBlank_19 (by decide) (fun c9 => ?_) (fun c9 => ?_)
    · replace w := ql_if w c9
      refine lv_iconst (v := (0 : Int32)) C.1.1 C.1.2.1 dX12_isBlank_26 (by decide) ?_
      exact hB27 (some a0) (0 : Int32) _ _ _ _ S (lv_sub hl [] rfl) w
    · replace w := ql_ifn w c9
      exact hB22 (some a0) _ _ _ _ S (lv_sub hl [] rfl) w
def qw_X12_lengthOn (a0 : Nat) (xp1 : Int32) (xp2 : Int32) (h : ql_H) (Q : Int32 → ql_H → Prop) : Prop :=
ql_rv h (some a0) 13 fun b1 => qw_X12_isBlank b1 xp1 xp2 h (fun x1 h =>
if x1 = 0 then (ql_rv h (some a0) 13 fun b3 => qw_X12_placeOf b3 xp1 h (fun x3 h =>
ql_rv h (some a0) 13 fun b5 => qw_X12_placeOf b5 xp1 h (fun x5 h =>
ql_rv h (some a0) 13 fun b7 => qw_X12_versionOn b7 x5 xp2 h (fun x7 h =>
ql_rv h (some a0) 13 fun b9 => qw_X12_of b9 x3 (x7 + (1 : Int32)) h (fun x9 h =>
Q x9 h))))) else (Q (0 : Int32) h))
set_option maxHeartbeats 4000000 in
set_option maxRecDepth 100000 in
theorem qm_X12_lengthOn (l : Launch) (hl9 : l.stackTraces = false) (D : ql_D) (h0 : ql_H) (a0 : Nat) (xp1 : Int32) (xp2 : Int32) (Q : Int32 → ql_H → Prop) (X : String → ql_H → Prop) (w : qw_X12_lengthOn a0 xp1 xp2 h0 Q) : ql_M D l yX12_lengthOn cX12_lengthOn 3 (some .int) ({ frames := 8, cells := 0, slots := 0, locals := 140 } : Room) h0 [.ref a0, .int xp1, .int xp2] (ql_rI Q) X 0 0 := by
  refine ql_ofW (by decide) (Nat.le_of_ble_eq_true rfl) ?_
  intro p e s m below meth c ls C hr hlocks hnm htab S hl
  have hl : lv_has ls 3 [(0, .ref a0), (1, .int xp1), (2, .int xp2)] := hl
  unfold qw_X12_lengthOn at w
  refine ql_aload_n (r := (some a0)) C dX12_lengthOn_0 rfl (lv_at hl 0 rfl) ?_
  refine lv_iload_n C.1.1 C.1.2.1 dX12_lengthOn_1 rfl (lv_at hl 1 rfl) ?_
  refine lv_iload_n C.1.1 C.1.2.1 dX12_lengthOn_2 rfl (lv_at hl 2 rfl) ?_
  refine ql_VI (As := [.int xp1, .int xp2]) (rest := []) C S htab hlocks hl qy_X12_isBlank qi_X12_isBlank qs_X12_isBlank gw_1927 (ci := 13) rfl w (fun b w => qm_X12_isBlank l hl9 D _ b xp1 xp2 _ _ w) rfl ⟨Nat.le_of_ble_eq_true rfl, Nat.le_of_ble_eq_true rfl⟩ ⟨rfl, rfl⟩ (by exact Nat.le_of_ble_eq_true rfl) (fun b e9 => by cases e9; rfl) dX12_lengthOn_3 ⟨Nat.le_of_ble_eq_true rfl, Nat.le_of_ble_eq_true rfl⟩ ⟨Nat.le_of_ble_eq_true rfl, Nat.le_of_ble_eq_true rfl⟩ (fun x1 h H locs S w => ?_)
  refine W.cs (cells' := 0) (slots' := 0) rfl rfl ?_
  refine lv_if_eq (tgt := 13) C.1.1 C.1.2.1 dX12_lengthOn_6 (by decide) (fun c9 => ?_) (fun c9 => ?_)
  · replace w := ql_if w c9
    refine ql_aload_n (r := (some a0)) C dX12_lengthOn_13 rfl (lv_at hl 0 rfl) ?_
    refine ql_aload_n (r := (some a0)) C dX12_lengthOn_14 rfl (lv_at hl 0 rfl) ?_
    refine lv_iload_n C.1.1 C.1.2.1 dX12_lengthOn_15 rfl (lv_at hl 1 rfl) ?_
    refine ql_VI (As := [.int xp1]) (rest := [.ref a0]) C S htab hlocks hl qy_X12_placeOf qi_X12_placeOf qs_X12_placeOf gw_1772 (ci := 13) rfl w (fun b w => qm_X12_placeOf l hl9 D _ b xp1 _ _ w) rfl ⟨Nat.le_of_ble_eq_true rfl, Nat.le_of_ble_eq_true rfl⟩ ⟨rfl, rfl⟩ (by exact Nat.le_of_ble_eq_true rfl) (fun b e9 => by cases e9; rfl) dX12_lengthOn_16 ⟨Nat.le_of_ble_eq_true rfl, Nat.le_of_ble_eq_true rfl⟩ ⟨Nat.le_of_ble_eq_true rfl, Nat.le_of_ble_eq_true rfl⟩ (fun x3 h H locs S w => ?_)
    refine W.cs (cells' := 0) (slots' := 0) rfl rfl ?_
    refine ql_aload_n (r := (some a0)) C dX12_lengthOn_19 rfl (lv_at hl 0 rfl) ?_
    refine ql_aload_n (r := (some a0)) C dX12_lengthOn_20 rfl (lv_at hl 0 rfl) ?_
    refine lv_iload_n C.1.1 C.1.2.1 dX12_lengthOn_21 rfl (lv_at hl 1 rfl) ?_
    refine ql_VI (As := [.int xp1]) (rest := [.ref a0, .int x3, .ref a0]) C S htab hlocks hl qy_X12_placeOf qi_X12_placeOf qs_X12_placeOf gw_1772 (ci := 13) rfl w (fun b w => qm_X12_placeOf l hl9 D _ b xp1 _ _ w) rfl ⟨Nat.le_of_ble_eq_true rfl, Nat.le_of_ble_eq_true rfl⟩ ⟨rfl, rfl⟩ (by exact Nat.le_of_ble_eq_true rfl) (fun b e9 => by cases e9; rfl) dX12_lengthOn_22 ⟨Nat.le_of_ble_eq_true rfl, Nat.le_of_ble_eq_true rfl⟩ ⟨Nat.le_of_ble_eq_true rfl, Nat.le_of_ble_eq_true rfl⟩ (fun x5 h H locs S w => ?_)
    refine W.cs (cells' := 0) (slots' := 0) rfl rfl ?_
    refine lv_iload_n C.1.1 C.1.2.1 dX12_lengthOn_25 rfl (lv_at hl 2 rfl) ?_
    refine ql_VI (As := [.int x5, .int xp2]) (rest := [.int x3, .ref a0]) C S htab hlocks hl qy_X12_versionOn qi_X12_versionOn qs_X12_versionOn gw_1931 (ci := 13) rfl w (fun b w => qm_X12_versionOn l hl9 D _ b x5 xp2 _ _ w) rfl ⟨Nat.le_of_ble_eq_true rfl, Nat.le_of_ble_eq_true rfl⟩ ⟨rfl, rfl⟩ (by exact Nat.le_of_ble_eq_true rfl) (fun b e9 => by cases e9; rfl) dX12_lengthOn_26 ⟨Nat.le_of_ble_eq_true rfl, Nat.le_of_ble_eq_true rfl⟩ ⟨Nat.le_of_ble_eq_true rfl, Nat.le_of_ble_eq_true rfl⟩ (fun x7 h H locs S w => ?_)
    refine W.cs (cells' := 0) (slots' := 0) rfl rfl ?_
    refine lv_iconst (v := (1 : Int32)) C.1.1 C.1.2.1 dX12_lengthOn_29 (by decide) ?_
    refine lv_iadd C.1.1 C.1.2.1 dX12_lengthOn_30 ?_
    refine ql_VI (As := [.int x3, .int (x7 + (1 : Int32))]) (rest := []) C S htab hlocks hl qy_X12_of qi_X12_of qs_X12_of gw_1745 (ci := 13) rfl w (fun b w => qm_X12_of l hl9 D _ b x3 (x7 + (1 : Int32)) _ _ w) rfl ⟨Nat.le_of_ble_eq_true rfl, Nat.le_of_ble_eq_true rfl⟩ ⟨rfl, rfl⟩ (by exact Nat.le_of_ble_eq_true rfl) (fun b e9 => by cases e9; rfl) dX12_lengthOn_31 ⟨Nat.le_of_ble_eq_true rfl, Nat.le_of_ble_eq_true rfl⟩ ⟨Nat.le_of_ble_eq_true rfl, Nat.le_of_ble_eq_true rfl⟩ (fun x9 h H locs S w => ?_)
    refine W.cs (cells' := 0) (slots' := 0) rfl rfl ?_
    exact ql_iret C S hr hlocks dX12_lengthOn_34 ⟨Nat.le_of_ble_eq_true rfl, Nat.le_of_ble_eq_true rfl⟩ w
  · replace w := ql_ifn w c9
    refine lv_iconst (v := (0 : Int32)) C.1.1 C.1.2.1 dX12_lengthOn_9 (by decide) ?_
    refine lv_goto (tgt := 34) C.1.1 C.1.2.1 dX12_lengthOn_10 (by decide) ?_
    exact ql_iret C S hr hlocks dX12_lengthOn_34 ⟨Nat.le_of_ble_eq_true rfl, Nat.le_of_ble_eq_true rfl⟩ w
def qw_X12_noteOn_54 (a0 : Nat) (Q : Int32 → ql_H → Prop) (xl3 : Int32) (xl4 : Int32) (xl5 : Int32) (rs0 : Option Nat) (xs1 : Int32) (h : ql_H) : Prop :=
ql_rv h rs0 13 fun b1 => qw_X12_fails b1 xs1 h (fun x1 h =>
if x1 = 0 then (ql_rv h (some a0) 13 fun b3 => qw_X12_note b3 xl4 xl5 xl3 h (fun x3 h =>
ql_nz .char (x3.toUInt32 % 65536).toInt32 ∧ Q (x3.toUInt32 % 65536).toInt32 h)) else (ql_nz .char (32 : Int32) ∧ Q (32 : Int32) h))
def qw_X12_noteOn (a0 : Nat) (xp1 : Int32) (xp2 : Int32) (xp3 : Int32) (h : ql_H) (Q : Int32 → ql_H → Prop) : Prop :=
ql_rv h (some a0) 13 fun b5 => qw_X12_isBlank b5 xp1 xp2 h (fun x5 h =>
if x5 = 0 then (ql_rv h (some a0) 13 fun b7 => qw_X12_placeOf b7 xp1 h (fun x7 h =>
ql_rv h (some a0) 13 fun b9 => qw_X12_versionOn b9 x7 xp2 h (fun x9 h =>
ql_rv h (some a0) 13 fun b11 => qw_X12_of b11 x7 (x9 + (1 : Int32)) h (fun x11 h =>
qw_X12_in xp3 (0 : Int32) (x11 - (1 : Int32)) h (fun x13 h =>
if x13 = 0 then (qw_X12_noteOn_54 a0 Q xp3 x7 x9 (some a0) (2 : Int32) h) else (qw_X12_noteOn_54 a0 Q xp3 x7 x9 (some a0) (0 : Int32) h)))))) else (ql_nz .char (32 : Int32) ∧ Q (32 : Int32) h))
set_option maxHeartbeats 4000000 in
set_option maxRecDepth 100000 in
theorem qm_X12_noteOn (l : Launch) (hl9 : l.stackTraces = false) (D : ql_D) (h0 : ql_H) (a0 : Nat) (xp1 : Int32) (xp2 : Int32) (xp3 : Int32) (Q : Int32 → ql_H → Prop) (X : String → ql_H → Prop) (w : qw_X12_noteOn a0 xp1 xp2 xp3 h0 Q) : ql_M D l yX12_noteOn cX12_noteOn 6 (some .char) ({ frames := 8, cells := 0, slots := 0, locals := 140 } : Room) h0 [.ref a0, .int xp1, .int xp2, .int xp3] (ql_rI Q) X 0 0 := by
  refine ql_ofW (by decide) (Nat.le_of_ble_eq_true rfl) ?_
  intro p e s m below meth c ls C hr hlocks hnm htab S hl
  have hl : lv_has ls 6 [(0, .ref a0), (1, .int xp1), (2, .int xp2), (3, .int xp3)] := hl
  have hB54 : ∀ (xl3 : Int32) (xl4 : Int32) (xl5 : Int32) (rs0 : Option Nat) (xs1 : Int32) (h : ql_H) (H : Heap) (locs : List Loc) (ls : Array Slot), ql_S D h0 s H locs h → lv_has ls 6 [(0, .ref a0), (3, .int xl3), (4, .int xl4), (5, .int xl5)] → qw_X12_noteOn_54 a0 Q xl3 xl4 xl5 rs0 xs1 h → W p l e ({ frames := 8, cells := 0, slots := 0, locals := 140 } : Room) s m ([.ref a0, .int xp1, .int xp2, .int xp3] : List Value).toArray below meth c H locs 0 0 (vx_MQ below (ql_Q D h0 (ql_rI Q)) (ql_X D h0 X) ([.ref a0, .int xp1, .int xp2, .int xp3] : List Value).toArray s 0 0 (ql_A h0)) (F0 m 54 ls [.int xs1, va_rf rs0]) := by
    intro xl3 xl4 xl5 rs0 xs1 h H locs ls S hl w
    unfold qw_X12_noteOn_54 at w
    refine ql_VI (As := [.int xs1]) (rest := []) C S htab hlocks hl qy_X12_fails qi_X12_fails qs_X12_fails gw_1749 (ci := 13) rfl w (fun b w => qm_X12_fails l hl9 D _ b xs1 _ _ w) rfl ⟨Nat.le_of_ble_eq_true rfl, Nat.le_of_ble_eq_true rfl⟩ ⟨rfl, rfl⟩ (by exact Nat.le_of_ble_eq_true rfl) (fun b e9 => by cases e9; rfl) dX12_noteOn_54 ⟨Nat.le_of_ble_eq_true rfl, Nat.le_of_ble_eq_true rfl⟩ ⟨Nat.le_of_ble_eq_true rfl, Nat.le_of_ble_eq_true rfl⟩ (fun x1 h H locs S w => ?_)
    refine W.cs (cells' := 0) (slots' := 0) rfl rfl ?_
    refine lv_if_eq (tgt := 65) C.1.1 C.1.2.1 dX12_noteOn_57 (by decide) (fun c9 => ?_) (fun c9 => ?_)
    · replace w := ql_if w c9
      refine ql_aload_n (r := (some a0)) C dX12_noteOn_65 rfl (lv_at hl 0 rfl) ?_
      refine lv_iload C.1.1 C.1.2.1 dX12_noteOn_66 (lv_at hl 2 rfl) ?_
      refine lv_iload C.1.1 C.1.2.1 dX12_noteOn_68 (lv_at hl 3 rfl) ?_
      refine lv_iload_n C.1.1 C.1.2.1 dX12_noteOn_70 rfl (lv_at hl 1 rfl) ?_
      refine ql_VI (As := [.int xl4, .int xl5, .int xl3]) (rest := []) C S htab hlocks hl qy_X12_note qi_X12_note qs_X12_note gw_1796 (ci := 13) rfl w (fun b w => qm_X12_note l hl9 D _ b xl4 xl5 xl3 _ _ w) rfl ⟨Nat.le_of_ble_eq_true rfl, Nat.le_of_ble_eq_true rfl⟩ ⟨rfl, rfl⟩ (by exact Nat.le_of_ble_eq_true rfl) (fun b e9 => by cases e9; rfl) dX12_noteOn_71 ⟨Nat.le_of_ble_eq_true rfl, Nat.le_of_ble_eq_true rfl⟩ ⟨Nat.le_of_ble_eq_true rfl, Nat.le_of_ble_eq_true rfl⟩ (fun x3 h H locs S w => ?_)
      refine W.cs (cells' := 0) (slots' := 0) rfl rfl ?_
      refine lv_i2c C.1.1 C.1.2.1 dX12_noteOn_74 rfl ?_
      exact ql_zret C S hr hlocks dX12_noteOn_75 ⟨Nat.le_of_ble_eq_true rfl, Nat.le_of_ble_eq_true rfl⟩ w
    · replace w := ql_ifn w c9
      refine lv_bipush (v := (32 : Int32)) C.1.1 C.1.2.1 dX12_noteOn_60 (by decide) ?_
      refine lv_goto (tgt := 75) C.1.1 C.1.2.1 dX12_noteOn_62 (by decide) ?_
      exact ql_zret C S hr hlocks dX12_noteOn_75 ⟨Nat.le_of_ble_eq_true rfl, Nat.le_of_ble_eq_true rfl⟩ w
  unfold qw_X12_noteOn at w
  refine ql_aload_n (r := (some a0)) C dX12_noteOn_0 rfl (lv_at hl 0 rfl) ?_
  refine lv_iload_n C.1.1 C.1.2.1 dX12_noteOn_1 rfl (lv_at hl 1 rfl) ?_
  refine lv_iload_n C.1.1 C.1.2.1 dX12_noteOn_2 rfl (lv_at hl 2 rfl) ?_
  refine ql_VI (As := [.int xp1, .int xp2]) (rest := []) C S htab hlocks hl qy_X12_isBlank qi_X12_isBlank qs_X12_isBlank gw_1927 (ci := 13) rfl w (fun b w => qm_X12_isBlank l hl9 D _ b xp1 xp2 _ _ w) rfl ⟨Nat.le_of_ble_eq_true rfl, Nat.le_of_ble_eq_true rfl⟩ ⟨rfl, rfl⟩ (by exact Nat.le_of_ble_eq_true rfl) (fun b e9 => by cases e9; rfl) dX12_noteOn_3 ⟨Nat.le_of_ble_eq_true rfl, Nat.le_of_ble_eq_true rfl⟩ ⟨Nat.le_of_ble_eq_true rfl, Nat.le_of_ble_eq_true rfl⟩ (fun x5 h H locs S w => ?_)
  refine W.cs (cells' := 0) (slots' := 0) rfl rfl ?_
  refine lv_if_eq (tgt := 12) C.1.1 C.1.2.1 dX12_noteOn_6 (by decide) (fun c9 => ?_) (fun c9 => ?_)
  · replace w := ql_if w c9
    refine ql_aload_n (r := (some a0)) C dX12_noteOn_12 rfl (lv_at hl 0 rfl) ?_
    refine lv_iload_n C.1.1 C.1.2.1 dX12_noteOn_13 rfl (lv_at hl 1 rfl) ?_
    refine ql_VI (As := [.int xp1]) (rest := []) C S htab hlocks hl qy_X12_placeOf qi_X12_placeOf qs_X12_placeOf gw_1772 (ci := 13) rfl w (fun b w => qm_X12_placeOf l hl9 D _ b xp1 _ _ w) rfl ⟨Nat.le_of_ble_eq_true rfl, Nat.le_of_ble_eq_true rfl⟩ ⟨rfl, rfl⟩ (by exact Nat.le_of_ble_eq_true rfl) (fun b e9 => by cases e9; rfl) dX12_noteOn_14 ⟨Nat.le_of_ble_eq_true rfl, Nat.le_of_ble_eq_true rfl⟩ ⟨Nat.le_of_ble_eq_true rfl, Nat.le_of_ble_eq_true rfl⟩ (fun x7 h H locs S w => ?_)
    refine W.cs (cells' := 0) (slots' := 0) rfl rfl ?_
    refine lv_istore (lv' := [(4, .int x7), (0, .ref a0), (1, .int xp1), (2, .int xp2), (3, .int xp3)]) C.1.1 C.1.2.1 dX12_noteOn_17 hl (by decide) rfl (fun ls hl => ?_)
    refine ql_aload_n (r := (some a0)) C dX12_noteOn_19 rfl (lv_at hl 1 rfl) ?_
    refine lv_iload C.1.1 C.1.2.1 dX12_noteOn_20 (lv_at hl 0 rfl) ?_
    refine lv_iload_n C.1.1 C.1.2.1 dX12_noteOn_22 rfl (lv_at hl 3 rfl) ?_
    refine ql_VI (As := [.int x7, .int xp2]) (rest := []) C S htab hlocks hl qy_X12_versionOn qi_X12_versionOn qs_X12_versionOn gw_1931 (ci := 13) rfl w (fun b w => qm_X12_versionOn l hl9 D _ b x7 xp2 _ _ w) rfl ⟨Nat.le_of_ble_eq_true rfl, Nat.le_of_ble_eq_true rfl⟩ ⟨rfl, rfl⟩ (by exact Nat.le_of_ble_eq_true rfl) (fun b e9 => by cases e9; rfl) dX12_noteOn_23 ⟨Nat.le_of_ble_eq_true rfl, Nat.le_of_ble_eq_true rfl⟩ ⟨Nat.le_of_ble_eq_true rfl, Nat.le_of_ble_eq_true rfl⟩ (fun x9 h H locs S w => ?_)
    refine W.cs (cells' := 0) (slots' := 0) rfl rfl ?_
    refine lv_istore (lv' := [(5, .int x9), (4, .int x7), (0, .ref a0), (1, .int xp1), (2, .int xp2), (3, .int xp3)]) C.1.1 C.1.2.1 dX12_noteOn_26 hl (by decide) rfl (fun ls hl => ?_)
    refine ql_aload_n (r := (some a0)) C dX12_noteOn_28 rfl (lv_at hl 2 rfl) ?_
    refine lv_iload_n C.1.1 C.1.2.1 dX12_noteOn_29 rfl (lv_at hl 5 rfl) ?_
    refine lv_iconst (v := (0 : Int32)) C.1.1 C.1.2.1 dX12_noteOn_30 (by decide) ?_
    refine ql_aload_n (r := (some a0)) C dX12_noteOn_31 rfl (lv_at hl 2 rfl) ?_
    refine lv_iload C.1.1 C.1.2.1 dX12_noteOn_32 (lv_at hl 1 rfl) ?_
    refine lv_iload C.1.1 C.1.2.1 dX12_noteOn_34 (lv_at hl 0 rfl) ?_
    refine lv_iconst (v := (1 : Int32)) C.1.1 C.1.2.1 dX12_noteOn_36 (by decide) ?_
    refine lv_iadd C.1.1 C.1.2.1 dX12_noteOn_37 ?_
    refine ql_VI (As := [.int x7, .int (x9 + (1 : Int32))]) (rest := [.int (0 : Int32), .int xp3, .ref a0]) C S htab hlocks hl qy_X12_of qi_X12_of qs_X12_of gw_1745 (ci := 13) rfl w (fun b w => qm_X12_of l hl9 D _ b x7 (x9 + (1 : Int32)) _ _ w) rfl ⟨Nat.le_of_ble_eq_true rfl, Nat.le_of_ble_eq_true rfl⟩ ⟨rfl, rfl⟩ (by exact Nat.le_of_ble_eq_true rfl) (fun b e9 => by cases e9; rfl) dX12_noteOn_38 ⟨Nat.le_of_ble_eq_true rfl, Nat.le_of_ble_eq_true rfl⟩ ⟨Nat.le_of_ble_eq_true rfl, Nat.le_of_ble_eq_true rfl⟩ (fun x11 h H locs S w => ?_)
    refine W.cs (cells' := 0) (slots' := 0) rfl rfl ?_
    refine lv_iconst (v := (1 : Int32)) C.1.1 C.1.2.1 dX12_noteOn_41 (by decide) ?_
    refine lv_isub C.1.1 C.1.2.1 dX12_noteOn_42 ?_
    refine ql_SI (As := [.int xp3, .int (0 : Int32), .int (x11 - (1 : Int32))]) (rest := [.ref a0]) C S htab hlocks hl qy_X12_in qi_X12_in gw_1735 (qm_X12_in l hl9 D _ xp3 (0 : Int32) (x11 - (1 : Int32)) _ _ w) rfl ⟨Nat.le_of_ble_eq_true rfl, Nat.le_of_ble_eq_true rfl⟩ ⟨rfl, rfl⟩ (by exact Nat.le_of_ble_eq_true rfl) rfl dX12_noteOn_43 ⟨Nat.le_of_ble_eq_true rfl, Nat.le_of_ble_eq_true rfl⟩ ⟨Nat.le_of_ble_eq_true rfl, Nat.le_of_ble_eq_true rfl⟩ (fun x13 h H locs S w => ?_)
    refine W.cs (cells' := 0) (slots' := 0) rfl rfl ?_
    refine lv_if_eq (tgt := 53) C.1.1 C.1.2.1 dX12_noteOn_46 (by decide) (fun c9 => ?_) (fun c9 => ?_)
    · replace w := ql_if w c9
      refine lv_iconst (v := (2 : Int32)) C.1.1 C.1.2.1 dX12_noteOn_53 (by decide) ?_
      exact hB54 xp3 x7 x9 (some a0) (2 : Int32) _ _ _ _ S (lv_sub hl [2, 5, 1, 0] rfl) w
    · replace w := ql_ifn w c9
      refine lv_iconst (v := (0 : Int32)) C.1.1 C.1.2.1 dX12_noteOn_49 (by decide) ?_
      refine lv_goto (tgt := 54) C.1.1 C.1.2.1 dX12_noteOn_50 (by decide) ?_
      exact hB54 xp3 x7 x9 (some a0) (0 : Int32) _ _ _ _ S (lv_sub hl [2, 5, 1, 0] rfl) w
  · replace w := ql_ifn w c9
    refine lv_bipush (v := (32 : Int32)) C.1.1 C.1.2.1 dX12_noteOn_9 (by decide) ?_
    exact ql_zret C S hr hlocks dX12_noteOn_11 ⟨Nat.le_of_ble_eq_true rfl, Nat.le_of_ble_eq_true rfl⟩ w
def qw_X12_apart_169 (a0 : Nat) (Q : Int32 → ql_H → Prop) (k93 : Int32 → Int32 → Int32 → Int32 → Int32 → Int32 → ql_H → Prop) (xl4 : Int32) (xl5 : Int32) (xl6 : Int32) (xl7 : Int32) (xl9 : Int32) (xl10 : Int32) (rs0 : Option Nat) (xs1 : Int32) (xs2 : Int32) (h : ql_H) : Prop :=
ql_sI h rs0 0 xs1 xs2 fun h =>
k93 xl4 xl5 xl6 xl7 xl10 (xl9 + (1 : Int32)) h
def qw_X12_apart_93 (a0 : Nat) (Q : Int32 → ql_H → Prop) (k72 : Int32 → Int32 → Int32 → Int32 → ql_H → Prop) : Nat → Int32 → Int32 → Int32 → Int32 → Int32 → Int32 → ql_H → Prop
  | 0, _, _, _, _, _, _, _ => False
  | n + 1, xl4, xl5, xl6, xl7, xl8, xl9, h =>
    ql_rv h (some a0) 13 fun b1 => qw_X12_of b1 xl4 (xl6 + (1 : Int32)) h (fun x1 h =>
    if x1 ≤ xl9 then (k72 xl4 xl5 xl6 (xl7 + (1 : Int32)) h) else (ql_gR h (some a0) 13 15 fun r3 =>
    ql_lI h r3 0 (xl9 + (1 : Int32)) fun x4 =>
    ql_gR h (some a0) 13 15 fun r5 =>
    ql_rv h (some a0) 13 fun b6 => qw_X12_note b6 xl4 xl5 xl7 h (fun x6 h =>
    ql_rv h (some a0) 13 fun b8 => qw_X12_note b8 xl4 xl6 xl9 h (fun x8 h =>
    if x6 = x8 then (qw_X12_apart_169 a0 Q (qw_X12_apart_93 a0 Q k72 n) xl4 xl5 xl6 xl7 xl9 x4 r5 (xl9 + (1 : Int32)) (xl8 + (1 : Int32)) h) else (ql_gR h (some a0) 13 15 fun r10 =>
    ql_lI h r10 0 xl9 fun x11 =>
    qw_X12_most x4 x11 h (fun x12 h =>
    qw_X12_apart_169 a0 Q (qw_X12_apart_93 a0 Q k72 n) xl4 xl5 xl6 xl7 xl9 x4 r5 (xl9 + (1 : Int32)) x12 h))))))
def qw_X12_apart_72 (a0 : Nat) (Q : Int32 → ql_H → Prop) : Nat → Int32 → Int32 → Int32 → Int32 → ql_H → Prop
  | 0, _, _, _, _, _ => False
  | n + 1, xl4, xl5, xl6, xl7, h =>
    ql_rv h (some a0) 13 fun b13 => qw_X12_of b13 xl4 (xl5 + (1 : Int32)) h (fun x13 h =>
    if x13 ≤ xl7 then (ql_rv h (some a0) 13 fun b15 => qw_X12_of b15 xl4 (xl5 + (1 : Int32)) h (fun x15 h =>
    ql_rv h (some a0) 13 fun b17 => qw_X12_of b17 xl4 (xl6 + (1 : Int32)) h (fun x17 h =>
    ql_gR h (some a0) 13 15 fun r19 =>
    ql_rv h (some a0) 13 fun b20 => qw_X12_of b20 xl4 (xl6 + (1 : Int32)) h (fun x20 h =>
    ql_lI h r19 0 x20 fun x22 =>
    Q ((x15 + x17) - ((2 : Int32) * x22)) h)))) else (qw_X12_apart_93 a0 Q (qw_X12_apart_72 a0 Q n) ql_FU xl4 xl5 xl6 xl7 (0 : Int32) (0 : Int32) h))
def qw_X12_apart_48 (a0 : Nat) (Q : Int32 → ql_H → Prop) : Nat → Int32 → Int32 → Int32 → Int32 → ql_H → Prop
  | 0, _, _, _, _, _ => False
  | n + 1, xl4, xl5, xl6, xl7, h =>
    if (13 : Int32) ≤ xl7 then (qw_X12_apart_72 a0 Q ql_FU xl4 xl5 xl6 (0 : Int32) h) else (ql_gR h (some a0) 13 15 fun r23 =>
    ql_sI h r23 0 xl7 (0 : Int32) fun h =>
    qw_X12_apart_48 a0 Q n xl4 xl5 xl6 (xl7 + (1 : Int32)) h)
def qw_X12_apart (a0 : Nat) (xp1 : Int32) (xp2 : Int32) (xp3 : Int32) (h : ql_H) (Q : Int32 → ql_H → Prop) : Prop :=
ql_rv h (some a0) 13 fun b24 => qw_X12_isBlank b24 xp1 xp2 h (fun x24 h =>
if x24 = 0 then (ql_rv h (some a0) 13 fun b26 => qw_X12_isBlank b26 xp1 xp3 h (fun x26 h =>
if x26 = 0 then (ql_rv h (some a0) 13 fun b28 => qw_X12_placeOf b28 xp1 h (fun x28 h =>
ql_rv h (some a0) 13 fun b30 => qw_X12_versionOn b30 x28 xp2 h (fun x30 h =>
ql_rv h (some a0) 13 fun b32 => qw_X12_versionOn b32 x28 xp3 h (fun x32 h =>
qw_X12_apart_48 a0 Q ql_FU x28 x30 x32 (0 : Int32) h)))) else (Q (0 : Int32) h))) else (Q (0 : Int32) h))
set_option maxHeartbeats 4000000 in
set_option maxRecDepth 100000 in
theorem qm_X12_apart (l : Launch) (hl9 : l.stackTraces = false) (D : ql_D) (h0 : ql_H) (a0 : Nat) (xp1 : Int32) (xp2 : Int32) (xp3 : Int32) (Q : Int32 → ql_H → Prop) (X : String → ql_H → Prop) (w : qw_X12_apart a0 xp1 xp2 xp3 h0 Q) : ql_M D l yX12_apart cX12_apart 11 (some .int) ({ frames := 8, cells := 0, slots := 0, locals := 140 } : Room) h0 [.ref a0, .int xp1, .int xp2, .int xp3] (ql_rI Q) X 0 0 := by
  refine ql_ofW (by decide) (Nat.le_of_ble_eq_true rfl) ?_
  intro p e s m below meth c ls C hr hlocks hnm htab S hl
  have hl : lv_has ls 11 [(0, .ref a0), (1, .int xp1), (2, .int xp2), (3, .int xp3)] := hl
  have hB169 : ∀ (k93 : Int32 → Int32 → Int32 → Int32 → Int32 → Int32 → ql_H → Prop) (hk93 : ∀ (xl4 : Int32) (xl5 : Int32) (xl6 : Int32) (xl7 : Int32) (xl8 : Int32) (xl9 : Int32) (h : ql_H) (H : Heap) (locs : List Loc) (ls : Array Slot), ql_S D h0 s H locs h → lv_has ls 11 [(0, .ref a0), (4, .int xl4), (5, .int xl5), (6, .int xl6), (7, .int xl7), (8, .int xl8), (9, .int xl9)] → k93 xl4 xl5 xl6 xl7 xl8 xl9 h → W p l e ({ frames := 8, cells := 0, slots := 0, locals := 140 } : Room) s m ([.ref a0, .int xp1, .int xp2, .int xp3] : List Value).toArray below meth c H locs 0 0 (vx_MQ below (ql_Q D h0 (ql_rI Q)) (ql_X D h0 X) ([.ref a0, .int xp1, .int xp2, .int xp3] : List Value).toArray s 0 0 (ql_A h0)) (F0 m 93 ls [])) , ∀ (xl4 : Int32) (xl5 : Int32) (xl6 : Int32) (xl7 : Int32) (xl9 : Int32) (xl10 : Int32) (rs0 : Option Nat) (xs1 : Int32) (xs2 : Int32) (h : ql_H) (H : Heap) (locs : List Loc) (ls : Array Slot), ql_S D h0 s H locs h → lv_has ls 11 [(0, .ref a0), (4, .int xl4), (5, .int xl5), (6, .int xl6), (7, .int xl7), (9, .int xl9), (10, .int xl10)] → qw_X12_apart_169 a0 Q k93 xl4 xl5 xl6 xl7 xl9 xl10 rs0 xs1 xs2 h → W p l e ({ frames := 8, cells := 0, slots := 0, locals := 140 } : Room) s m ([.ref a0, .int xp1, .int xp2, .int xp3] : List Value).toArray below meth c H locs 0 0 (vx_MQ below (ql_Q D h0 (ql_rI Q)) (ql_X D h0 X) ([.ref a0, .int xp1, .int xp2, .int xp3] : List Value).toArray s 0 0 (ql_A h0)) (F0 m 169 ls [.int xs2, .int xs1, va_rf rs0]) := by
    intro k93 hk93 xl4 xl5 xl6 xl7 xl9 xl10 rs0 xs1 xs2 h H locs ls S hl w
    unfold qw_X12_apart_169 at w
    refine ql_iast C S dX12_apart_169 w (fun h H locs S w => ?_)
    refine lv_iload C.1.1 C.1.2.1 dX12_apart_170 (lv_at hl 6 rfl) ?_
    refine lv_istore (lv' := [(8, .int xl10), (0, .ref a0), (4, .int xl4), (5, .int xl5), (6, .int xl6), (7, .int xl7), (9, .int xl9), (10, .int xl10)]) C.1.1 C.1.2.1 dX12_apart_172 hl (by decide) rfl (fun ls hl => ?_)
    refine lv_iinc (v := (xl9 + (1 : Int32))) (lv' := [(9, .int (xl9 + (1 : Int32))), (8, .int xl10), (0, .ref a0), (4, .int xl4), (5, .int xl5), (6, .int xl6), (7, .int xl7), (10, .int xl10)]) C.1.1 C.1.2.1 dX12_apart_174 hl (k := 6) rfl rfl (by decide) rfl (fun ls hl => ?_)
    refine lv_goto (tgt := 93) C.1.1 C.1.2.1 dX12_apart_177 (by decide) ?_
    exact hk93 xl4 xl5 xl6 xl7 xl10 (xl9 + (1 : Int32)) _ _ _ _ S (lv_sub hl [2, 3, 4, 5, 6, 1, 0] rfl) w
  have hB93 : ∀ (k72 : Int32 → Int32 → Int32 → Int32 → ql_H → Prop) (hk72 : ∀ (xl4 : Int32) (xl5 : Int32) (xl6 : Int32) (xl7 : Int32) (h : ql_H) (H : Heap) (locs : List Loc) (ls : Array Slot), ql_S D h0 s H locs h → lv_has ls 11 [(0, .ref a0), (4, .int xl4), (5, .int xl5), (6, .int xl6), (7, .int xl7)] → k72 xl4 xl5 xl6 xl7 h → W p l e ({ frames := 8, cells := 0, slots := 0, locals := 140 } : Room) s m ([.ref a0, .int xp1, .int xp2, .int xp3] : List Value).toArray below meth c H locs 0 0 (vx_MQ below (ql_Q D h0 (ql_rI Q)) (ql_X D h0 X) ([.ref a0, .int xp1, .int xp2, .int xp3] : List Value).toArray s 0 0 (ql_A h0)) (F0 m 72 ls [])) , ∀ n : Nat, ∀ (xl4 : Int32) (xl5 : Int32) (xl6 : Int32) (xl7 : Int32) (xl8 : Int32) (xl9 : Int32) (h : ql_H) (H : Heap) (locs : List Loc) (ls : Array Slot), ql_S D h0 s H locs h → lv_has ls 11 [(0, .ref a0), (4, .int xl4), (5, .int xl5), (6, .int xl6), (7, .int xl7), (8, .int xl8), (9, .int xl9)] → qw_X12_apart_93 a0 Q k72 n xl4 xl5 xl6 xl7 xl8 xl9 h → W p l e ({ frames := 8, cells := 0, slots := 0, locals := 140 } : Room) s m ([.ref a0, .int xp1, .int xp2, .int xp3] : List Value).toArray below meth c H locs 0 0 (vx_MQ below (ql_Q D h0 (ql_rI Q)) (ql_X D h0 X) ([.ref a0, .int xp1, .int xp2, .int xp3] : List Value).toArray s 0 0 (ql_A h0)) (F0 m 93 ls []) := by
    intro k72 hk72 n
    induction n with
    | zero => intro xl4 xl5 xl6 xl7 xl8 xl9 h H locs ls S hl w; rw [qw_X12_apart_93] at w; exact w.elim
    | succ n ih =>
      intro xl4 xl5 xl6 xl7 xl8 xl9 h H locs ls S hl w
      rw [qw_X12_apart_93] at w
      refine lv_iload C.1.1 C.1.2.1 dX12_apart_93 (lv_at hl 6 rfl) ?_
      refine ql_aload_n (r := (some a0)) C dX12_apart_95 rfl (lv_at hl 0 rfl) ?_
      refine lv_iload C.1.1 C.1.2.1 dX12_apart_96 (lv_at hl 1 rfl) ?_
      refine lv_iload C.1.1 C.1.2.1 dX12_apart_98 (lv_at hl 3 rfl) ?_
      refine lv_iconst (v := (1 : Int32)) C.1.1 C.1.2.1 dX12_apart_100 (by decide) ?_
      refine lv_iadd C.1.1 C.1.2.1 dX12_apart_101 ?_
      refine ql_VI (As := [.int xl4, .int (xl6 + (1 : Int32))]) (rest := [.int xl9]) C S htab hlocks hl qy_X12_of qi_X12_of qs_X12_of gw_1745 (ci := 13) rfl w (fun b w => qm_X12_of l hl9 D _ b xl4 (xl6 + (1 : Int32)) _ _ w) rfl ⟨Nat.le_of_ble_eq_true rfl, Nat.le_of_ble_eq_true rfl⟩ ⟨rfl, rfl⟩ (by exact Nat.le_of_ble_eq_true rfl) (fun b e9 => by cases e9; rfl) dX12_apart_102 ⟨Nat.le_of_ble_eq_true rfl, Nat.le_of_ble_eq_true rfl⟩ ⟨Nat.le_of_ble_eq_true rfl, Nat.le_of_ble_eq_true rfl⟩ (fun x1 h H locs S w => ?_)
      refine W.cs (cells' := 0) (slots' := 0) rfl rfl ?_
      refine lv_icmp_ge (tgt := 180) C.1.1 C.1.2.1 dX12_apart_105 (by decide) (fun c9 => ?_) (fun c9 => ?_)
      · replace w := ql_if w c9
        refine lv_iinc (v := (xl7 + (1 : Int32))) (lv' := [(7, .int (xl7 + (1 : Int32))), (0, .ref a0), (4, .int xl4), (5, .int xl5), (6, .int xl6), (8, .int xl8), (9, .int xl9)]) C.1.1 C.1.2.1 dX12_apart_180 hl (k := 4) rfl rfl (by decide) rfl (fun ls hl => ?_)
        refine lv_goto (tgt := 72) C.1.1 C.1.2.1 dX12_apart_183 (by decide) ?_
        exact hk72 xl4 xl5 xl6 (xl7 + (1 : Int32)) _ _ _ _ S (lv_sub hl [1, 2, 3, 4, 0] rfl) w
      · replace w := ql_ifn w c9
        refine ql_aload_n (r := (some a0)) C dX12_apart_108 rfl (lv_at hl 0 rfl) ?_
        refine ql_getR C S qf_13_15 gw_1683 dX12_apart_109 w (fun r3 w => ?_)
        refine lv_iload C.1.1 C.1.2.1 dX12_apart_112 (lv_at hl 6 rfl) ?_
        refine lv_iconst (v := (1 : Int32)) C.1.1 C.1.2.1 dX12_apart_114 (by decide) ?_
        refine lv_iadd C.1.1 C.1.2.1 dX12_apart_115 ?_
        refine ql_iald C S dX12_apart_116 w (fun x4 w => ?_)
        refine lv_istore (lv' := [(10, .int x4), (0, .ref a0), (4, .int xl4), (5, .int xl5), (6, .int xl6), (7, .int xl7), (8, .int xl8), (9, .int xl9)]) C.1.1 C.1.2.1 dX12_apart_117 hl (by decide) rfl (fun ls hl => ?_)
        refine ql_aload_n (r := (some a0)) C dX12_apart_119 rfl (lv_at hl 1 rfl) ?_
        refine ql_getR C S qf_13_15 gw_1683 dX12_apart_120 w (fun r5 w => ?_)
        refine lv_iload C.1.1 C.1.2.1 dX12_apart_123 (lv_at hl 7 rfl) ?_
        refine lv_iconst (v := (1 : Int32)) C.1.1 C.1.2.1 dX12_apart_125 (by decide) ?_
        refine lv_iadd C.1.1 C.1.2.1 dX12_apart_126 ?_
        refine ql_aload_n (r := (some a0)) C dX12_apart_127 rfl (lv_at hl 1 rfl) ?_
        refine lv_iload C.1.1 C.1.2.1 dX12_apart_128 (lv_at hl 2 rfl) ?_
        refine lv_iload C.1.1 C.1.2.1 dX12_apart_130 (lv_at hl 3 rfl) ?_
        refine lv_iload C.1.1 C.1.2.1 dX12_apart_132 (lv_at hl 5 rfl) ?_
        refine ql_VI (As := [.int xl4, .int xl5, .int xl7]) (rest := [.int (xl9 + (1 : Int32)), va_rf r5]) C S htab hlocks hl qy_X12_note qi_X12_note qs_X12_note gw_1796 (ci := 13) rfl w (fun b w => qm_X12_note l hl9 D _ b xl4 xl5 xl7 _ _ w) rfl ⟨Nat.le_of_ble_eq_true rfl, Nat.le_of_ble_eq_true rfl⟩ ⟨rfl, rfl⟩ (by generalize r5 = z0; cases z0 <;> exact Nat.le_of_ble_eq_true rfl) (fun b e9 => by cases e9; rfl) dX12_apart_134 ⟨Nat.le_of_ble_eq_true rfl, Nat.le_of_ble_eq_true rfl⟩ ⟨Nat.le_of_ble_eq_true rfl, Nat.le_of_ble_eq_true rfl⟩ (fun x6 h H locs S w => ?_)
        refine W.cs (cells' := 0) (slots' := 0) rfl rfl ?_
        refine ql_aload_n (r := (some a0)) C dX12_apart_137 rfl (lv_at hl 1 rfl) ?_
        refine lv_iload C.1.1 C.1.2.1 dX12_apart_138 (lv_at hl 2 rfl) ?_
        refine lv_iload C.1.1 C.1.2.1 dX12_apart_140 (lv_at hl 4 rfl) ?_
        refine lv_iload C.1.1 C.1.2.1 dX12_apart_142 (lv_at hl 7 rfl) ?_
        refine ql_VI (As := [.int xl4, .int xl6, .int xl9]) (rest := [.int x6, .int (xl9 + (1 : Int32)), va_rf r5]) C S htab hlocks hl qy_X12_note qi_X12_note qs_X12_note gw_1796 (ci := 13) rfl w (fun b w => qm_X12_note l hl9 D _ b xl4 xl6 xl9 _ _ w) rfl ⟨Nat.le_of_ble_eq_true rfl, Nat.le_of_ble_eq_true rfl⟩ ⟨rfl, rfl⟩ (by generalize r5 = z0; cases z0 <;> exact Nat.le_of_ble_eq_true rfl) (fun b e9 => by cases e9; rfl) dX12_apart_144 ⟨Nat.le_of_ble_eq_true rfl, Nat.le_of_ble_eq_true rfl⟩ ⟨Nat.le_of_ble_eq_true rfl, Nat.le_of_ble_eq_true rfl⟩ (fun x8 h H locs S w => ?_)
        refine W.cs (cells' := 0) (slots' := 0) rfl rfl ?_
        refine lv_icmp_ne (tgt := 157) C.1.1 C.1.2.1 dX12_apart_147 (by decide) (fun c9 => ?_) (fun c9 => ?_)
        · replace w := ql_ifn w c9
          refine lv_iload C.1.1 C.1.2.1 dX12_apart_157 (lv_at hl 0 rfl) ?_
          refine ql_aload_n (r := (some a0)) C dX12_apart_159 rfl (lv_at hl 1 rfl) ?_
          refine ql_getR C S qf_13_15 gw_1683 dX12_apart_160 w (fun r10 w => ?_)
          refine lv_iload C.1.1 C.1.2.1 dX12_apart_163 (lv_at hl 7 rfl) ?_
          refine ql_iald C S dX12_apart_165 w (fun x11 w => ?_)
          refine ql_SI (As := [.int x4, .int x11]) (rest := [.int (xl9 + (1 : Int32)), va_rf r5]) C S htab hlocks hl qy_X12_most qi_X12_most gw_1908 (qm_X12_most l hl9 D _ x4 x11 _ _ w) rfl ⟨Nat.le_of_ble_eq_true rfl, Nat.le_of_ble_eq_true rfl⟩ ⟨rfl, rfl⟩ (by generalize r5 = z0; cases z0 <;> exact Nat.le_of_ble_eq_true rfl) rfl dX12_apart_166 ⟨Nat.le_of_ble_eq_true rfl, Nat.le_of_ble_eq_true rfl⟩ ⟨Nat.le_of_ble_eq_true rfl, Nat.le_of_ble_eq_true rfl⟩ (fun x12 h H locs S w => ?_)
          refine W.cs (cells' := 0) (slots' := 0) rfl rfl ?_
          exact hB169 (qw_X12_apart_93 a0 Q k72 n) ih xl4 xl5 xl6 xl7 xl9 x4 r5 (xl9 + (1 : Int32)) x12 _ _ _ _ S (lv_sub hl [1, 2, 3, 4, 5, 7, 0] rfl) w
        · replace w := ql_if w c9
          refine lv_iload C.1.1 C.1.2.1 dX12_apart_150 (lv_at hl 6 rfl) ?_
          refine lv_iconst (v := (1 : Int32)) C.1.1 C.1.2.1 dX12_apart_152 (by decide) ?_
          refine lv_iadd C.1.1 C.1.2.1 dX12_apart_153 ?_
          refine lv_goto (tgt := 169) C.1.1 C.1.2.1 dX12_apart_154 (by decide) ?_
          exact hB169 (qw_X12_apart_93 a0 Q k72 n) ih xl4 xl5 xl6 xl7 xl9 x4 r5 (xl9 + (1 : Int32)) (xl8 + (1 : Int32)) _ _ _ _ S (lv_sub hl [1, 2, 3, 4, 5, 7, 0] rfl) w
  have hB72 : ∀ n : Nat, ∀ (xl4 : Int32) (xl5 : Int32) (xl6 : Int32) (xl7 : Int32) (h : ql_H) (H : Heap) (locs : List Loc) (ls : Array Slot), ql_S D h0 s H locs h → lv_has ls 11 [(0, .ref a0), (4, .int xl4), (5, .int xl5), (6, .int xl6), (7, .int xl7)] → qw_X12_apart_72 a0 Q n xl4 xl5 xl6 xl7 h → W p l e ({ frames := 8, cells := 0, slots := 0, locals := 140 } : Room) s m ([.ref a0, .int xp1, .int xp2, .int xp3] : List Value).toArray below meth c H locs 0 0 (vx_MQ below (ql_Q D h0 (ql_rI Q)) (ql_X D h0 X) ([.ref a0, .int xp1, .int xp2, .int xp3] : List Value).toArray s 0 0 (ql_A h0)) (F0 m 72 ls []) := by
    intro n
    induction n with
    | zero => intro xl4 xl5 xl6 xl7 h H locs ls S hl w; rw [qw_X12_apart_72] at w; exact w.elim
    | succ n ih =>
      intro xl4 xl5 xl6 xl7 h H locs ls S hl w
      rw [qw_X12_apart_72] at w
      refine lv_iload C.1.1 C.1.2.1 dX12_apart_72 (lv_at hl 4 rfl) ?_
      refine ql_aload_n (r := (some a0)) C dX12_apart_74 rfl (lv_at hl 0 rfl) ?_
      refine lv_iload C.1.1 C.1.2.1 dX12_apart_75 (lv_at hl 1 rfl) ?_
      refine lv_iload C.1.1 C.1.2.1 dX12_apart_77 (lv_at hl 2 rfl) ?_
      refine lv_iconst (v := (1 : Int32)) C.1.1 C.1.2.1 dX12_apart_79 (by decide) ?_
      refine lv_iadd C.1.1 C.1.2.1 dX12_apart_80 ?_
      refine ql_VI (As := [.int xl4, .int (xl5 + (1 : Int32))]) (rest := [.int xl7]) C S htab hlocks hl qy_X12_of qi_X12_of qs_X12_of gw_1745 (ci := 13) rfl w (fun b w => qm_X12_of l hl9 D _ b xl4 (xl5 + (1 : Int32)) _ _ w) rfl ⟨Nat.le_of_ble_eq_true rfl, Nat.le_of_ble_eq_true rfl⟩ ⟨rfl, rfl⟩ (by exact Nat.le_of_ble_eq_true rfl) (fun b e9 => by cases e9; rfl) dX12_apart_81 ⟨Nat.le_of_ble_eq_true rfl, Nat.le_of_ble_eq_true rfl⟩ ⟨Nat.le_of_ble_eq_true rfl, Nat.le_of_ble_eq_true rfl⟩ (fun x13 h H locs S w => ?_)
      refine W.cs (cells' := 0) (slots' := 0) rfl rfl ?_
      refine lv_icmp_ge (tgt := 186) C.1.1 C.1.2.1 dX12_apart_84 (by decide) (fun c9 => ?_) (fun c9 => ?_)
      · replace w := ql_if w c9
        refine ql_aload_n (r := (some a0)) C dX12_apart_186 rfl (lv_at hl 0 rfl) ?_
        refine lv_iload C.1.1 C.1.2.1 dX12_apart_187 (lv_at hl 1 rfl) ?_
        refine lv_iload C.1.1 C.1.2.1 dX12_apart_189 (lv_at hl 2 rfl) ?_
        refine lv_iconst (v := (1 : Int32)) C.1.1 C.1.2.1 dX12_apart_191 (by decide) ?_
        refine lv_iadd C.1.1 C.1.2.1 dX12_apart_192 ?_
        refine ql_VI (As := [.int xl4, .int (xl5 + (1 : Int32))]) (rest := []) C S htab hlocks hl qy_X12_of qi_X12_of qs_X12_of gw_1745 (ci := 13) rfl w (fun b w => qm_X12_of l hl9 D _ b xl4 (xl5 + (1 : Int32)) _ _ w) rfl ⟨Nat.le_of_ble_eq_true rfl, Nat.le_of_ble_eq_true rfl⟩ ⟨rfl, rfl⟩ (by exact Nat.le_of_ble_eq_true rfl) (fun b e9 => by cases e9; rfl) dX12_apart_193 ⟨Nat.le_of_ble_eq_true rfl, Nat.le_of_ble_eq_true rfl⟩ ⟨Nat.le_of_ble_eq_true rfl, Nat.le_of_ble_eq_true rfl⟩ (fun x15 h H locs S w => ?_)
        refine W.cs (cells' := 0) (slots' := 0) rfl rfl ?_
        refine ql_aload_n (r := (some a0)) C dX12_apart_196 rfl (lv_at hl 0 rfl) ?_
        refine lv_iload C.1.1 C.1.2.1 dX12_apart_197 (lv_at hl 1 rfl) ?_
        refine lv_iload C.1.1 C.1.2.1 dX12_apart_199 (lv_at hl 3 rfl) ?_
        refine lv_iconst (v := (1 : Int32)) C.1.1 C.1.2.1 dX12_apart_201 (by decide) ?_
        refine lv_iadd C.1.1 C.1.2.1 dX12_apart_202 ?_
        refine ql_VI (As := [.int xl4, .int (xl6 + (1 : Int32))]) (rest := [.int x15]) C S htab hlocks hl qy_X12_of qi_X12_of qs_X12_of gw_1745 (ci := 13) rfl w (fun b w => qm_X12_of l hl9 D _ b xl4 (xl6 + (1 : Int32)) _ _ w) rfl ⟨Nat.le_of_ble_eq_true rfl, Nat.le_of_ble_eq_true rfl⟩ ⟨rfl, rfl⟩ (by exact Nat.le_of_ble_eq_true rfl) (fun b e9 => by cases e9; rfl) dX12_apart_203 ⟨Nat.le_of_ble_eq_true rfl, Nat.le_of_ble_eq_true rfl⟩ ⟨Nat.le_of_ble_eq_true rfl, Nat.le_of_ble_eq_true rfl⟩ (fun x17 h H locs S w => ?_)
        refine W.cs (cells' := 0) (slots' := 0) rfl rfl ?_
        refine lv_iadd C.1.1 C.1.2.1 dX12_apart_206 ?_
        refine lv_iconst (v := (2 : Int32)) C.1.1 C.1.2.1 dX12_apart_207 (by decide) ?_
        refine ql_aload_n (r := (some a0)) C dX12_apart_208 rfl (lv_at hl 0 rfl) ?_
        refine ql_getR C S qf_13_15 gw_1683 dX12_apart_209 w (fun r19 w => ?_)
        refine ql_aload_n (r := (some a0)) C dX12_apart_212 rfl (lv_at hl 0 rfl) ?_
        refine lv_iload C.1.1 C.1.2.1 dX12_apart_213 (lv_at hl 1 rfl) ?_
        refine lv_iload C.1.1 C.1.2.1 dX12_apart_215 (lv_at hl 3 rfl) ?_
        refine lv_iconst (v := (1 : Int32)) C.1.1 C.1.2.1 dX12_apart_217 (by decide) ?_
        refine lv_iadd C.1.1 C.1.2.1 dX12_apart_218 ?_
        refine ql_VI (As := [.int xl4, .int (xl6 + (1 : Int32))]) (rest := [va_rf r19, .int (2 : Int32), .int (x15 + x17)]) C S htab hlocks hl qy_X12_of qi_X12_of qs_X12_of gw_1745 (ci := 13) rfl w (fun b w => qm_X12_of l hl9 D _ b xl4 (xl6 + (1 : Int32)) _ _ w) rfl ⟨Nat.le_of_ble_eq_true rfl, Nat.le_of_ble_eq_true rfl⟩ ⟨rfl, rfl⟩ (by generalize r19 = z0; cases z0 <;> exact Nat.le_of_ble_eq_true rfl) (fun b e9 => by cases e9; rfl) dX12_apart_219 ⟨Nat.le_of_ble_eq_true rfl, Nat.le_of_ble_eq_true rfl⟩ ⟨Nat.le_of_ble_eq_true rfl, Nat.le_of_ble_eq_true rfl⟩ (fun x20 h H locs S w => ?_)
        refine W.cs (cells' := 0) (slots' := 0) rfl rfl ?_
        refine ql_iald C S dX12_apart_222 w (fun x22 w => ?_)
        refine lv_imul C.1.1 C.1.2.1 dX12_apart_223 ?_
        refine lv_isub C.1.1 C.1.2.1 dX12_apart_224 ?_
        exact ql_iret C S hr hlocks dX12_apart_225 ⟨Nat.le_of_ble_eq_true rfl, Nat.le_of_ble_eq_true rfl⟩ w
      · replace w := ql_ifn w c9
        refine lv_iconst (v := (0 : Int32)) C.1.1 C.1.2.1 dX12_apart_87 (by decide) ?_
        refine lv_istore (lv' := [(8, .int (0 : Int32)), (0, .ref a0), (4, .int xl4), (5, .int xl5), (6, .int xl6), (7, .int xl7)]) C.1.1 C.1.2.1 dX12_apart_88 hl (by decide) rfl (fun ls hl => ?_)
        refine lv_iconst (v := (0 : Int32)) C.1.1 C.1.2.1 dX12_apart_90 (by decide) ?_
        refine lv_istore (lv' := [(9, .int (0 : Int32)), (8, .int (0 : Int32)), (0, .ref a0), (4, .int xl4), (5, .int xl5), (6, .int xl6), (7, .int xl7)]) C.1.1 C.1.2.1 dX12_apart_91 hl (by decide) rfl (fun ls hl => ?_)
        exact hB93 (qw_X12_apart_72 a0 Q n) ih ql_FU xl4 xl5 xl6 xl7 (0 : Int32) (0 : Int32) _ _ _ _ S (lv_sub hl [2, 3, 4, 5, 6, 1, 0] rfl) w
  have hB48 : ∀ n : Nat, ∀ (xl4 : Int32) (xl5 : Int32) (xl6 : Int32) (xl7 : Int32) (h : ql_H) (H : Heap) (locs : List Loc) (ls : Array Slot), ql_S D h0 s H locs h → lv_has ls 11 [(0, .ref a0), (4, .int xl4), (5, .int xl5), (6, .int xl6), (7, .int xl7)] → qw_X12_apart_48 a0 Q n xl4 xl5 xl6 xl7 h → W p l e ({ frames := 8, cells := 0, slots := 0, locals := 140 } : Room) s m ([.ref a0, .int xp1, .int xp2, .int xp3] : List Value).toArray below meth c H locs 0 0 (vx_MQ below (ql_Q D h0 (ql_rI Q)) (ql_X D h0 X) ([.ref a0, .int xp1, .int xp2, .int xp3] : List Value).toArray s 0 0 (ql_A h0)) (F0 m 48 ls []) := by
    intro n
    induction n with
    | zero => intro xl4 xl5 xl6 xl7 h H locs ls S hl w; rw [qw_X12_apart_48] at w; exact w.elim
    | succ n ih =>
      intro xl4 xl5 xl6 xl7 h H locs ls S hl w
      rw [qw_X12_apart_48] at w
      refine lv_iload C.1.1 C.1.2.1 dX12_apart_48 (lv_at hl 4 rfl) ?_
      refine lv_bipush (v := (13 : Int32)) C.1.1 C.1.2.1 dX12_apart_50 (by decide) ?_
      refine lv_icmp_ge (tgt := 69) C.1.1 C.1.2.1 dX12_apart_52 (by decide) (fun c9 => ?_) (fun c9 => ?_)
      · replace w := ql_if w c9
        refine lv_iconst (v := (0 : Int32)) C.1.1 C.1.2.1 dX12_apart_69 (by decide) ?_
        refine lv_istore (lv' := [(7, .int (0 : Int32)), (0, .ref a0), (4, .int xl4), (5, .int xl5), (6, .int xl6)]) C.1.1 C.1.2.1 dX12_apart_70 hl (by decide) rfl (fun ls hl => ?_)
        exact hB72 ql_FU xl4 xl5 xl6 (0 : Int32) _ _ _ _ S (lv_sub hl [1, 2, 3, 4, 0] rfl) w
      · replace w := ql_ifn w c9
        refine ql_aload_n (r := (some a0)) C dX12_apart_55 rfl (lv_at hl 0 rfl) ?_
        refine ql_getR C S qf_13_15 gw_1683 dX12_apart_56 w (fun r23 w => ?_)
        refine lv_iload C.1.1 C.1.2.1 dX12_apart_59 (lv_at hl 4 rfl) ?_
        refine lv_iconst (v := (0 : Int32)) C.1.1 C.1.2.1 dX12_apart_61 (by decide) ?_
        refine ql_iast C S dX12_apart_62 w (fun h H locs S w => ?_)
        refine lv_iinc (v := (xl7 + (1 : Int32))) (lv' := [(7, .int (xl7 + (1 : Int32))), (0, .ref a0), (4, .int xl4), (5, .int xl5), (6, .int xl6)]) C.1.1 C.1.2.1 dX12_apart_63 hl (k := 4) rfl rfl (by decide) rfl (fun ls hl => ?_)
        refine lv_goto (tgt := 48) C.1.1 C.1.2.1 dX12_apart_66 (by decide) ?_
        exact ih xl4 xl5 xl6 (xl7 + (1 : Int32)) _ _ _ _ S (lv_sub hl [1, 2, 3, 4, 0] rfl) w
  unfold qw_X12_apart at w
  refine ql_aload_n (r := (some a0)) C dX12_apart_0 rfl (lv_at hl 0 rfl) ?_
  refine lv_iload_n C.1.1 C.1.2.1 dX12_apart_1 rfl (lv_at hl 1 rfl) ?_
  refine lv_iload_n C.1.1 C.1.2.1 dX12_apart_2 rfl (lv_at hl 2 rfl) ?_
  refine ql_VI (As := [.int xp1, .int xp2]) (rest := []) C S htab hlocks hl qy_X12_isBlank qi_X12_isBlank qs_X12_isBlank gw_1927 (ci := 13) rfl w (fun b w => qm_X12_isBlank l hl9 D _ b xp1 xp2 _ _ w) rfl ⟨Nat.le_of_ble_eq_true rfl, Nat.le_of_ble_eq_true rfl⟩ ⟨rfl, rfl⟩ (by exact Nat.le_of_ble_eq_true rfl) (fun b e9 => by cases e9; rfl) dX12_apart_3 ⟨Nat.le_of_ble_eq_true rfl, Nat.le_of_ble_eq_true rfl⟩ ⟨Nat.le_of_ble_eq_true rfl, Nat.le_of_ble_eq_true rfl⟩ (fun x24 h H locs S w => ?_)
  refine W.cs (cells' := 0) (slots' := 0) rfl rfl ?_
  refine lv_if_ne (tgt := 18) C.1.1 C.1.2.1 dX12_apart_6 (by decide) (fun c9 => ?_) (fun c9 => ?_)
  · replace w := ql_ifn w c9
    refine lv_iconst (v := (0 : Int32)) C.1.1 C.1.2.1 dX12_apart_18 (by decide) ?_
    exact ql_iret C S hr hlocks dX12_apart_19 ⟨Nat.le_of_ble_eq_true rfl, Nat.le_of_ble_eq_true rfl⟩ w
  · replace w := ql_if w c9
    refine ql_aload_n (r := (some a0)) C dX12_apart_9 rfl (lv_at hl 0 rfl) ?_
    refine lv_iload_n C.1.1 C.1.2.1 dX12_apart_10 rfl (lv_at hl 1 rfl) ?_
    refine lv_iload_n C.1.1 C.1.2.1 dX12_apart_11 rfl (lv_at hl 3 rfl) ?_
    refine ql_VI (As := [.int xp1, .int xp3]) (rest := []) C S htab hlocks hl qy_X12_isBlank qi_X12_isBlank qs_X12_isBlank gw_1927 (ci := 13) rfl w (fun b w => qm_X12_isBlank l hl9 D _ b xp1 xp3 _ _ w) rfl ⟨Nat.le_of_ble_eq_true rfl, Nat.le_of_ble_eq_true rfl⟩ ⟨rfl, rfl⟩ (by exact Nat.le_of_ble_eq_true rfl) (fun b e9 => by cases e9; rfl) dX12_apart_12 ⟨Nat.le_of_ble_eq_true rfl, Nat.le_of_ble_eq_true rfl⟩ ⟨Nat.le_of_ble_eq_true rfl, Nat.le_of_ble_eq_true rfl⟩ (fun x26 h H locs S w => ?_)
    refine W.cs (cells' := 0) (slots' := 0) rfl rfl ?_
    refine lv_if_eq (tgt := 20) C.1.1 C.1.2.1 dX12_apart_15 (by decide) (fun c9 => ?_) (fun c9 => ?_)
    · replace w := ql_if w c9
      refine ql_aload_n (r := (some a0)) C dX12_apart_20 rfl (lv_at hl 0 rfl) ?_
      refine lv_iload_n C.1.1 C.1.2.1 dX12_apart_21 rfl (lv_at hl 1 rfl) ?_
      refine ql_VI (As := [.int xp1]) (rest := []) C S htab hlocks hl qy_X12_placeOf qi_X12_placeOf qs_X12_placeOf gw_1772 (ci := 13) rfl w (fun b w => qm_X12_placeOf l hl9 D _ b xp1 _ _ w) rfl ⟨Nat.le_of_ble_eq_true rfl, Nat.le_of_ble_eq_true rfl⟩ ⟨rfl, rfl⟩ (by exact Nat.le_of_ble_eq_true rfl) (fun b e9 => by cases e9; rfl) dX12_apart_22 ⟨Nat.le_of_ble_eq_true rfl, Nat.le_of_ble_eq_true rfl⟩ ⟨Nat.le_of_ble_eq_true rfl, Nat.le_of_ble_eq_true rfl⟩ (fun x28 h H locs S w => ?_)
      refine W.cs (cells' := 0) (slots' := 0) rfl rfl ?_
      refine lv_istore (lv' := [(4, .int x28), (0, .ref a0), (1, .int xp1), (2, .int xp2), (3, .int xp3)]) C.1.1 C.1.2.1 dX12_apart_25 hl (by decide) rfl (fun ls hl => ?_)
      refine ql_aload_n (r := (some a0)) C dX12_apart_27 rfl (lv_at hl 1 rfl) ?_
      refine lv_iload C.1.1 C.1.2.1 dX12_apart_28 (lv_at hl 0 rfl) ?_
      refine lv_iload_n C.1.1 C.1.2.1 dX12_apart_30 rfl (lv_at hl 3 rfl) ?_
      refine ql_VI (As := [.int x28, .int xp2]) (rest := []) C S htab hlocks hl qy_X12_versionOn qi_X12_versionOn qs_X12_versionOn gw_1931 (ci := 13) rfl w (fun b w => qm_X12_versionOn l hl9 D _ b x28 xp2 _ _ w) rfl ⟨Nat.le_of_ble_eq_true rfl, Nat.le_of_ble_eq_true rfl⟩ ⟨rfl, rfl⟩ (by exact Nat.le_of_ble_eq_true rfl) (fun b e9 => by cases e9; rfl) dX12_apart_31 ⟨Nat.le_of_ble_eq_true rfl, Nat.le_of_ble_eq_true rfl⟩ ⟨Nat.le_of_ble_eq_true rfl, Nat.le_of_ble_eq_true rfl⟩ (fun x30 h H locs S w => ?_)
      refine W.cs (cells' := 0) (slots' := 0) rfl rfl ?_
      refine lv_istore (lv' := [(5, .int x30), (4, .int x28), (0, .ref a0), (1, .int xp1), (2, .int xp2), (3, .int xp3)]) C.1.1 C.1.2.1 dX12_apart_34 hl (by decide) rfl (fun ls hl => ?_)
      refine ql_aload_n (r := (some a0)) C dX12_apart_36 rfl (lv_at hl 2 rfl) ?_
      refine lv_iload C.1.1 C.1.2.1 dX12_apart_37 (lv_at hl 1 rfl) ?_
      refine lv_iload_n C.1.1 C.1.2.1 dX12_apart_39 rfl (lv_at hl 5 rfl) ?_
      refine ql_VI (As := [.int x28, .int xp3]) (rest := []) C S htab hlocks hl qy_X12_versionOn qi_X12_versionOn qs_X12_versionOn gw_1931 (ci := 13) rfl w (fun b w => qm_X12_versionOn l hl9 D _ b x28 xp3 _ _ w) rfl ⟨Nat.le_of_ble_eq_true rfl, Nat.le_of_ble_eq_true rfl⟩ ⟨rfl, rfl⟩ (by exact Nat.le_of_ble_eq_true rfl) (fun b e9 => by cases e9; rfl) dX12_apart_40 ⟨Nat.le_of_ble_eq_true rfl, Nat.le_of_ble_eq_true rfl⟩ ⟨Nat.le_of_ble_eq_true rfl, Nat.le_of_ble_eq_true rfl⟩ (fun x32 h H locs S w => ?_)
      refine W.cs (cells' := 0) (slots' := 0) rfl rfl ?_
      refine lv_istore (lv' := [(6, .int x32), (5, .int x30), (4, .int x28), (0, .ref a0), (1, .int xp1), (2, .int xp2), (3, .int xp3)]) C.1.1 C.1.2.1 dX12_apart_43 hl (by decide) rfl (fun ls hl => ?_)
      refine lv_iconst (v := (0 : Int32)) C.1.1 C.1.2.1 dX12_apart_45 (by decide) ?_
      refine lv_istore (lv' := [(7, .int (0 : Int32)), (6, .int x32), (5, .int x30), (4, .int x28), (0, .ref a0), (1, .int xp1), (2, .int xp2), (3, .int xp3)]) C.1.1 C.1.2.1 dX12_apart_46 hl (by decide) rfl (fun ls hl => ?_)
      exact hB48 ql_FU x28 x30 x32 (0 : Int32) _ _ _ _ S (lv_sub hl [4, 3, 2, 1, 0] rfl) w
    · replace w := ql_ifn w c9
      refine lv_iconst (v := (0 : Int32)) C.1.1 C.1.2.1 dX12_apart_18 (by decide) ?_
      exact ql_iret C S hr hlocks dX12_apart_19 ⟨Nat.le_of_ble_eq_true rfl, Nat.le_of_ble_eq_true rfl⟩ w
def qw_X12_difference (a0 : Nat) (xp1 : Int32) (xp2 : Int32) (xp3 : Int32) (h : ql_H) (Q : Int32 → ql_H → Prop) : Prop :=
ql_rv h (some a0) 13 fun b1 => qw_X12_apart b1 xp1 xp2 xp3 h (fun x1 h =>
Q x1 h)
set_option maxHeartbeats 4000000 in
set_option maxRecDepth 100000 in
theorem qm_X12_difference (l : Launch) (hl9 : l.stackTraces = false) (D : ql_D) (h0 : ql_H) (a0 : Nat) (xp1 : Int32) (xp2 : Int32) (xp3 : Int32) (Q : Int32 → ql_H → Prop) (X : String → ql_H → Prop) (w : qw_X12_difference a0 xp1 xp2 xp3 h0 Q) : ql_M D l yX12_difference cX12_difference 4 (some .int) ({ frames := 10, cells := 0, slots := 0, locals := 178 } : Room) h0 [.ref a0, .int xp1, .int xp2, .int xp3] (ql_rI Q) X 0 0 := by
  refine ql_ofW (by decide) (Nat.le_of_ble_eq_true rfl) ?_
  intro p e s m below meth c ls C hr hlocks hnm htab S hl
  have hl : lv_has ls 4 [(0, .ref a0), (1, .int xp1), (2, .int xp2), (3, .int xp3)] := hl
  unfold qw_X12_difference at w
  refine ql_aload_n (r := (some a0)) C dX12_difference_0 rfl (lv_at hl 0 rfl) ?_
  refine lv_iload_n C.1.1 C.1.2.1 dX12_difference_1 rfl (lv_at hl 1 rfl) ?_
  refine lv_iload_n C.1.1 C.1.2.1 dX12_difference_2 rfl (lv_at hl 2 rfl) ?_
  refine lv_iload_n C.1.1 C.1.2.1 dX12_difference_3 rfl (lv_at hl 3 rfl) ?_
  refine ql_VI (As := [.int xp1, .int xp2, .int xp3]) (rest := []) C S htab hlocks hl qy_X12_apart qi_X12_apart qs_X12_apart gw_1943 (ci := 13) rfl w (fun b w => qm_X12_apart l hl9 D _ b xp1 xp2 xp3 _ _ w) rfl ⟨Nat.le_of_ble_eq_true rfl, Nat.le_of_ble_eq_true rfl⟩ ⟨rfl, rfl⟩ (by exact Nat.le_of_ble_eq_true rfl) (fun b e9 => by cases e9; rfl) dX12_difference_4 ⟨Nat.le_of_ble_eq_true rfl, Nat.le_of_ble_eq_true rfl⟩ ⟨Nat.le_of_ble_eq_true rfl, Nat.le_of_ble_eq_true rfl⟩ (fun x1 h H locs S w => ?_)
  refine W.cs (cells' := 0) (slots' := 0) rfl rfl ?_
  exact ql_iret C S hr hlocks dX12_difference_7 ⟨Nat.le_of_ble_eq_true rfl, Nat.le_of_ble_eq_true rfl⟩ w
def qw_X12_differenceByEnds (a0 : Nat) (xp1 : Int32) (xp2 : Int32) (xp3 : Int32) (h : ql_H) (Q : Int32 → ql_H → Prop) : Prop :=
ql_rv h (some a0) 13 fun b1 => qw_X12_apart b1 xp1 xp2 xp3 h (fun x1 h =>
Q x1 h)
set_option maxHeartbeats 4000000 in
set_option maxRecDepth 100000 in
theorem qm_X12_differenceByEnds (l : Launch) (hl9 : l.stackTraces = false) (D : ql_D) (h0 : ql_H) (a0 : Nat) (xp1 : Int32) (xp2 : Int32) (xp3 : Int32) (Q : Int32 → ql_H → Prop) (X : String → ql_H → Prop) (w : qw_X12_differenceByEnds a0 xp1 xp2 xp3 h0 Q) : ql_M D l yX12_differenceByEnds cX12_differenceByEnds 4 (some .int) ({ frames := 10, cells := 0, slots := 0, locals := 178 } : Room) h0 [.ref a0, .int xp1, .int xp2, .int xp3] (ql_rI Q) X 0 0 := by
  refine ql_ofW (by decide) (Nat.le_of_ble_eq_true rfl) ?_
  intro p e s m below meth c ls C hr hlocks hnm htab S hl
  have hl : lv_has ls 4 [(0, .ref a0), (1, .int xp1), (2, .int xp2), (3, .int xp3)] := hl
  unfold qw_X12_differenceByEnds at w
  refine ql_aload_n (r := (some a0)) C dX12_differenceByEnds_0 rfl (lv_at hl 0 rfl) ?_
  refine lv_iload_n C.1.1 C.1.2.1 dX12_differenceByEnds_1 rfl (lv_at hl 1 rfl) ?_
  refine lv_iload_n C.1.1 C.1.2.1 dX12_differenceByEnds_2 rfl (lv_at hl 2 rfl) ?_
  refine lv_iload_n C.1.1 C.1.2.1 dX12_differenceByEnds_3 rfl (lv_at hl 3 rfl) ?_
  refine ql_VI (As := [.int xp1, .int xp2, .int xp3]) (rest := []) C S htab hlocks hl qy_X12_apart qi_X12_apart qs_X12_apart gw_1943 (ci := 13) rfl w (fun b w => qm_X12_apart l hl9 D _ b xp1 xp2 xp3 _ _ w) rfl ⟨Nat.le_of_ble_eq_true rfl, Nat.le_of_ble_eq_true rfl⟩ ⟨rfl, rfl⟩ (by exact Nat.le_of_ble_eq_true rfl) (fun b e9 => by cases e9; rfl) dX12_differenceByEnds_4 ⟨Nat.le_of_ble_eq_true rfl, Nat.le_of_ble_eq_true rfl⟩ ⟨Nat.le_of_ble_eq_true rfl, Nat.le_of_ble_eq_true rfl⟩ (fun x1 h H locs S w => ?_)
  refine W.cs (cells' := 0) (slots' := 0) rfl rfl ?_
  exact ql_iret C S hr hlocks dX12_differenceByEnds_7 ⟨Nat.le_of_ble_eq_true rfl, Nat.le_of_ble_eq_true rfl⟩ w
def qw_X12_areAlike_17 (a0 : Nat) (Q : Int32 → ql_H → Prop) : Nat → Int32 → Int32 → Int32 → ql_H → Prop
  | 0, _, _, _, _ => False
  | n + 1, xl1, xl2, xl3, h =>
    ql_rv h (some a0) 13 fun b1 => qw_X12_long0 b1 xl1 h (fun x1 h =>
    if x1 ≤ xl3 then (ql_nz .boolean (1 : Int32) ∧ Q (1 : Int32) h) else (ql_rv h (some a0) 13 fun b3 => qw_X12_lastVersion b3 xl1 h (fun x3 h =>
    ql_rv h (some a0) 13 fun b5 => qw_X12_note b5 xl1 x3 xl3 h (fun x5 h =>
    ql_rv h (some a0) 13 fun b7 => qw_X12_lastVersion b7 xl2 h (fun x7 h =>
    ql_rv h (some a0) 13 fun b9 => qw_X12_note b9 xl2 x7 xl3 h (fun x9 h =>
    if x5 = x9 then (qw_X12_areAlike_17 a0 Q n xl1 xl2 (xl3 + (1 : Int32)) h) else (ql_nz .boolean (0 : Int32) ∧ Q (0 : Int32) h)))))))
def qw_X12_areAlike (a0 : Nat) (xp1 : Int32) (xp2 : Int32) (h : ql_H) (Q : Int32 → ql_H → Prop) : Prop :=
ql_rv h (some a0) 13 fun b11 => qw_X12_long0 b11 xp1 h (fun x11 h =>
ql_rv h (some a0) 13 fun b13 => qw_X12_long0 b13 xp2 h (fun x13 h =>
if x11 = x13 then (qw_X12_areAlike_17 a0 Q ql_FU xp1 xp2 (0 : Int32) h) else (ql_nz .boolean (0 : Int32) ∧ Q (0 : Int32) h)))
set_option maxHeartbeats 4000000 in
set_option maxRecDepth 100000 in
theorem qm_X12_areAlike (l : Launch) (hl9 : l.stackTraces = false) (D : ql_D) (h0 : ql_H) (a0 : Nat) (xp1 : Int32) (xp2 : Int32) (Q : Int32 → ql_H → Prop) (X : String → ql_H → Prop) (w : qw_X12_areAlike a0 xp1 xp2 h0 Q) : ql_M D l yX12_areAlike cX12_areAlike 4 (some .boolean) ({ frames := 8, cells := 0, slots := 0, locals := 136 } : Room) h0 [.ref a0, .int xp1, .int xp2] (ql_rI Q) X 0 0 := by
  refine ql_ofW (by decide) (Nat.le_of_ble_eq_true rfl) ?_
  intro p e s m below meth c ls C hr hlocks hnm htab S hl
  have hl : lv_has ls 4 [(0, .ref a0), (1, .int xp1), (2, .int xp2)] := hl
  have hB17 : ∀ n : Nat, ∀ (xl1 : Int32) (xl2 : Int32) (xl3 : Int32) (h : ql_H) (H : Heap) (locs : List Loc) (ls : Array Slot), ql_S D h0 s H locs h → lv_has ls 4 [(0, .ref a0), (1, .int xl1), (2, .int xl2), (3, .int xl3)] → qw_X12_areAlike_17 a0 Q n xl1 xl2 xl3 h → W p l e ({ frames := 8, cells := 0, slots := 0, locals := 136 } : Room) s m ([.ref a0, .int xp1, .int xp2] : List Value).toArray below meth c H locs 0 0 (vx_MQ below (ql_Q D h0 (ql_rI Q)) (ql_X D h0 X) ([.ref a0, .int xp1, .int xp2] : List Value).toArray s 0 0 (ql_A h0)) (F0 m 17 ls []) := by
    intro n
    induction n with
    | zero => intro xl1 xl2 xl3 h H locs ls S hl w; rw [qw_X12_areAlike_17] at w; exact w.elim
    | succ n ih =>
      intro xl1 xl2 xl3 h H locs ls S hl w
      rw [qw_X12_areAlike_17] at w
      refine lv_iload_n C.1.1 C.1.2.1 dX12_areAlike_17 rfl (lv_at hl 3 rfl) ?_
      refine ql_aload_n (r := (some a0)) C dX12_areAlike_18 rfl (lv_at hl 0 rfl) ?_
      refine lv_iload_n C.1.1 C.1.2.1 dX12_areAlike_19 rfl (lv_at hl 1 rfl) ?_
      refine ql_VI (As := [.int xl1]) (rest := [.int xl3]) C S htab hlocks hl qy_X12_long0 qi_X12_long0 qs_X12_long0 gw_1776 (ci := 13) rfl w (fun b w => qm_X12_long0 l hl9 D _ b xl1 _ _ w) rfl ⟨Nat.le_of_ble_eq_true rfl, Nat.le_of_ble_eq_true rfl⟩ ⟨rfl, rfl⟩ (by exact Nat.le_of_ble_eq_true rfl) (fun b e9 => by cases e9; rfl) dX12_areAlike_20 ⟨Nat.le_of_ble_eq_true rfl, Nat.le_of_ble_eq_true rfl⟩ ⟨Nat.le_of_ble_eq_true rfl, Nat.le_of_ble_eq_true rfl⟩ (fun x1 h H locs S w => ?_)
      refine W.cs (cells' := 0) (slots' := 0) rfl rfl ?_
      refine lv_icmp_ge (tgt := 59) C.1.1 C.1.2.1 dX12_areAlike_23 (by decide) (fun c9 => ?_) (fun c9 => ?_)
      · replace w := ql_if w c9
        refine lv_iconst (v := (1 : Int32)) C.1.1 C.1.2.1 dX12_areAlike_59 (by decide) ?_
        exact ql_zret C S hr hlocks dX12_areAlike_60 ⟨Nat.le_of_ble_eq_true rfl, Nat.le_of_ble_eq_true rfl⟩ w
      · replace w := ql_ifn w c9
        refine ql_aload_n (r := (some a0)) C dX12_areAlike_26 rfl (lv_at hl 0 rfl) ?_
        refine lv_iload_n C.1.1 C.1.2.1 dX12_areAlike_27 rfl (lv_at hl 1 rfl) ?_
        refine ql_aload_n (r := (some a0)) C dX12_areAlike_28 rfl (lv_at hl 0 rfl) ?_
        refine lv_iload_n C.1.1 C.1.2.1 dX12_areAlike_29 rfl (lv_at hl 1 rfl) ?_
        refine ql_VI (As := [.int xl1]) (rest := [.int xl1, .ref a0]) C S htab hlocks hl qy_X12_lastVersion qi_X12_lastVersion qs_X12_lastVersion gw_1780 (ci := 13) rfl w (fun b w => qm_X12_lastVersion l hl9 D _ b xl1 _ _ w) rfl ⟨Nat.le_of_ble_eq_true rfl, Nat.le_of_ble_eq_true rfl⟩ ⟨rfl, rfl⟩ (by exact Nat.le_of_ble_eq_true rfl) (fun b e9 => by cases e9; rfl) dX12_areAlike_30 ⟨Nat.le_of_ble_eq_true rfl, Nat.le_of_ble_eq_true rfl⟩ ⟨Nat.le_of_ble_eq_true rfl, Nat.le_of_ble_eq_true rfl⟩ (fun x3 h H locs S w => ?_)
        refine W.cs (cells' := 0) (slots' := 0) rfl rfl ?_
        refine lv_iload_n C.1.1 C.1.2.1 dX12_areAlike_33 rfl (lv_at hl 3 rfl) ?_
        refine ql_VI (As := [.int xl1, .int x3, .int xl3]) (rest := []) C S htab hlocks hl qy_X12_note qi_X12_note qs_X12_note gw_1796 (ci := 13) rfl w (fun b w => qm_X12_note l hl9 D _ b xl1 x3 xl3 _ _ w) rfl ⟨Nat.le_of_ble_eq_true rfl, Nat.le_of_ble_eq_true rfl⟩ ⟨rfl, rfl⟩ (by exact Nat.le_of_ble_eq_true rfl) (fun b e9 => by cases e9; rfl) dX12_areAlike_34 ⟨Nat.le_of_ble_eq_true rfl, Nat.le_of_ble_eq_true rfl⟩ ⟨Nat.le_of_ble_eq_true rfl, Nat.le_of_ble_eq_true rfl⟩ (fun x5 h H locs S w => ?_)
        refine W.cs (cells' := 0) (slots' := 0) rfl rfl ?_
        refine ql_aload_n (r := (some a0)) C dX12_areAlike_37 rfl (lv_at hl 0 rfl) ?_
        refine lv_iload_n C.1.1 C.1.2.1 dX12_areAlike_38 rfl (lv_at hl 2 rfl) ?_
        refine ql_aload_n (r := (some a0)) C dX12_areAlike_39 rfl (lv_at hl 0 rfl) ?_
        refine lv_iload_n C.1.1 C.1.2.1 dX12_areAlike_40 rfl (lv_at hl 2 rfl) ?_
        refine ql_VI (As := [.int xl2]) (rest := [.int xl2, .ref a0, .int x5]) C S htab hlocks hl qy_X12_lastVersion qi_X12_lastVersion qs_X12_lastVersion gw_1780 (ci := 13) rfl w (fun b w => qm_X12_lastVersion l hl9 D _ b xl2 _ _ w) rfl ⟨Nat.le_of_ble_eq_true rfl, Nat.le_of_ble_eq_true rfl⟩ ⟨rfl, rfl⟩ (by exact Nat.le_of_ble_eq_true rfl) (fun b e9 => by cases e9; rfl) dX12_areAlike_41 ⟨Nat.le_of_ble_eq_true rfl, Nat.le_of_ble_eq_true rfl⟩ ⟨Nat.le_of_ble_eq_true rfl, Nat.le_of_ble_eq_true rfl⟩ (fun x7 h H locs S w => ?_)
        refine W.cs (cells' := 0) (slots' := 0) rfl rfl ?_
        refine lv_iload_n C.1.1 C.1.2.1 dX12_areAlike_44 rfl (lv_at hl 3 rfl) ?_
        refine ql_VI (As := [.int xl2, .int x7, .int xl3]) (rest := [.int x5]) C S htab hlocks hl qy_X12_note qi_X12_note qs_X12_note gw_1796 (ci := 13) rfl w (fun b w => qm_X12_note l hl9 D _ b xl2 x7 xl3 _ _ w) rfl ⟨Nat.le_of_ble_eq_true rfl, Nat.le_of_ble_eq_true rfl⟩ ⟨rfl, rfl⟩ (by exact Nat.le_of_ble_eq_true rfl) (fun b e9 => by cases e9; rfl) dX12_areAlike_45 ⟨Nat.le_of_ble_eq_true rfl, Nat.le_of_ble_eq_true rfl⟩ ⟨Nat.le_of_ble_eq_true rfl, Nat.le_of_ble_eq_true rfl⟩ (fun x9 h H locs S w => ?_)
        refine W.cs (cells' := 0) (slots' := 0) rfl rfl ?_
        refine lv_icmp_eq (tgt := 53) C.1.1 C.1.2.1 dX12_areAlike_48 (by decide) (fun c9 => ?_) (fun c9 => ?_)
        · replace w := ql_if w c9
          refine lv_iinc (v := (xl3 + (1 : Int32))) (lv' := [(3, .int (xl3 + (1 : Int32))), (0, .ref a0), (1, .int xl1), (2, .int xl2)]) C.1.1 C.1.2.1 dX12_areAlike_53 hl (k := 3) rfl rfl (by decide) rfl (fun ls hl => ?_)
          refine lv_goto (tgt := 17) C.1.1 C.1.2.1 dX12_areAlike_56 (by decide) ?_
          exact ih xl1 xl2 (xl3 + (1 : Int32)) _ _ _ _ S (lv_sub hl [1, 2, 3, 0] rfl) w
        · replace w := ql_ifn w c9
          refine lv_iconst (v := (0 : Int32)) C.1.1 C.1.2.1 dX12_areAlike_51 (by decide) ?_
          exact ql_zret C S hr hlocks dX12_areAlike_52 ⟨Nat.le_of_ble_eq_true rfl, Nat.le_of_ble_eq_true rfl⟩ w
  unfold qw_X12_areAlike at w
  refine ql_aload_n (r := (some a0)) C dX12_areAlike_0 rfl (lv_at hl 0 rfl) ?_
  refine lv_iload_n C.1.1 C.1.2.1 dX12_areAlike_1 rfl (lv_at hl 1 rfl) ?_
  refine ql_VI (As := [.int xp1]) (rest := []) C S htab hlocks hl qy_X12_long0 qi_X12_long0 qs_X12_long0 gw_1776 (ci := 13) rfl w (fun b w => qm_X12_long0 l hl9 D _ b xp1 _ _ w) rfl ⟨Nat.le_of_ble_eq_true rfl, Nat.le_of_ble_eq_true rfl⟩ ⟨rfl, rfl⟩ (by exact Nat.le_of_ble_eq_true rfl) (fun b e9 => by cases e9; rfl) dX12_areAlike_2 ⟨Nat.le_of_ble_eq_true rfl, Nat.le_of_ble_eq_true rfl⟩ ⟨Nat.le_of_ble_eq_true rfl, Nat.le_of_ble_eq_true rfl⟩ (fun x11 h H locs S w => ?_)
  refine W.cs (cells' := 0) (slots' := 0) rfl rfl ?_
  refine ql_aload_n (r := (some a0)) C dX12_areAlike_5 rfl (lv_at hl 0 rfl) ?_
  refine lv_iload_n C.1.1 C.1.2.1 dX12_areAlike_6 rfl (lv_at hl 2 rfl) ?_
  refine ql_VI (As := [.int xp2]) (rest := [.int x11]) C S htab hlocks hl qy_X12_long0 qi_X12_long0 qs_X12_long0 gw_1776 (ci := 13) rfl w (fun b w => qm_X12_long0 l hl9 D _ b xp2 _ _ w) rfl ⟨Nat.le_of_ble_eq_true rfl, Nat.le_of_ble_eq_true rfl⟩ ⟨rfl, rfl⟩ (by exact Nat.le_of_ble_eq_true rfl) (fun b e9 => by cases e9; rfl) dX12_areAlike_7 ⟨Nat.le_of_ble_eq_true rfl, Nat.le_of_ble_eq_true rfl⟩ ⟨Nat.le_of_ble_eq_true rfl, Nat.le_of_ble_eq_true rfl⟩ (fun x13 h H locs S w => ?_)
  refine W.cs (cells' := 0) (slots' := 0) rfl rfl ?_
  refine lv_icmp_eq (tgt := 15) C.1.1 C.1.2.1 dX12_areAlike_10 (by decide) (fun c9 => ?_) (fun c9 => ?_)
  · replace w := ql_if w c9
    refine lv_iconst (v := (0 : Int32)) C.1.1 C.1.2.1 dX12_areAlike_15 (by decide) ?_
    refine lv_istore_n (lv' := [(3, .int (0 : Int32)), (0, .ref a0), (1, .int xp1), (2, .int xp2)]) C.1.1 C.1.2.1 dX12_areAlike_16 rfl hl (by decide) rfl (fun ls hl => ?_)
    exact hB17 ql_FU xp1 xp2 (0 : Int32) _ _ _ _ S (lv_sub hl [1, 2, 3, 0] rfl) w
  · replace w := ql_ifn w c9
    refine lv_iconst (v := (0 : Int32)) C.1.1 C.1.2.1 dX12_areAlike_13 (by decide) ?_
    exact ql_zret C S hr hlocks dX12_areAlike_14 ⟨Nat.le_of_ble_eq_true rfl, Nat.le_of_ble_eq_true rfl⟩ w
def qw_X12_pairs_41 (a0 : Nat) (Q : Int32 → ql_H → Prop) (k21 : Int32 → Int32 → Int32 → ql_H → Prop) (xl2 : Int32) (xl3 : Int32) (xs0 : Int32) (xs1 : Int32) (h : ql_H) : Prop :=
k21 (xs0 + xs1) xl2 (xl3 + (1 : Int32)) h
def qw_X12_pairs_21 (a0 : Nat) (Q : Int32 → ql_H → Prop) (k9 : Int32 → Int32 → ql_H → Prop) : Nat → Int32 → Int32 → Int32 → ql_H → Prop
  | 0, _, _, _, _ => False
  | n + 1, xl1, xl2, xl3, h =>
    if xl2 ≤ xl3 then (k9 xl1 (xl2 + (1 : Int32)) h) else (ql_rv h (some a0) 13 fun b1 => qw_X12_areAlike b1 xl2 xl3 h (fun x1 h =>
    if x1 = 0 then (qw_X12_pairs_41 a0 Q (qw_X12_pairs_21 a0 Q k9 n) xl2 xl3 xl1 (0 : Int32) h) else (qw_X12_pairs_41 a0 Q (qw_X12_pairs_21 a0 Q k9 n) xl2 xl3 xl1 (1 : Int32) h)))
def qw_X12_pairs_9 (a0 : Nat) (Q : Int32 → ql_H → Prop) : Nat → Int32 → Int32 → ql_H → Prop
  | 0, _, _, _ => False
  | n + 1, xl1, xl2, h =>
    ql_gR h (some a0) 13 0 fun r3 =>
    ql_lI h r3 0 (0 : Int32) fun x4 =>
    if x4 ≤ xl2 then (Q xl1 h) else (qw_X12_pairs_21 a0 Q (qw_X12_pairs_9 a0 Q n) ql_FU xl1 xl2 (0 : Int32) h)
def qw_X12_pairs (a0 : Nat) (h : ql_H) (Q : Int32 → ql_H → Prop) : Prop :=
ql_pV h (some a0) 13 7 (.int (0 : Int32)) fun h =>
qw_X12_pairs_9 a0 Q ql_FU (0 : Int32) (0 : Int32) h
set_option maxHeartbeats 4000000 in
set_option maxRecDepth 100000 in
theorem qm_X12_pairs (l : Launch) (hl9 : l.stackTraces = false) (D : ql_D) (h0 : ql_H) (a0 : Nat) (Q : Int32 → ql_H → Prop) (X : String → ql_H → Prop) (w : qw_X12_pairs a0 h0 Q) : ql_M D l yX12_pairs cX12_pairs 4 (some .int) ({ frames := 10, cells := 0, slots := 0, locals := 167 } : Room) h0 [.ref a0] (ql_rI Q) X 0 0 := by
  refine ql_ofW (by decide) (Nat.le_of_ble_eq_true rfl) ?_
  intro p e s m below meth c ls C hr hlocks hnm htab S hl
  have hl : lv_has ls 4 [(0, .ref a0)] := hl
  have hB41 : ∀ (k21 : Int32 → Int32 → Int32 → ql_H → Prop) (hk21 : ∀ (xl1 : Int32) (xl2 : Int32) (xl3 : Int32) (h : ql_H) (H : Heap) (locs : List Loc) (ls : Array Slot), ql_S D h0 s H locs h → lv_has ls 4 [(0, .ref a0), (1, .int xl1), (2, .int xl2), (3, .int xl3)] → k21 xl1 xl2 xl3 h → W p l e ({ frames := 10, cells := 0, slots := 0, locals := 167 } : Room) s m ([.ref a0] : List Value).toArray below meth c H locs 0 0 (vx_MQ below (ql_Q D h0 (ql_rI Q)) (ql_X D h0 X) ([.ref a0] : List Value).toArray s 0 0 (ql_A h0)) (F0 m 21 ls [])) , ∀ (xl2 : Int32) (xl3 : Int32) (xs0 : Int32) (xs1 : Int32) (h : ql_H) (H : Heap) (locs : List Loc) (ls : Array Slot), ql_S D h0 s H locs h → lv_has ls 4 [(0, .ref a0), (2, .int xl2), (3, .int xl3)] → qw_X12_pairs_41 a0 Q k21 xl2 xl3 xs0 xs1 h → W p l e ({ frames := 10, cells := 0, slots := 0, locals := 167 } : Room) s m ([.ref a0] : List Value).toArray below meth c H locs 0 0 (vx_MQ below (ql_Q D h0 (ql_rI Q)) (ql_X D h0 X) ([.ref a0] : List Value).toArray s 0 0 (ql_A h0)) (F0 m 41 ls [.int xs1, .int xs0]) := by
    intro k21 hk21 xl2 xl3 xs0 xs1 h H locs ls S hl w
    unfold qw_X12_pairs_41 at w
    refine lv_iadd C.1.1 C.1.2.1 dX12_pairs_41 ?_
    refine lv_istore_n (lv' := [(1, .int (xs0 + xs1)), (0, .ref a0), (2, .int xl2), (3, .int xl3)]) C.1.1 C.1.2.1 dX12_pairs_42 rfl hl (by decide) rfl (fun ls hl => ?_)
    refine lv_iinc (v := (xl3 + (1 : Int32))) (lv' := [(3, .int (xl3 + (1 : Int32))), (1, .int (xs0 + xs1)), (0, .ref a0), (2, .int xl2)]) C.1.1 C.1.2.1 dX12_pairs_43 hl (k := 3) rfl rfl (by decide) rfl (fun ls hl => ?_)
    refine lv_goto (tgt := 21) C.1.1 C.1.2.1 dX12_pairs_46 (by decide) ?_
    exact hk21 (xs0 + xs1) xl2 (xl3 + (1 : Int32)) _ _ _ _ S (lv_sub hl [2, 1, 3, 0] rfl) w
  have hB21 : ∀ (k9 : Int32 → Int32 → ql_H → Prop) (hk9 : ∀ (xl1 : Int32) (xl2 : Int32) (h : ql_H) (H : Heap) (locs : List Loc) (ls : Array Slot), ql_S D h0 s H locs h → lv_has ls 4 [(0, .ref a0), (1, .int xl1), (2, .int xl2)] → k9 xl1 xl2 h → W p l e ({ frames := 10, cells := 0, slots := 0, locals := 167 } : Room) s m ([.ref a0] : List Value).toArray below meth c H locs 0 0 (vx_MQ below (ql_Q D h0 (ql_rI Q)) (ql_X D h0 X) ([.ref a0] : List Value).toArray s 0 0 (ql_A h0)) (F0 m 9 ls [])) , ∀ n : Nat, ∀ (xl1 : Int32) (xl2 : Int32) (xl3 : Int32) (h : ql_H) (H : Heap) (locs : List Loc) (ls : Array Slot), ql_S D h0 s H locs h → lv_has ls 4 [(0, .ref a0), (1, .int xl1), (2, .int xl2), (3, .int xl3)] → qw_X12_pairs_21 a0 Q k9 n xl1 xl2 xl3 h → W p l e ({ frames := 10, cells := 0, slots := 0, locals := 167 } : Room) s m ([.ref a0] : List Value).toArray below meth c H locs 0 0 (vx_MQ below (ql_Q D h0 (ql_rI Q)) (ql_X D h0 X) ([.ref a0] : List Value).toArray s 0 0 (ql_A h0)) (F0 m 21 ls []) := by
    intro k9 hk9 n
    induction n with
    | zero => intro xl1 xl2 xl3 h H locs ls S hl w; rw [qw_X12_pairs_21] at w; exact w.elim
    | succ n ih =>
      intro xl1 xl2 xl3 h H locs ls S hl w
      rw [qw_X12_pairs_21] at w
      refine lv_iload_n C.1.1 C.1.2.1 dX12_pairs_21 rfl (lv_at hl 3 rfl) ?_
      refine lv_iload_n C.1.1 C.1.2.1 dX12_pairs_22 rfl (lv_at hl 2 rfl) ?_
      refine lv_icmp_ge (tgt := 49) C.1.1 C.1.2.1 dX12_pairs_23 (by decide) (fun c9 => ?_) (fun c9 => ?_)
      · replace w := ql_if w c9
        refine lv_iinc (v := (xl2 + (1 : Int32))) (lv' := [(2, .int (xl2 + (1 : Int32))), (0, .ref a0), (1, .int xl1), (3, .int xl3)]) C.1.1 C.1.2.1 dX12_pairs_49 hl (k := 2) rfl rfl (by decide) rfl (fun ls hl => ?_)
        refine lv_goto (tgt := 9) C.1.1 C.1.2.1 dX12_pairs_52 (by decide) ?_
        exact hk9 xl1 (xl2 + (1 : Int32)) _ _ _ _ S (lv_sub hl [1, 2, 0] rfl) w
      · replace w := ql_ifn w c9
        refine lv_iload_n C.1.1 C.1.2.1 dX12_pairs_26 rfl (lv_at hl 1 rfl) ?_
        refine ql_aload_n (r := (some a0)) C dX12_pairs_27 rfl (lv_at hl 0 rfl) ?_
        refine lv_iload_n C.1.1 C.1.2.1 dX12_pairs_28 rfl (lv_at hl 2 rfl) ?_
        refine lv_iload_n C.1.1 C.1.2.1 dX12_pairs_29 rfl (lv_at hl 3 rfl) ?_
        refine ql_VI (As := [.int xl2, .int xl3]) (rest := [.int xl1]) C S htab hlocks hl qy_X12_areAlike qi_X12_areAlike qs_X12_areAlike gw_1959 (ci := 13) rfl w (fun b w => qm_X12_areAlike l hl9 D _ b xl2 xl3 _ _ w) rfl ⟨Nat.le_of_ble_eq_true rfl, Nat.le_of_ble_eq_true rfl⟩ ⟨rfl, rfl⟩ (by exact Nat.le_of_ble_eq_true rfl) (fun b e9 => by cases e9; rfl) dX12_pairs_30 ⟨Nat.le_of_ble_eq_true rfl, Nat.le_of_ble_eq_true rfl⟩ ⟨Nat.le_of_ble_eq_true rfl, Nat.le_of_ble_eq_true rfl⟩ (fun x1 h H locs S w => ?_)
        refine W.cs (cells' := 0) (slots' := 0) rfl rfl ?_
        refine lv_if_eq (tgt := 40) C.1.1 C.1.2.1 dX12_pairs_33 (by decide) (fun c9 => ?_) (fun c9 => ?_)
        · replace w := ql_if w c9
          refine lv_iconst (v := (0 : Int32)) C.1.1 C.1.2.1 dX12_pairs_40 (by decide) ?_
          exact hB41 (qw_X12_pairs_21 a0 Q k9 n) ih xl2 xl3 xl1 (0 : Int32) _ _ _ _ S (lv_sub hl [0, 2, 3] rfl) w
        · replace w := ql_ifn w c9
          refine lv_iconst (v := (1 : Int32)) C.1.1 C.1.2.1 dX12_pairs_36 (by decide) ?_
          refine lv_goto (tgt := 41) C.1.1 C.1.2.1 dX12_pairs_37 (by decide) ?_
          exact hB41 (qw_X12_pairs_21 a0 Q k9 n) ih xl2 xl3 xl1 (1 : Int32) _ _ _ _ S (lv_sub hl [0, 2, 3] rfl) w
  have hB9 : ∀ n : Nat, ∀ (xl1 : Int32) (xl2 : Int32) (h : ql_H) (H : Heap) (locs : List Loc) (ls : Array Slot), ql_S D h0 s H locs h → lv_has ls 4 [(0, .ref a0), (1, .int xl1), (2, .int xl2)] → qw_X12_pairs_9 a0 Q n xl1 xl2 h → W p l e ({ frames := 10, cells := 0, slots := 0, locals := 167 } : Room) s m ([.ref a0] : List Value).toArray below meth c H locs 0 0 (vx_MQ below (ql_Q D h0 (ql_rI Q)) (ql_X D h0 X) ([.ref a0] : List Value).toArray s 0 0 (ql_A h0)) (F0 m 9 ls []) := by
    intro n
    induction n with
    | zero => intro xl1 xl2 h H locs ls S hl w; rw [qw_X12_pairs_9] at w; exact w.elim
    | succ n ih =>
      intro xl1 xl2 h H locs ls S hl w
      rw [qw_X12_pairs_9] at w
      refine lv_iload_n C.1.1 C.1.2.1 dX12_pairs_9 rfl (lv_at hl 2 rfl) ?_
      refine ql_aload_n (r := (some a0)) C dX12_pairs_10 rfl (lv_at hl 0 rfl) ?_
      refine ql_getR C S qf_13_0 gw_1668 dX12_pairs_11 w (fun r3 w => ?_)
      refine lv_iconst (v := (0 : Int32)) C.1.1 C.1.2.1 dX12_pairs_14 (by decide) ?_
      refine ql_iald C S dX12_pairs_15 w (fun x4 w => ?_)
      refine lv_icmp_ge (tgt := 55) C.1.1 C.1.2.1 dX12_pairs_16 (by decide) (fun c9 => ?_) (fun c9 => ?_)
      · replace w := ql_if w c9
        refine lv_iload_n C.1.1 C.1.2.1 dX12_pairs_55 rfl (lv_at hl 1 rfl) ?_
        exact ql_iret C S hr hlocks dX12_pairs_56 ⟨Nat.le_of_ble_eq_true rfl, Nat.le_of_ble_eq_true rfl⟩ w
      · replace w := ql_ifn w c9
        refine lv_iconst (v := (0 : Int32)) C.1.1 C.1.2.1 dX12_pairs_19 (by decide) ?_
        refine lv_istore_n (lv' := [(3, .int (0 : Int32)), (0, .ref a0), (1, .int xl1), (2, .int xl2)]) C.1.1 C.1.2.1 dX12_pairs_20 rfl hl (by decide) rfl (fun ls hl => ?_)
        exact hB21 (qw_X12_pairs_9 a0 Q n) ih ql_FU xl1 xl2 (0 : Int32) _ _ _ _ S (lv_sub hl [1, 2, 3, 0] rfl) w
  unfold qw_X12_pairs at w
  refine ql_aload_n (r := (some a0)) C dX12_pairs_0 rfl (lv_at hl 0 rfl) ?_
  refine lv_iconst (v := (0 : Int32)) C.1.1 C.1.2.1 dX12_pairs_1 (by decide) ?_
  refine ql_putV C S qf_13_7 gw_1675 (tyX12) tyX12_ok nmX12 rfl dX12_pairs_2 (v := .int (0 : Int32)) rfl rfl w (fun h H locs S w => ?_)
  refine lv_iconst (v := (0 : Int32)) C.1.1 C.1.2.1 dX12_pairs_5 (by decide) ?_
  refine lv_istore_n (lv' := [(1, .int (0 : Int32)), (0, .ref a0)]) C.1.1 C.1.2.1 dX12_pairs_6 rfl hl (by decide) rfl (fun ls hl => ?_)
  refine lv_iconst (v := (0 : Int32)) C.1.1 C.1.2.1 dX12_pairs_7 (by decide) ?_
  refine lv_istore_n (lv' := [(2, .int (0 : Int32)), (1, .int (0 : Int32)), (0, .ref a0)]) C.1.1 C.1.2.1 dX12_pairs_8 rfl hl (by decide) rfl (fun ls hl => ?_)
  exact hB9 ql_FU (0 : Int32) (0 : Int32) _ _ _ _ S (lv_sub hl [2, 1, 0] rfl) w
