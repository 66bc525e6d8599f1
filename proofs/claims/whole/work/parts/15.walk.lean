def qw_X12_duplicatePairs (a0 : Nat) (h : ql_H) (Q : Int32 → ql_H → Prop) : Prop :=
ql_rv h (some a0) 13 fun b1 => qw_X12_pairs b1  h (fun x1 h =>
Q x1 h)
set_option maxHeartbeats 4000000 in
set_option maxRecDepth 100000 in
theorem qm_X12_duplicatePairs (l : Launch) (hl9 : l.stackTraces = false) (D : ql_D) (h0 : ql_H) (a0 : Nat) (Q : Int32 → ql_H → Prop) (X : String → ql_H → Prop) (w : qw_X12_duplicatePairs a0 h0 Q) : ql_M D l yX12_duplicatePairs cX12_duplicatePairs 1 (some .int) ({ frames := 12, cells := 0, slots := 0, locals := 198 } : Room) h0 [.ref a0] (ql_rI Q) X 0 0 := by
  refine ql_ofW (by decide) (Nat.le_of_ble_eq_true rfl) ?_
  intro p e s m below meth c ls C hr hlocks hnm htab S hl
  have hl : lv_has ls 1 [(0, .ref a0)] := hl
  unfold qw_X12_duplicatePairs at w
  refine ql_aload_n (r := (some a0)) C dX12_duplicatePairs_0 rfl (lv_at hl 0 rfl) ?_
  refine ql_VI (As := []) (rest := []) C S htab hlocks hl qy_X12_pairs qi_X12_pairs qs_X12_pairs gw_1955 (ci := 13) rfl w (fun b w => qm_X12_pairs l hl9 D _ b _ _ w) rfl ⟨Nat.le_of_ble_eq_true rfl, Nat.le_of_ble_eq_true rfl⟩ ⟨rfl, rfl⟩ (by exact Nat.le_of_ble_eq_true rfl) (fun b e9 => by cases e9; rfl) dX12_duplicatePairs_1 ⟨Nat.le_of_ble_eq_true rfl, Nat.le_of_ble_eq_true rfl⟩ ⟨Nat.le_of_ble_eq_true rfl, Nat.le_of_ble_eq_true rfl⟩ (fun x1 h H locs S w => ?_)
  refine W.cs (cells' := 0) (slots' := 0) rfl rfl ?_
  exact ql_iret C S hr hlocks dX12_duplicatePairs_4 ⟨Nat.le_of_ble_eq_true rfl, Nat.le_of_ble_eq_true rfl⟩ w
def qw_X12_duplicatePairsByComparing (a0 : Nat) (h : ql_H) (Q : Int32 → ql_H → Prop) : Prop :=
ql_rv h (some a0) 13 fun b1 => qw_X12_pairs b1  h (fun x1 h =>
Q x1 h)
set_option maxHeartbeats 4000000 in
set_option maxRecDepth 100000 in
theorem qm_X12_duplicatePairsByComparing (l : Launch) (hl9 : l.stackTraces = false) (D : ql_D) (h0 : ql_H) (a0 : Nat) (Q : Int32 → ql_H → Prop) (X : String → ql_H → Prop) (w : qw_X12_duplicatePairsByComparing a0 h0 Q) : ql_M D l yX12_duplicatePairsByComparing cX12_duplicatePairsByComparing 1 (some .int) ({ frames := 12, cells := 0, slots := 0, locals := 198 } : Room) h0 [.ref a0] (ql_rI Q) X 0 0 := by
  refine ql_ofW (by decide) (Nat.le_of_ble_eq_true rfl) ?_
  intro p e s m below meth c ls C hr hlocks hnm htab S hl
  have hl : lv_has ls 1 [(0, .ref a0)] := hl
  unfold qw_X12_duplicatePairsByComparing at w
  refine ql_aload_n (r := (some a0)) C dX12_duplicatePairsByComparing_0 rfl (lv_at hl 0 rfl) ?_
  refine ql_VI (As := []) (rest := []) C S htab hlocks hl qy_X12_pairs qi_X12_pairs qs_X12_pairs gw_1955 (ci := 13) rfl w (fun b w => qm_X12_pairs l hl9 D _ b _ _ w) rfl ⟨Nat.le_of_ble_eq_true rfl, Nat.le_of_ble_eq_true rfl⟩ ⟨rfl, rfl⟩ (by exact Nat.le_of_ble_eq_true rfl) (fun b e9 => by cases e9; rfl) dX12_duplicatePairsByComparing_1 ⟨Nat.le_of_ble_eq_true rfl, Nat.le_of_ble_eq_true rfl⟩ ⟨Nat.le_of_ble_eq_true rfl, Nat.le_of_ble_eq_true rfl⟩ (fun x1 h H locs S w => ?_)
  refine W.cs (cells' := 0) (slots' := 0) rfl rfl ?_
  exact ql_iret C S hr hlocks dX12_duplicatePairsByComparing_4 ⟨Nat.le_of_ble_eq_true rfl, Nat.le_of_ble_eq_true rfl⟩ w
def qw_X12_citeCount (a0 : Nat) (xp1 : Int32) (h : ql_H) (Q : Int32 → ql_H → Prop) : Prop :=
ql_rv h (some a0) 13 fun b1 => qw_X12_isNone b1 xp1 h (fun x1 h =>
if x1 = 0 then (ql_rv h (some a0) 13 fun b3 => qw_X12_placeOf b3 xp1 h (fun x3 h =>
ql_rv h (some a0) 13 fun b5 => qw_X12_of b5 x3 (37 : Int32) h (fun x5 h =>
Q x5 h))) else (Q (0 : Int32) h))
set_option maxHeartbeats 4000000 in
set_option maxRecDepth 100000 in
theorem qm_X12_citeCount (l : Launch) (hl9 : l.stackTraces = false) (D : ql_D) (h0 : ql_H) (a0 : Nat) (xp1 : Int32) (Q : Int32 → ql_H → Prop) (X : String → ql_H → Prop) (w : qw_X12_citeCount a0 xp1 h0 Q) : ql_M D l yX12_citeCount cX12_citeCount 2 (some .int) ({ frames := 8, cells := 0, slots := 0, locals := 137 } : Room) h0 [.ref a0, .int xp1] (ql_rI Q) X 0 0 := by
  refine ql_ofW (by decide) (Nat.le_of_ble_eq_true rfl) ?_
  intro p e s m below meth c ls C hr hlocks hnm htab S hl
  have hl : lv_has ls 2 [(0, .ref a0), (1, .int xp1)] := hl
  unfold qw_X12_citeCount at w
  refine ql_aload_n (r := (some a0)) C dX12_citeCount_0 rfl (lv_at hl 0 rfl) ?_
  refine lv_iload_n C.1.1 C.1.2.1 dX12_citeCount_1 rfl (lv_at hl 1 rfl) ?_
  refine ql_VI (As := [.int xp1]) (rest := []) C S htab hlocks hl qy_X12_isNone qi_X12_isNone qs_X12_isNone gw_1872 (ci := 13) rfl w (fun b w => qm_X12_isNone l hl9 D _ b xp1 _ _ w) rfl ⟨Nat.le_of_ble_eq_true rfl, Nat.le_of_ble_eq_true rfl⟩ ⟨rfl, rfl⟩ (by exact Nat.le_of_ble_eq_true rfl) (fun b e9 => by cases e9; rfl) dX12_citeCount_2 ⟨Nat.le_of_ble_eq_true rfl, Nat.le_of_ble_eq_true rfl⟩ ⟨Nat.le_of_ble_eq_true rfl, Nat.le_of_ble_eq_true rfl⟩ (fun x1 h H locs S w => ?_)
  refine W.cs (cells' := 0) (slots' := 0) rfl rfl ?_
  refine lv_if_eq (tgt := 12) C.1.1 C.1.2.1 dX12_citeCount_5 (by decide) (fun c9 => ?_) (fun c9 => ?_)
  · replace w := ql_if w c9
    refine ql_aload_n (r := (some a0)) C dX12_citeCount_12 rfl (lv_at hl 0 rfl) ?_
    refine ql_aload_n (r := (some a0)) C dX12_citeCount_13 rfl (lv_at hl 0 rfl) ?_
    refine lv_iload_n C.1.1 C.1.2.1 dX12_citeCount_14 rfl (lv_at hl 1 rfl) ?_
    refine ql_VI (As := [.int xp1]) (rest := [.ref a0]) C S htab hlocks hl qy_X12_placeOf qi_X12_placeOf qs_X12_placeOf gw_1772 (ci := 13) rfl w (fun b w => qm_X12_placeOf l hl9 D _ b xp1 _ _ w) rfl ⟨Nat.le_of_ble_eq_true rfl, Nat.le_of_ble_eq_true rfl⟩ ⟨rfl, rfl⟩ (by exact Nat.le_of_ble_eq_true rfl) (fun b e9 => by cases e9; rfl) dX12_citeCount_15 ⟨Nat.le_of_ble_eq_true rfl, Nat.le_of_ble_eq_true rfl⟩ ⟨Nat.le_of_ble_eq_true rfl, Nat.le_of_ble_eq_true rfl⟩ (fun x3 h H locs S w => ?_)
    refine W.cs (cells' := 0) (slots' := 0) rfl rfl ?_
    refine lv_bipush (v := (37 : Int32)) C.1.1 C.1.2.1 dX12_citeCount_18 (by decide) ?_
    refine ql_VI (As := [.int x3, .int (37 : Int32)]) (rest := []) C S htab hlocks hl qy_X12_of qi_X12_of qs_X12_of gw_1745 (ci := 13) rfl w (fun b w => qm_X12_of l hl9 D _ b x3 (37 : Int32) _ _ w) rfl ⟨Nat.le_of_ble_eq_true rfl, Nat.le_of_ble_eq_true rfl⟩ ⟨rfl, rfl⟩ (by exact Nat.le_of_ble_eq_true rfl) (fun b e9 => by cases e9; rfl) dX12_citeCount_20 ⟨Nat.le_of_ble_eq_true rfl, Nat.le_of_ble_eq_true rfl⟩ ⟨Nat.le_of_ble_eq_true rfl, Nat.le_of_ble_eq_true rfl⟩ (fun x5 h H locs S w => ?_)
    refine W.cs (cells' := 0) (slots' := 0) rfl rfl ?_
    exact ql_iret C S hr hlocks dX12_citeCount_23 ⟨Nat.le_of_ble_eq_true rfl, Nat.le_of_ble_eq_true rfl⟩ w
  · replace w := ql_ifn w c9
    refine lv_iconst (v := (0 : Int32)) C.1.1 C.1.2.1 dX12_citeCount_8 (by decide) ?_
    refine lv_goto (tgt := 23) C.1.1 C.1.2.1 dX12_citeCount_9 (by decide) ?_
    exact ql_iret C S hr hlocks dX12_citeCount_23 ⟨Nat.le_of_ble_eq_true rfl, Nat.le_of_ble_eq_true rfl⟩ w
def qw_X12_citeAt_37 (a0 : Nat) (Q : Int32 → ql_H → Prop) (xl2 : Int32) (xl3 : Int32) (rs0 : Option Nat) (xs1 : Int32) (h : ql_H) : Prop :=
ql_rv h rs0 13 fun b1 => qw_X12_fails b1 xs1 h (fun x1 h =>
if x1 = 0 then (ql_rv h (some a0) 13 fun b3 => qw_X12_of b3 xl3 ((38 : Int32) + xl2) h (fun x3 h =>
Q x3 h)) else (Q (0 : Int32) h))
def qw_X12_citeAt (a0 : Nat) (xp1 : Int32) (xp2 : Int32) (h : ql_H) (Q : Int32 → ql_H → Prop) : Prop :=
ql_rv h (some a0) 13 fun b5 => qw_X12_placeOf b5 xp1 h (fun x5 h =>
if 0 ≤ x5 then (ql_rv h (some a0) 13 fun b7 => qw_X12_of b7 x5 (37 : Int32) h (fun x7 h =>
qw_X12_in xp2 (0 : Int32) (x7 - (1 : Int32)) h (fun x9 h =>
if x9 = 0 then (qw_X12_citeAt_37 a0 Q xp2 x5 (some a0) (2 : Int32) h) else (qw_X12_citeAt_37 a0 Q xp2 x5 (some a0) (0 : Int32) h)))) else (qw_X12_citeAt_37 a0 Q xp2 x5 (some a0) (1 : Int32) h))
set_option maxHeartbeats 4000000 in
set_option maxRecDepth 100000 in
theorem qm_X12_citeAt (l : Launch) (hl9 : l.stackTraces = false) (D : ql_D) (h0 : ql_H) (a0 : Nat) (xp1 : Int32) (xp2 : Int32) (Q : Int32 → ql_H → Prop) (X : String → ql_H → Prop) (w : qw_X12_citeAt a0 xp1 xp2 h0 Q) : ql_M D l yX12_citeAt cX12_citeAt 4 (some .int) ({ frames := 6, cells := 0, slots := 0, locals := 108 } : Room) h0 [.ref a0, .int xp1, .int xp2] (ql_rI Q) X 0 0 := by
  refine ql_ofW (by decide) (Nat.le_of_ble_eq_true rfl) ?_
  intro p e s m below meth c ls C hr hlocks hnm htab S hl
  have hl : lv_has ls 4 [(0, .ref a0), (1, .int xp1), (2, .int xp2)] := hl
  have hB37 : ∀ (xl2 : Int32) (xl3 : Int32) (rs0 : Option Nat) (xs1 : Int32) (h : ql_H) (H : Heap) (locs : List Loc) (ls : Array Slot), ql_S D h0 s H locs h → lv_has ls 4 [(0, .ref a0), (2, .int xl2), (3, .int xl3)] → qw_X12_citeAt_37 a0 Q xl2 xl3 rs0 xs1 h → W p l e ({ frames := 6, cells := 0, slots := 0, locals := 108 } : Room) s m ([.ref a0, .int xp1, .int xp2] : List Value).toArray below meth c H locs 0 0 (vx_MQ below (ql_Q D h0 (ql_rI Q)) (ql_X D h0 X) ([.ref a0, .int xp1, .int xp2] : List Value).toArray s 0 0 (ql_A h0)) (F0 m 37 ls [.int xs1, va_rf rs0]) := by
    intro xl2 xl3 rs0 xs1 h H locs ls S hl w
    unfold qw_X12_citeAt_37 at w
    refine ql_VI (As := [.int xs1]) (rest := []) C S htab hlocks hl qy_X12_fails qi_X12_fails qs_X12_fails gw_1749 (ci := 13) rfl w (fun b w => qm_X12_fails l hl9 D _ b xs1 _ _ w) rfl ⟨Nat.le_of_ble_eq_true rfl, Nat.le_of_ble_eq_true rfl⟩ ⟨rfl, rfl⟩ (by exact Nat.le_of_ble_eq_true rfl) (fun b e9 => by cases e9; rfl) dX12_citeAt_37 ⟨Nat.le_of_ble_eq_true rfl, Nat.le_of_ble_eq_true rfl⟩ ⟨Nat.le_of_ble_eq_true rfl, Nat.le_of_ble_eq_true rfl⟩ (fun x1 h H locs S w => ?_)
    refine W.cs (cells' := 0) (slots' := 0) rfl rfl ?_
    refine lv_if_eq (tgt := 47) C.1.1 C.1.2.1 dX12_citeAt_40 (by decide) (fun c9 => ?_) (fun c9 => ?_)
    · replace w := ql_if w c9
      refine ql_aload_n (r := (some a0)) C dX12_citeAt_47 rfl (lv_at hl 0 rfl) ?_
      refine lv_iload_n C.1.1 C.1.2.1 dX12_citeAt_48 rfl (lv_at hl 2 rfl) ?_
      refine lv_bipush (v := (38 : Int32)) C.1.1 C.1.2.1 dX12_citeAt_49 (by decide) ?_
      refine lv_iload_n C.1.1 C.1.2.1 dX12_citeAt_51 rfl (lv_at hl 1 rfl) ?_
      refine lv_iadd C.1.1 C.1.2.1 dX12_citeAt_52 ?_
      refine ql_VI (As := [.int xl3, .int ((38 : Int32) + xl2)]) (rest := []) C S htab hlocks hl qy_X12_of qi_X12_of qs_X12_of gw_1745 (ci := 13) rfl w (fun b w => qm_X12_of l hl9 D _ b xl3 ((38 : Int32) + xl2) _ _ w) rfl ⟨Nat.le_of_ble_eq_true rfl, Nat.le_of_ble_eq_true rfl⟩ ⟨rfl, rfl⟩ (by exact Nat.le_of_ble_eq_true rfl) (fun b e9 => by cases e9; rfl) dX12_citeAt_53 ⟨Nat.le_of_ble_eq_true rfl, Nat.le_of_ble_eq_true rfl⟩ ⟨Nat.le_of_ble_eq_true rfl, Nat.le_of_ble_eq_true rfl⟩ (fun x3 h H locs S w => ?_)
      refine W.cs (cells' := 0) (slots' := 0) rfl rfl ?_
      exact ql_iret C S hr hlocks dX12_citeAt_56 ⟨Nat.le_of_ble_eq_true rfl, Nat.le_of_ble_eq_true rfl⟩ w
    · replace w := ql_ifn w c9
      refine lv_iconst (v := (0 : Int32)) C.1.1 C.1.2.1 dX12_citeAt_43 (by decide) ?_
      refine lv_goto (tgt := 56) C.1.1 C.1.2.1 dX12_citeAt_44 (by decide) ?_
      exact ql_iret C S hr hlocks dX12_citeAt_56 ⟨Nat.le_of_ble_eq_true rfl, Nat.le_of_ble_eq_true rfl⟩ w
  unfold qw_X12_citeAt at w
  refine ql_aload_n (r := (some a0)) C dX12_citeAt_0 rfl (lv_at hl 0 rfl) ?_
  refine lv_iload_n C.1.1 C.1.2.1 dX12_citeAt_1 rfl (lv_at hl 1 rfl) ?_
  refine ql_VI (As := [.int xp1]) (rest := []) C S htab hlocks hl qy_X12_placeOf qi_X12_placeOf qs_X12_placeOf gw_1772 (ci := 13) rfl w (fun b w => qm_X12_placeOf l hl9 D _ b xp1 _ _ w) rfl ⟨Nat.le_of_ble_eq_true rfl, Nat.le_of_ble_eq_true rfl⟩ ⟨rfl, rfl⟩ (by exact Nat.le_of_ble_eq_true rfl) (fun b e9 => by cases e9; rfl) dX12_citeAt_2 ⟨Nat.le_of_ble_eq_true rfl, Nat.le_of_ble_eq_true rfl⟩ ⟨Nat.le_of_ble_eq_true rfl, Nat.le_of_ble_eq_true rfl⟩ (fun x5 h H locs S w => ?_)
  refine W.cs (cells' := 0) (slots' := 0) rfl rfl ?_
  refine lv_istore_n (lv' := [(3, .int x5), (0, .ref a0), (1, .int xp1), (2, .int xp2)]) C.1.1 C.1.2.1 dX12_citeAt_5 rfl hl (by decide) rfl (fun ls hl => ?_)
  refine ql_aload_n (r := (some a0)) C dX12_citeAt_6 rfl (lv_at hl 1 rfl) ?_
  refine lv_iload_n C.1.1 C.1.2.1 dX12_citeAt_7 rfl (lv_at hl 0 rfl) ?_
  refine lv_if_ge (tgt := 15) C.1.1 C.1.2.1 dX12_citeAt_8 (by decide) (fun c9 => ?_) (fun c9 => ?_)
  · replace w := ql_if w c9
    refine lv_iload_n C.1.1 C.1.2.1 dX12_citeAt_15 rfl (lv_at hl 3 rfl) ?_
    refine lv_iconst (v := (0 : Int32)) C.1.1 C.1.2.1 dX12_citeAt_16 (by decide) ?_
    refine ql_aload_n (r := (some a0)) C dX12_citeAt_17 rfl (lv_at hl 1 rfl) ?_
    refine lv_iload_n C.1.1 C.1.2.1 dX12_citeAt_18 rfl (lv_at hl 0 rfl) ?_
    refine lv_bipush (v := (37 : Int32)) C.1.1 C.1.2.1 dX12_citeAt_19 (by decide) ?_
    refine ql_VI (As := [.int x5, .int (37 : Int32)]) (rest := [.int (0 : Int32), .int xp2, .ref a0]) C S htab hlocks hl qy_X12_of qi_X12_of qs_X12_of gw_1745 (ci := 13) rfl w (fun b w => qm_X12_of l hl9 D _ b x5 (37 : Int32) _ _ w) rfl ⟨Nat.le_of_ble_eq_true rfl, Nat.le_of_ble_eq_true rfl⟩ ⟨rfl, rfl⟩ (by exact Nat.le_of_ble_eq_true rfl) (fun b e9 => by cases e9; rfl) dX12_citeAt_21 ⟨Nat.le_of_ble_eq_true rfl, Nat.le_of_ble_eq_true rfl⟩ ⟨Nat.le_of_ble_eq_true rfl, Nat.le_of_ble_eq_true rfl⟩ (fun x7 h H locs S w => ?_)
    refine W.cs (cells' := 0) (slots' := 0) rfl rfl ?_
    refine lv_iconst (v := (1 : Int32)) C.1.1 C.1.2.1 dX12_citeAt_24 (by decide) ?_
    refine lv_isub C.1.1 C.1.2.1 dX12_citeAt_25 ?_
    refine ql_SI (As := [.int xp2, .int (0 : Int32), .int (x7 - (1 : Int32))]) (rest := [.ref a0]) C S htab hlocks hl qy_X12_in qi_X12_in gw_1735 (qm_X12_in l hl9 D _ xp2 (0 : Int32) (x7 - (1 : Int32)) _ _ w) rfl ⟨Nat.le_of_ble_eq_true rfl, Nat.le_of_ble_eq_true rfl⟩ ⟨rfl, rfl⟩ (by exact Nat.le_of_ble_eq_true rfl) rfl dX12_citeAt_26 ⟨Nat.le_of_ble_eq_true rfl, Nat.le_of_ble_eq_true rfl⟩ ⟨Nat.le_of_ble_eq_true rfl, Nat.le_of_ble_eq_true rfl⟩ (fun x9 h H locs S w => ?_)
    refine W.cs (cells' := 0) (slots' := 0) rfl rfl ?_
    refine lv_if_eq (tgt := 36) C.1.1 C.1.2.1 dX12_citeAt_29 (by decide) (fun c9 => ?_) (fun c9 => ?_)
    · replace w := ql_if w c9
      refine lv_iconst (v := (2 : Int32)) C.1.1 C.1.2.1 dX12_citeAt_36 (by decide) ?_
      exact hB37 xp2 x5 (some a0) (2 : Int32) _ _ _ _ S (lv_sub hl [1, 3, 0] rfl) w
    · replace w := ql_ifn w c9
      refine lv_iconst (v := (0 : Int32)) C.1.1 C.1.2.1 dX12_citeAt_32 (by decide) ?_
      refine lv_goto (tgt := 37) C.1.1 C.1.2.1 dX12_citeAt_33 (by decide) ?_
      exact hB37 xp2 x5 (some a0) (0 : Int32) _ _ _ _ S (lv_sub hl [1, 3, 0] rfl) w
  · replace w := ql_ifn w c9
    refine lv_iconst (v := (1 : Int32)) C.1.1 C.1.2.1 dX12_citeAt_11 (by decide) ?_
    refine lv_goto (tgt := 37) C.1.1 C.1.2.1 dX12_citeAt_12 (by decide) ?_
    exact hB37 xp2 x5 (some a0) (1 : Int32) _ _ _ _ S (lv_sub hl [1, 3, 0] rfl) w
def qw_X12_brokenCites_73 (a0 : Nat) (Q : Int32 → ql_H → Prop) (k21 : Int32 → Int32 → Int32 → ql_H → Prop) (xl2 : Int32) (xl3 : Int32) (xs0 : Int32) (xs1 : Int32) (h : ql_H) : Prop :=
k21 (xs0 + xs1) xl2 (xl3 + (1 : Int32)) h
def qw_X12_brokenCites_68 (a0 : Nat) (Q : Int32 → ql_H → Prop) (k21 : Int32 → Int32 → Int32 → ql_H → Prop) (xl2 : Int32) (xl3 : Int32) (xs0 : Int32) (h : ql_H) : Prop :=
qw_X12_brokenCites_73 a0 Q k21 xl2 xl3 xs0 (1 : Int32) h
def qw_X12_brokenCites_21 (a0 : Nat) (Q : Int32 → ql_H → Prop) (k9 : Int32 → Int32 → ql_H → Prop) : Nat → Int32 → Int32 → Int32 → ql_H → Prop
  | 0, _, _, _, _ => False
  | n + 1, xl1, xl2, xl3, h =>
    ql_rv h (some a0) 13 fun b1 => qw_X12_of b1 xl2 (37 : Int32) h (fun x1 h =>
    if x1 ≤ xl3 then (k9 xl1 (xl2 + (1 : Int32)) h) else (ql_rv h (some a0) 13 fun b3 => qw_X12_of b3 xl2 ((38 : Int32) + xl3) h (fun x3 h =>
    ql_rv h (some a0) 13 fun b5 => qw_X12_placeOf b5 x3 h (fun x5 h =>
    if x5 < 0 then (qw_X12_brokenCites_68 a0 Q (qw_X12_brokenCites_21 a0 Q k9 n) xl2 xl3 xl1 h) else (ql_gR h (some a0) 13 0 fun r7 =>
    ql_lI h r7 0 (2 : Int32) fun x8 =>
    ql_rv h (some a0) 13 fun b9 => qw_X12_isValid b9 x5 x8 h (fun x9 h =>
    if x9 = 0 then (qw_X12_brokenCites_68 a0 Q (qw_X12_brokenCites_21 a0 Q k9 n) xl2 xl3 xl1 h) else (qw_X12_brokenCites_73 a0 Q (qw_X12_brokenCites_21 a0 Q k9 n) xl2 xl3 xl1 (0 : Int32) h)))))))
def qw_X12_brokenCites_9 (a0 : Nat) (Q : Int32 → ql_H → Prop) : Nat → Int32 → Int32 → ql_H → Prop
  | 0, _, _, _ => False
  | n + 1, xl1, xl2, h =>
    ql_gR h (some a0) 13 0 fun r11 =>
    ql_lI h r11 0 (0 : Int32) fun x12 =>
    if x12 ≤ xl2 then (Q xl1 h) else (qw_X12_brokenCites_21 a0 Q (qw_X12_brokenCites_9 a0 Q n) ql_FU xl1 xl2 (0 : Int32) h)
def qw_X12_brokenCites (a0 : Nat) (h : ql_H) (Q : Int32 → ql_H → Prop) : Prop :=
ql_pV h (some a0) 13 7 (.int (0 : Int32)) fun h =>
qw_X12_brokenCites_9 a0 Q ql_FU (0 : Int32) (0 : Int32) h
set_option maxHeartbeats 4000000 in
set_option maxRecDepth 100000 in
theorem qm_X12_brokenCites (l : Launch) (hl9 : l.stackTraces = false) (D : ql_D) (h0 : ql_H) (a0 : Nat) (Q : Int32 → ql_H → Prop) (X : String → ql_H → Prop) (w : qw_X12_brokenCites a0 h0 Q) : ql_M D l yX12_brokenCites cX12_brokenCites 5 (some .int) ({ frames := 6, cells := 0, slots := 0, locals := 108 } : Room) h0 [.ref a0] (ql_rI Q) X 0 0 := by
  refine ql_ofW (by decide) (Nat.le_of_ble_eq_true rfl) ?_
  intro p e s m below meth c ls C hr hlocks hnm htab S hl
  have hl : lv_has ls 5 [(0, .ref a0)] := hl
  have hB73 : ∀ (k21 : Int32 → Int32 → Int32 → ql_H → Prop) (hk21 : ∀ (xl1 : Int32) (xl2 : Int32) (xl3 : Int32) (h : ql_H) (H : Heap) (locs : List Loc) (ls : Array Slot), ql_S D h0 s H locs h → lv_has ls 5 [(0, .ref a0), (1, .int xl1), (2, .int xl2), (3, .int xl3)] → k21 xl1 xl2 xl3 h → W p l e ({ frames := 6, cells := 0, slots := 0, locals := 108 } : Room) s m ([.ref a0] : List Value).toArray below meth c H locs 0 0 (vx_MQ below (ql_Q D h0 (ql_rI Q)) (ql_X D h0 X) ([.ref a0] : List Value).toArray s 0 0 (ql_A h0)) (F0 m 21 ls [])) , ∀ (xl2 : Int32) (xl3 : Int32) (xs0 : Int32) (xs1 : Int32) (h : ql_H) (H : Heap) (locs : List Loc) (ls : Array Slot), ql_S D h0 s H locs h → lv_has ls 5 [(0, .ref a0), (2, .int xl2), (3, .int xl3)] → qw_X12_brokenCites_73 a0 Q k21 xl2 xl3 xs0 xs1 h → W p l e ({ frames := 6, cells := 0, slots := 0, locals := 108 } : Room) s m ([.ref a0] : List Value).toArray below meth c H locs 0 0 (vx_MQ below (ql_Q D h0 (ql_rI Q)) (ql_X D h0 X) ([.ref a0] : List Value).toArray s 0 0 (ql_A h0)) (F0 m 73 ls [.int xs1, .int xs0]) := by
    intro k21 hk21 xl2 xl3 xs0 xs1 h H locs ls S hl w
    unfold qw_X12_brokenCites_73 at w
    refine lv_iadd C.1.1 C.1.2.1 dX12_brokenCites_73 ?_
    refine lv_istore_n (lv' := [(1, .int (xs0 + xs1)), (0, .ref a0), (2, .int xl2), (3, .int xl3)]) C.1.1 C.1.2.1 dX12_brokenCites_74 rfl hl (by decide) rfl (fun ls hl => ?_)
    refine lv_iinc (v := (xl3 + (1 : Int32))) (lv' := [(3, .int (xl3 + (1 : Int32))), (1, .int (xs0 + xs1)), (0, .ref a0), (2, .int xl2)]) C.1.1 C.1.2.1 dX12_brokenCites_75 hl (k := 3) rfl rfl (by decide) rfl (fun ls hl => ?_)
    refine lv_goto (tgt := 21) C.1.1 C.1.2.1 dX12_brokenCites_78 (by decide) ?_
    exact hk21 (xs0 + xs1) xl2 (xl3 + (1 : Int32)) _ _ _ _ S (lv_sub hl [2, 1, 3, 0] rfl) w
  have hB68 : ∀ (k21 : Int32 → Int32 → Int32 → ql_H → Prop) (hk21 : ∀ (xl1 : Int32) (xl2 : Int32) (xl3 : Int32) (h : ql_H) (H : Heap) (locs : List Loc) (ls : Array Slot), ql_S D h0 s H locs h → lv_has ls 5 [(0, .ref a0), (1, .int xl1), (2, .int xl2), (3, .int xl3)] → k21 xl1 xl2 xl3 h → W p l e ({ frames := 6, cells := 0, slots := 0, locals := 108 } : Room) s m ([.ref a0] : List Value).toArray below meth c H locs 0 0 (vx_MQ below (ql_Q D h0 (ql_rI Q)) (ql_X D h0 X) ([.ref a0] : List Value).toArray s 0 0 (ql_A h0)) (F0 m 21 ls [])) , ∀ (xl2 : Int32) (xl3 : Int32) (xs0 : Int32) (h : ql_H) (H : Heap) (locs : List Loc) (ls : Array Slot), ql_S D h0 s H locs h → lv_has ls 5 [(0, .ref a0), (2, .int xl2), (3, .int xl3)] → qw_X12_brokenCites_68 a0 Q k21 xl2 xl3 xs0 h → W p l e ({ frames := 6, cells := 0, slots := 0, locals := 108 } : Room) s m ([.ref a0] : List Value).toArray below meth c H locs 0 0 (vx_MQ below (ql_Q D h0 (ql_rI Q)) (ql_X D h0 X) ([.ref a0] : List Value).toArray s 0 0 (ql_A h0)) (F0 m 68 ls [.int xs0]) := by
    intro k21 hk21 xl2 xl3 xs0 h H locs ls S hl w
    unfold qw_X12_brokenCites_68 at w
    refine lv_iconst (v := (1 : Int32)) C.1.1 C.1.2.1 dX12_brokenCites_68 (by decide) ?_
    refine lv_goto (tgt := 73) C.1.1 C.1.2.1 dX12_brokenCites_69 (by decide) ?_
    exact hB73 k21 hk21 xl2 xl3 xs0 (1 : Int32) _ _ _ _ S (lv_sub hl [0, 1, 2] rfl) w
  have hB21 : ∀ (k9 : Int32 → Int32 → ql_H → Prop) (hk9 : ∀ (xl1 : Int32) (xl2 : Int32) (h : ql_H) (H : Heap) (locs : List Loc) (ls : Array Slot), ql_S D h0 s H locs h → lv_has ls 5 [(0, .ref a0), (1, .int xl1), (2, .int xl2)] → k9 xl1 xl2 h → W p l e ({ frames := 6, cells := 0, slots := 0, locals := 108 } : Room) s m ([.ref a0] : List Value).toArray below meth c H locs 0 0 (vx_MQ below (ql_Q D h0 (ql_rI Q)) (ql_X D h0 X) ([.ref a0] : List Value).toArray s 0 0 (ql_A h0)) (F0 m 9 ls [])) , ∀ n : Nat, ∀ (xl1 : Int32) (xl2 : Int32) (xl3 : Int32) (h : ql_H) (H : Heap) (locs : List Loc) (ls : Array Slot), ql_S D h0 s H locs h → lv_has ls 5 [(0, .ref a0), (1, .int xl1), (2, .int xl2), (3, .int xl3)] → qw_X12_brokenCites_21 a0 Q k9 n xl1 xl2 xl3 h → W p l e ({ frames := 6, cells := 0, slots := 0, locals := 108 } : Room) s m ([.ref a0] : List Value).toArray below meth c H locs 0 0 (vx_MQ below (ql_Q D h0 (ql_rI Q)) (ql_X D h0 X) ([.ref a0] : List Value).toArray s 0 0 (ql_A h0)) (F0 m 21 ls []) := by
    intro k9 hk9 n
    induction n with
    | zero => intro xl1 xl2 xl3 h H locs ls S hl w; rw [qw_X12_brokenCites_21] at w; exact w.elim
    | succ n ih =>
      intro xl1 xl2 xl3 h H locs ls S hl w
      rw [qw_X12_brokenCites_21] at w
      refine lv_iload_n C.1.1 C.1.2.1 dX12_brokenCites_21 rfl (lv_at hl 3 rfl) ?_
      refine ql_aload_n (r := (some a0)) C dX12_brokenCites_22 rfl (lv_at hl 0 rfl) ?_
      refine lv_iload_n C.1.1 C.1.2.1 dX12_brokenCites_23 rfl (lv_at hl 2 rfl) ?_
      refine lv_bipush (v := (37 : Int32)) C.1.1 C.1.2.1 dX12_brokenCites_24 (by decide) ?_
      refine ql_VI (As := [.int xl2, .int (37 : Int32)]) (rest := [.int xl3]) C S htab hlocks hl qy_X12_of qi_X12_of qs_X12_of gw_1745 (ci := 13) rfl w (fun b w => qm_X12_of l hl9 D _ b xl2 (37 : Int32) _ _ w) rfl ⟨Nat.le_of_ble_eq_true rfl, Nat.le_of_ble_eq_true rfl⟩ ⟨rfl, rfl⟩ (by exact Nat.le_of_ble_eq_true rfl) (fun b e9 => by cases e9; rfl) dX12_brokenCites_26 ⟨Nat.le_of_ble_eq_true rfl, Nat.le_of_ble_eq_true rfl⟩ ⟨Nat.le_of_ble_eq_true rfl, Nat.le_of_ble_eq_true rfl⟩ (fun x1 h H locs S w => ?_)
      refine W.cs (cells' := 0) (slots' := 0) rfl rfl ?_
      refine lv_icmp_ge (tgt := 81) C.1.1 C.1.2.1 dX12_brokenCites_29 (by decide) (fun c9 => ?_) (fun c9 => ?_)
      · replace w := ql_if w c9
        refine lv_iinc (v := (xl2 + (1 : Int32))) (lv' := [(2, .int (xl2 + (1 : Int32))), (0, .ref a0), (1, .int xl1), (3, .int xl3)]) C.1.1 C.1.2.1 dX12_brokenCites_81 hl (k := 2) rfl rfl (by decide) rfl (fun ls hl => ?_)
        refine lv_goto (tgt := 9) C.1.1 C.1.2.1 dX12_brokenCites_84 (by decide) ?_
        exact hk9 xl1 (xl2 + (1 : Int32)) _ _ _ _ S (lv_sub hl [1, 2, 0] rfl) w
      · replace w := ql_ifn w c9
        refine ql_aload_n (r := (some a0)) C dX12_brokenCites_32 rfl (lv_at hl 0 rfl) ?_
        refine ql_aload_n (r := (some a0)) C dX12_brokenCites_33 rfl (lv_at hl 0 rfl) ?_
        refine lv_iload_n C.1.1 C.1.2.1 dX12_brokenCites_34 rfl (lv_at hl 2 rfl) ?_
        refine lv_bipush (v := (38 : Int32)) C.1.1 C.1.2.1 dX12_brokenCites_35 (by decide) ?_
        refine lv_iload_n C.1.1 C.1.2.1 dX12_brokenCites_37 rfl (lv_at hl 3 rfl) ?_
        refine lv_iadd C.1.1 C.1.2.1 dX12_brokenCites_38 ?_
        refine ql_VI (As := [.int xl2, .int ((38 : Int32) + xl3)]) (rest := [.ref a0]) C S htab hlocks hl qy_X12_of qi_X12_of qs_X12_of gw_1745 (ci := 13) rfl w (fun b w => qm_X12_of l hl9 D _ b xl2 ((38 : Int32) + xl3) _ _ w) rfl ⟨Nat.le_of_ble_eq_true rfl, Nat.le_of_ble_eq_true rfl⟩ ⟨rfl, rfl⟩ (by exact Nat.le_of_ble_eq_true rfl) (fun b e9 => by cases e9; rfl) dX12_brokenCites_39 ⟨Nat.le_of_ble_eq_true rfl, Nat.le_of_ble_eq_true rfl⟩ ⟨Nat.le_of_ble_eq_true rfl, Nat.le_of_ble_eq_true rfl⟩ (fun x3 h H locs S w => ?_)
        refine W.cs (cells' := 0) (slots' := 0) rfl rfl ?_
        refine ql_VI (As := [.int x3]) (rest := []) C S htab hlocks hl qy_X12_placeOf qi_X12_placeOf qs_X12_placeOf gw_1772 (ci := 13) rfl w (fun b w => qm_X12_placeOf l hl9 D _ b x3 _ _ w) rfl ⟨Nat.le_of_ble_eq_true rfl, Nat.le_of_ble_eq_true rfl⟩ ⟨rfl, rfl⟩ (by exact Nat.le_of_ble_eq_true rfl) (fun b e9 => by cases e9; rfl) dX12_brokenCites_42 ⟨Nat.le_of_ble_eq_true rfl, Nat.le_of_ble_eq_true rfl⟩ ⟨Nat.le_of_ble_eq_true rfl, Nat.le_of_ble_eq_true rfl⟩ (fun x5 h H locs S w => ?_)
        refine W.cs (cells' := 0) (slots' := 0) rfl rfl ?_
        refine lv_istore (lv' := [(4, .int x5), (0, .ref a0), (1, .int xl1), (2, .int xl2), (3, .int xl3)]) C.1.1 C.1.2.1 dX12_brokenCites_45 hl (by decide) rfl (fun ls hl => ?_)
        refine lv_iload_n C.1.1 C.1.2.1 dX12_brokenCites_47 rfl (lv_at hl 2 rfl) ?_
        refine lv_iload C.1.1 C.1.2.1 dX12_brokenCites_48 (lv_at hl 0 rfl) ?_
        refine lv_if_lt (tgt := 68) C.1.1 C.1.2.1 dX12_brokenCites_50 (by decide) (fun c9 => ?_) (fun c9 => ?_)
        · replace w := ql_if w c9
          exact hB68 (qw_X12_brokenCites_21 a0 Q k9 n) ih xl2 xl3 xl1 _ _ _ _ S (lv_sub hl [1, 3, 4] rfl) w
        · replace w := ql_ifn w c9
          refine ql_aload_n (r := (some a0)) C dX12_brokenCites_53 rfl (lv_at hl 1 rfl) ?_
          refine lv_iload C.1.1 C.1.2.1 dX12_brokenCites_54 (lv_at hl 0 rfl) ?_
          refine ql_aload_n (r := (some a0)) C dX12_brokenCites_56 rfl (lv_at hl 1 rfl) ?_
          refine ql_getR C S qf_13_0 gw_1668 dX12_brokenCites_57 w (fun r7 w => ?_)
          refine lv_iconst (v := (2 : Int32)) C.1.1 C.1.2.1 dX12_brokenCites_60 (by decide) ?_
          refine ql_iald C S dX12_brokenCites_61 w (fun x8 w => ?_)
          refine ql_VI (As := [.int x5, .int x8]) (rest := [.int xl1]) C S htab hlocks hl qy_X12_isValid qi_X12_isValid qs_X12_isValid gw_1788 (ci := 13) rfl w (fun b w => qm_X12_isValid l hl9 D _ b x5 x8 _ _ w) rfl ⟨Nat.le_of_ble_eq_true rfl, Nat.le_of_ble_eq_true rfl⟩ ⟨rfl, rfl⟩ (by exact Nat.le_of_ble_eq_true rfl) (fun b e9 => by cases e9; rfl) dX12_brokenCites_62 ⟨Nat.le_of_ble_eq_true rfl, Nat.le_of_ble_eq_true rfl⟩ ⟨Nat.le_of_ble_eq_true rfl, Nat.le_of_ble_eq_true rfl⟩ (fun x9 h H locs S w => ?_)
          refine W.cs (cells' := 0) (slots' := 0) rfl rfl ?_
          refine lv_if_ne (tgt := 72) C.1.1 C.1.2.1 dX12_brokenCites_65 (by decide) (fun c9 => ?_) (fun c9 => ?_)
          · replace w := ql_ifn w c9
            refine lv_iconst (v := (0 : Int32)) C.1.1 C.1.2.1 dX12_brokenCites_72 (by decide) ?_
            exact hB73 (qw_X12_brokenCites_21 a0 Q k9 n) ih xl2 xl3 xl1 (0 : Int32) _ _ _ _ S (lv_sub hl [1, 3, 4] rfl) w
          · replace w := ql_if w c9
            exact hB68 (qw_X12_brokenCites_21 a0 Q k9 n) ih xl2 xl3 xl1 _ _ _ _ S (lv_sub hl [1, 3, 4] rfl) w
  have hB9 : ∀ n : Nat, ∀ (xl1 : Int32) (xl2 : Int32) (h : ql_H) (H : Heap) (locs : List Loc) (ls : Array Slot), ql_S D h0 s H locs h → lv_has ls 5 [(0, .ref a0), (1, .int xl1), (2, .int xl2)] → qw_X12_brokenCites_9 a0 Q n xl1 xl2 h → W p l e ({ frames := 6, cells := 0, slots := 0, locals := 108 } : Room) s m ([.ref a0] : List Value).toArray below meth c H locs 0 0 (vx_MQ below (ql_Q D h0 (ql_rI Q)) (ql_X D h0 X) ([.ref a0] : List Value).toArray s 0 0 (ql_A h0)) (F0 m 9 ls []) := by
    intro n
    induction n with
    | zero => intro xl1 xl2 h H locs ls S hl w; rw [qw_X12_brokenCites_9] at w; exact w.elim
    | succ n ih =>
      intro xl1 xl2 h H locs ls S hl w
      rw [qw_X12_brokenCites_9] at w
      refine lv_iload_n C.1.1 C.1.2.1 dX12_brokenCites_9 rfl (lv_at hl 2 rfl) ?_
      refine ql_aload_n (r := (some a0)) C dX12_brokenCites_10 rfl (lv_at hl 0 rfl) ?_
      refine ql_getR C S qf_13_0 gw_1668 dX12_brokenCites_11 w (fun r11 w => ?_)
      refine lv_iconst (v := (0 : Int32)) C.1.1 C.1.2.1 dX12_brokenCites_14 (by decide) ?_
      refine ql_iald C S dX12_brokenCites_15 w (fun x12 w => ?_)
      refine lv_icmp_ge (tgt := 87) C.1.1 C.1.2.1 dX12_brokenCites_16 (by decide) (fun c9 => ?_) (fun c9 => ?_)
      · replace w := ql_if w c9
        refine lv_iload_n C.1.1 C.1.2.1 dX12_brokenCites_87 rfl (lv_at hl 1 rfl) ?_
        exact ql_iret C S hr hlocks dX12_brokenCites_88 ⟨Nat.le_of_ble_eq_true rfl, Nat.le_of_ble_eq_true rfl⟩ w
      · replace w := ql_ifn w c9
        refine lv_iconst (v := (0 : Int32)) C.1.1 C.1.2.1 dX12_brokenCites_19 (by decide) ?_
        refine lv_istore_n (lv' := [(3, .int (0 : Int32)), (0, .ref a0), (1, .int xl1), (2, .int xl2)]) C.1.1 C.1.2.1 dX12_brokenCites_20 rfl hl (by decide) rfl (fun ls hl => ?_)
        exact hB21 (qw_X12_brokenCites_9 a0 Q n) ih ql_FU xl1 xl2 (0 : Int32) _ _ _ _ S (lv_sub hl [1, 2, 3, 0] rfl) w
  unfold qw_X12_brokenCites at w
  refine ql_aload_n (r := (some a0)) C dX12_brokenCites_0 rfl (lv_at hl 0 rfl) ?_
  refine lv_iconst (v := (0 : Int32)) C.1.1 C.1.2.1 dX12_brokenCites_1 (by decide) ?_
  refine ql_putV C S qf_13_7 gw_1675 (tyX12) tyX12_ok nmX12 rfl dX12_brokenCites_2 (v := .int (0 : Int32)) rfl rfl w (fun h H locs S w => ?_)
  refine lv_iconst (v := (0 : Int32)) C.1.1 C.1.2.1 dX12_brokenCites_5 (by decide) ?_
  refine lv_istore_n (lv' := [(1, .int (0 : Int32)), (0, .ref a0)]) C.1.1 C.1.2.1 dX12_brokenCites_6 rfl hl (by decide) rfl (fun ls hl => ?_)
  refine lv_iconst (v := (0 : Int32)) C.1.1 C.1.2.1 dX12_brokenCites_7 (by decide) ?_
  refine lv_istore_n (lv' := [(2, .int (0 : Int32)), (1, .int (0 : Int32)), (0, .ref a0)]) C.1.1 C.1.2.1 dX12_brokenCites_8 rfl hl (by decide) rfl (fun ls hl => ?_)
  exact hB9 ql_FU (0 : Int32) (0 : Int32) _ _ _ _ S (lv_sub hl [2, 1, 0] rfl) w
def qw_X12_straight_49 (a0 : Nat) (Q : Int32 → ql_H → Prop) (k4 : Int32 → Int32 → Int32 → ql_H → Prop) (xl1 : Int32) (xl2 : Int32) (xl3 : Int32) (h : ql_H) : Prop :=
k4 xl1 xl2 (xl3 + (1 : Int32)) h
def qw_X12_straight_4 (a0 : Nat) (Q : Int32 → ql_H → Prop) : Nat → Int32 → Int32 → Int32 → ql_H → Prop
  | 0, _, _, _, _ => False
  | n + 1, xl1, xl2, xl3, h =>
    ql_rv h (some a0) 13 fun b1 => qw_X12_of b1 xl1 (37 : Int32) h (fun x1 h =>
    if x1 ≤ xl3 then (Q xl2 h) else (ql_rv h (some a0) 13 fun b3 => qw_X12_of b3 xl1 ((38 : Int32) + xl3) h (fun x3 h =>
    ql_rv h (some a0) 13 fun b5 => qw_X12_placeOf b5 x3 h (fun x5 h =>
    if x5 < 0 then (qw_X12_straight_49 a0 Q (qw_X12_straight_4 a0 Q n) xl1 xl2 xl3 h) else (ql_rv h (some a0) 13 fun b7 => qw_X12_of b7 xl1 ((38 : Int32) + xl3) h (fun x7 h =>
    ql_rv h (some a0) 13 fun b9 => qw_X12_placeOf b9 x7 h (fun x9 h =>
    qw_X12_straight_49 a0 Q (qw_X12_straight_4 a0 Q n) xl1 (xl2 ||| ((1 : Int32) <<< (x9 &&& 31))) xl3 h)))))))
def qw_X12_straight (a0 : Nat) (xp1 : Int32) (h : ql_H) (Q : Int32 → ql_H → Prop) : Prop :=
qw_X12_straight_4 a0 Q ql_FU xp1 (0 : Int32) (0 : Int32) h
set_option maxHeartbeats 4000000 in
set_option maxRecDepth 100000 in
theorem qm_X12_straight (l : Launch) (hl9 : l.stackTraces = false) (D : ql_D) (h0 : ql_H) (a0 : Nat) (xp1 : Int32) (Q : Int32 → ql_H → Prop) (X : String → ql_H → Prop) (w : qw_X12_straight a0 xp1 h0 Q) : ql_M D l yX12_straight cX12_straight 4 (some .int) ({ frames := 6, cells := 0, slots := 0, locals := 108 } : Room) h0 [.ref a0, .int xp1] (ql_rI Q) X 0 0 := by
  refine ql_ofW (by decide) (Nat.le_of_ble_eq_true rfl) ?_
  intro p e s m below meth c ls C hr hlocks hnm htab S hl
  have hl : lv_has ls 4 [(0, .ref a0), (1, .int xp1)] := hl
  have hB49 : ∀ (k4 : Int32 → Int32 → Int32 → ql_H → Prop) (hk4 : ∀ (xl1 : Int32) (xl2 : Int32) (xl3 : Int32) (h : ql_H) (H : Heap) (locs : List Loc) (ls : Array Slot), ql_S D h0 s H locs h → lv_has ls 4 [(0, .ref a0), (1, .int xl1), (2, .int xl2), (3, .int xl3)] → k4 xl1 xl2 xl3 h → W p l e ({ frames := 6, cells := 0, slots := 0, locals := 108 } : Room) s m ([.ref a0, .int xp1] : List Value).toArray below meth c H locs 0 0 (vx_MQ below (ql_Q D h0 (ql_rI Q)) (ql_X D h0 X) ([.ref a0, .int xp1] : List Value).toArray s 0 0 (ql_A h0)) (F0 m 4 ls [])) , ∀ (xl1 : Int32) (xl2 : Int32) (xl3 : Int32) (h : ql_H) (H : Heap) (locs : List Loc) (ls : Array Slot), ql_S D h0 s H locs h → lv_has ls 4 [(0, .ref a0), (1, .int xl1), (2, .int xl2), (3, .int xl3)] → qw_X12_straight_49 a0 Q k4 xl1 xl2 xl3 h → W p l e ({ frames := 6, cells := 0, slots := 0, locals := 108 } : Room) s m ([.ref a0, .int xp1] : List Value).toArray below meth c H locs 0 0 (vx_MQ below (ql_Q D h0 (ql_rI Q)) (ql_X D h0 X) ([.ref a0, .int xp1] : List Value).toArray s 0 0 (ql_A h0)) (F0 m 49 ls []) := by
    intro k4 hk4 xl1 xl2 xl3 h H locs ls S hl w
    unfold qw_X12_straight_49 at w
    refine lv_iinc (v := (xl3 + (1 : Int32))) (lv' := [(3, .int (xl3 + (1 : Int32))), (0, .ref a0), (1, .int xl1), (2, .int xl2)]) C.1.1 C.1.2.1 dX12_straight_49 hl (k := 3) rfl rfl (by decide) rfl (fun ls hl => ?_)
    refine lv_goto (tgt := 4) C.1.1 C.1.2.1 dX12_straight_52 (by decide) ?_
    exact hk4 xl1 xl2 (xl3 + (1 : Int32)) _ _ _ _ S (lv_sub hl [1, 2, 3, 0] rfl) w
  have hB4 : ∀ n : Nat, ∀ (xl1 : Int32) (xl2 : Int32) (xl3 : Int32) (h : ql_H) (H : Heap) (locs : List Loc) (ls : Array Slot), ql_S D h0 s H locs h → lv_has ls 4 [(0, .ref a0), (1, .int xl1), (2, .int xl2), (3, .int xl3)] → qw_X12_straight_4 a0 Q n xl1 xl2 xl3 h → W p l e ({ frames := 6, cells := 0, slots := 0, locals := 108 } : Room) s m ([.ref a0, .int xp1] : List Value).toArray below meth c H locs 0 0 (vx_MQ below (ql_Q D h0 (ql_rI Q)) (ql_X D h0 X) ([.ref a0, .int xp1] : List Value).toArray s 0 0 (ql_A h0)) (F0 m 4 ls []) := by
    intro n
    induction n with
    | zero => intro xl1 xl2 xl3 h H locs ls S hl w; rw [qw_X12_straight_4] at w; exact w.elim
    | succ n ih =>
      intro xl1 xl2 xl3 h H locs ls S hl w
      rw [qw_X12_straight_4] at w
      refine lv_iload_n C.1.1 C.1.2.1 dX12_straight_4 rfl (lv_at hl 3 rfl) ?_
      refine ql_aload_n (r := (some a0)) C dX12_straight_5 rfl (lv_at hl 0 rfl) ?_
      refine lv_iload_n C.1.1 C.1.2.1 dX12_straight_6 rfl (lv_at hl 1 rfl) ?_
      refine lv_bipush (v := (37 : Int32)) C.1.1 C.1.2.1 dX12_straight_7 (by decide) ?_
      refine ql_VI (As := [.int xl1, .int (37 : Int32)]) (rest := [.int xl3]) C S htab hlocks hl qy_X12_of qi_X12_of qs_X12_of gw_1745 (ci := 13) rfl w (fun b w => qm_X12_of l hl9 D _ b xl1 (37 : Int32) _ _ w) rfl ⟨Nat.le_of_ble_eq_true rfl, Nat.le_of_ble_eq_true rfl⟩ ⟨rfl, rfl⟩ (by exact Nat.le_of_ble_eq_true rfl) (fun b e9 => by cases e9; rfl) dX12_straight_9 ⟨Nat.le_of_ble_eq_true rfl, Nat.le_of_ble_eq_true rfl⟩ ⟨Nat.le_of_ble_eq_true rfl, Nat.le_of_ble_eq_true rfl⟩ (fun x1 h H locs S w => ?_)
      refine W.cs (cells' := 0) (slots' := 0) rfl rfl ?_
      refine lv_icmp_ge (tgt := 55) C.1.1 C.1.2.1 dX12_straight_12 (by decide) (fun c9 => ?_) (fun c9 => ?_)
      · replace w := ql_if w c9
        refine lv_iload_n C.1.1 C.1.2.1 dX12_straight_55 rfl (lv_at hl 2 rfl) ?_
        exact ql_iret C S hr hlocks dX12_straight_56 ⟨Nat.le_of_ble_eq_true rfl, Nat.le_of_ble_eq_true rfl⟩ w
      · replace w := ql_ifn w c9
        refine ql_aload_n (r := (some a0)) C dX12_straight_15 rfl (lv_at hl 0 rfl) ?_
        refine ql_aload_n (r := (some a0)) C dX12_straight_16 rfl (lv_at hl 0 rfl) ?_
        refine lv_iload_n C.1.1 C.1.2.1 dX12_straight_17 rfl (lv_at hl 1 rfl) ?_
        refine lv_bipush (v := (38 : Int32)) C.1.1 C.1.2.1 dX12_straight_18 (by decide) ?_
        refine lv_iload_n C.1.1 C.1.2.1 dX12_straight_20 rfl (lv_at hl 3 rfl) ?_
        refine lv_iadd C.1.1 C.1.2.1 dX12_straight_21 ?_
        refine ql_VI (As := [.int xl1, .int ((38 : Int32) + xl3)]) (rest := [.ref a0]) C S htab hlocks hl qy_X12_of qi_X12_of qs_X12_of gw_1745 (ci := 13) rfl w (fun b w => qm_X12_of l hl9 D _ b xl1 ((38 : Int32) + xl3) _ _ w) rfl ⟨Nat.le_of_ble_eq_true rfl, Nat.le_of_ble_eq_true rfl⟩ ⟨rfl, rfl⟩ (by exact Nat.le_of_ble_eq_true rfl) (fun b e9 => by cases e9; rfl) dX12_straight_22 ⟨Nat.le_of_ble_eq_true rfl, Nat.le_of_ble_eq_true rfl⟩ ⟨Nat.le_of_ble_eq_true rfl, Nat.le_of_ble_eq_true rfl⟩ (fun x3 h H locs S w => ?_)
        refine W.cs (cells' := 0) (slots' := 0) rfl rfl ?_
        refine ql_VI (As := [.int x3]) (rest := []) C S htab hlocks hl qy_X12_placeOf qi_X12_placeOf qs_X12_placeOf gw_1772 (ci := 13) rfl w (fun b w => qm_X12_placeOf l hl9 D _ b x3 _ _ w) rfl ⟨Nat.le_of_ble_eq_true rfl, Nat.le_of_ble_eq_true rfl⟩ ⟨rfl, rfl⟩ (by exact Nat.le_of_ble_eq_true rfl) (fun b e9 => by cases e9; rfl) dX12_straight_25 ⟨Nat.le_of_ble_eq_true rfl, Nat.le_of_ble_eq_true rfl⟩ ⟨Nat.le_of_ble_eq_true rfl, Nat.le_of_ble_eq_true rfl⟩ (fun x5 h H locs S w => ?_)
        refine W.cs (cells' := 0) (slots' := 0) rfl rfl ?_
        refine lv_if_lt (tgt := 49) C.1.1 C.1.2.1 dX12_straight_28 (by decide) (fun c9 => ?_) (fun c9 => ?_)
        · replace w := ql_if w c9
          exact hB49 (qw_X12_straight_4 a0 Q n) ih xl1 xl2 xl3 _ _ _ _ S (lv_sub hl [0, 1, 2, 3] rfl) w
        · replace w := ql_ifn w c9
          refine lv_iload_n C.1.1 C.1.2.1 dX12_straight_31 rfl (lv_at hl 2 rfl) ?_
          refine lv_iconst (v := (1 : Int32)) C.1.1 C.1.2.1 dX12_straight_32 (by decide) ?_
          refine ql_aload_n (r := (some a0)) C dX12_straight_33 rfl (lv_at hl 0 rfl) ?_
          refine ql_aload_n (r := (some a0)) C dX12_straight_34 rfl (lv_at hl 0 rfl) ?_
          refine lv_iload_n C.1.1 C.1.2.1 dX12_straight_35 rfl (lv_at hl 1 rfl) ?_
          refine lv_bipush (v := (38 : Int32)) C.1.1 C.1.2.1 dX12_straight_36 (by decide) ?_
          refine lv_iload_n C.1.1 C.1.2.1 dX12_straight_38 rfl (lv_at hl 3 rfl) ?_
          refine lv_iadd C.1.1 C.1.2.1 dX12_straight_39 ?_
          refine ql_VI (As := [.int xl1, .int ((38 : Int32) + xl3)]) (rest := [.ref a0, .int (1 : Int32), .int xl2]) C S htab hlocks hl qy_X12_of qi_X12_of qs_X12_of gw_1745 (ci := 13) rfl w (fun b w => qm_X12_of l hl9 D _ b xl1 ((38 : Int32) + xl3) _ _ w) rfl ⟨Nat.le_of_ble_eq_true rfl, Nat.le_of_ble_eq_true rfl⟩ ⟨rfl, rfl⟩ (by exact Nat.le_of_ble_eq_true rfl) (fun b e9 => by cases e9; rfl) dX12_straight_40 ⟨Nat.le_of_ble_eq_true rfl, Nat.le_of_ble_eq_true rfl⟩ ⟨Nat.le_of_ble_eq_true rfl, Nat.le_of_ble_eq_true rfl⟩ (fun x7 h H locs S w => ?_)
          refine W.cs (cells' := 0) (slots' := 0) rfl rfl ?_
          refine ql_VI (As := [.int x7]) (rest := [.int (1 : Int32), .int xl2]) C S htab hlocks hl qy_X12_placeOf qi_X12_placeOf qs_X12_placeOf gw_1772 (ci := 13) rfl w (fun b w => qm_X12_placeOf l hl9 D _ b x7 _ _ w) rfl ⟨Nat.le_of_ble_eq_true rfl, Nat.le_of_ble_eq_true rfl⟩ ⟨rfl, rfl⟩ (by exact Nat.le_of_ble_eq_true rfl) (fun b e9 => by cases e9; rfl) dX12_straight_43 ⟨Nat.le_of_ble_eq_true rfl, Nat.le_of_ble_eq_true rfl⟩ ⟨Nat.le_of_ble_eq_true rfl, Nat.le_of_ble_eq_true rfl⟩ (fun x9 h H locs S w => ?_)
          refine W.cs (cells' := 0) (slots' := 0) rfl rfl ?_
          refine lv_ishl C.1.1 C.1.2.1 dX12_straight_46 ?_
          refine lv_ior C.1.1 C.1.2.1 dX12_straight_47 ?_
          refine lv_istore_n (lv' := [(2, .int (xl2 ||| ((1 : Int32) <<< (x9 &&& 31)))), (0, .ref a0), (1, .int xl1), (3, .int xl3)]) C.1.1 C.1.2.1 dX12_straight_48 rfl hl (by decide) rfl (fun ls hl => ?_)
          exact hB49 (qw_X12_straight_4 a0 Q n) ih xl1 (xl2 ||| ((1 : Int32) <<< (x9 &&& 31))) xl3 _ _ _ _ S (lv_sub hl [1, 2, 0, 3] rfl) w
  unfold qw_X12_straight at w
  refine lv_iconst (v := (0 : Int32)) C.1.1 C.1.2.1 dX12_straight_0 (by decide) ?_
  refine lv_istore_n (lv' := [(2, .int (0 : Int32)), (0, .ref a0), (1, .int xp1)]) C.1.1 C.1.2.1 dX12_straight_1 rfl hl (by decide) rfl (fun ls hl => ?_)
  refine lv_iconst (v := (0 : Int32)) C.1.1 C.1.2.1 dX12_straight_2 (by decide) ?_
  refine lv_istore_n (lv' := [(3, .int (0 : Int32)), (2, .int (0 : Int32)), (0, .ref a0), (1, .int xp1)]) C.1.1 C.1.2.1 dX12_straight_3 rfl hl (by decide) rfl (fun ls hl => ?_)
  exact hB4 ql_FU xp1 (0 : Int32) (0 : Int32) _ _ _ _ S (lv_sub hl [2, 3, 1, 0] rfl) w
def qw_X12_reached_50 (a0 : Nat) (Q : Int32 → ql_H → Prop) (k14 : Int32 → Int32 → Int32 → Int32 → ql_H → Prop) (xl1 : Int32) (xl2 : Int32) (xl3 : Int32) (xl4 : Int32) (h : ql_H) : Prop :=
k14 xl1 xl2 xl3 (xl4 + (1 : Int32)) h
def qw_X12_reached_41 (a0 : Nat) (Q : Int32 → ql_H → Prop) (k14 : Int32 → Int32 → Int32 → Int32 → ql_H → Prop) (xl1 : Int32) (xl2 : Int32) (xl3 : Int32) (xl4 : Int32) (h : ql_H) : Prop :=
ql_rv h (some a0) 13 fun b1 => qw_X12_straight b1 xl4 h (fun x1 h =>
qw_X12_reached_50 a0 Q k14 xl1 (xl2 ||| x1) xl3 xl4 h)
def qw_X12_reached_14 (a0 : Nat) (Q : Int32 → ql_H → Prop) (k4 : Int32 → Int32 → Int32 → ql_H → Prop) : Nat → Int32 → Int32 → Int32 → Int32 → ql_H → Prop
  | 0, _, _, _, _, _ => False
  | n + 1, xl1, xl2, xl3, xl4, h =>
    ql_gR h (some a0) 13 0 fun r3 =>
    ql_lI h r3 0 (0 : Int32) fun x4 =>
    if x4 ≤ xl4 then (k4 xl1 xl2 xl3 h) else (if xl4 = xl1 then (qw_X12_reached_41 a0 Q (qw_X12_reached_14 a0 Q k4 n) xl1 xl2 xl3 xl4 h) else (if ((xl3 >>> (xl4 &&& 31)) &&& (1 : Int32)) = (1 : Int32) then (qw_X12_reached_41 a0 Q (qw_X12_reached_14 a0 Q k4 n) xl1 xl2 xl3 xl4 h) else (qw_X12_reached_50 a0 Q (qw_X12_reached_14 a0 Q k4 n) xl1 xl2 xl3 xl4 h)))
def qw_X12_reached_4 (a0 : Nat) (Q : Int32 → ql_H → Prop) : Nat → Int32 → Int32 → Int32 → ql_H → Prop
  | 0, _, _, _, _ => False
  | n + 1, xl1, xl2, xl3, h =>
    if xl2 = xl3 then (Q xl2 h) else (qw_X12_reached_14 a0 Q (qw_X12_reached_4 a0 Q n) ql_FU xl1 xl2 xl2 (0 : Int32) h)
def qw_X12_reached (a0 : Nat) (xp1 : Int32) (h : ql_H) (Q : Int32 → ql_H → Prop) : Prop :=
qw_X12_reached_4 a0 Q ql_FU xp1 (0 : Int32) (-1 : Int32) h
set_option maxHeartbeats 4000000 in
set_option maxRecDepth 100000 in
theorem qm_X12_reached (l : Launch) (hl9 : l.stackTraces = false) (D : ql_D) (h0 : ql_H) (a0 : Nat) (xp1 : Int32) (Q : Int32 → ql_H → Prop) (X : String → ql_H → Prop) (w : qw_X12_reached a0 xp1 h0 Q) : ql_M D l yX12_reached cX12_reached 5 (some .int) ({ frames := 8, cells := 0, slots := 0, locals := 139 } : Room) h0 [.ref a0, .int xp1] (ql_rI Q) X 0 0 := by
  refine ql_ofW (by decide) (Nat.le_of_ble_eq_true rfl) ?_
  intro p e s m below meth c ls C hr hlocks hnm htab S hl
  have hl : lv_has ls 5 [(0, .ref a0), (1, .int xp1)] := hl
  have hB50 : ∀ (k14 : Int32 → Int32 → Int32 → Int32 → ql_H → Prop) (hk14 : ∀ (xl1 : Int32) (xl2 : Int32) (xl3 : Int32) (xl4 : Int32) (h : ql_H) (H : Heap) (locs : List Loc) (ls : Array Slot), ql_S D h0 s H locs h → lv_has ls 5 [(0, .ref a0), (1, .int xl1), (2, .int xl2), (3, .int xl3), (4, .int xl4)] → k14 xl1 xl2 xl3 xl4 h → W p l e ({ frames := 8, cells := 0, slots := 0, locals := 139 } : Room) s m ([.ref a0, .int xp1] : List Value).toArray below meth c H locs 0 0 (vx_MQ below (ql_Q D h0 (ql_rI Q)) (ql_X D h0 X) ([.ref a0, .int xp1] : List Value).toArray s 0 0 (ql_A h0)) (F0 m 14 ls [])) , ∀ (xl1 : Int32) (xl2 : Int32) (xl3 : Int32) (xl4 : Int32) (h : ql_H) (H : Heap) (locs : List Loc) (ls : Array Slot), ql_S D h0 s H locs h → lv_has ls 5 [(0, .ref a0), (1, .int xl1), (2, .int xl2), (3, .int xl3), (4, .int xl4)] → qw_X12_reached_50 a0 Q k14 xl1 xl2 xl3 xl4 h → W p l e ({ frames := 8, cells := 0, slots := 0, locals := 139 } : Room) s m ([.ref a0, .int xp1] : List Value).toArray below meth c H locs 0 0 (vx_MQ below (ql_Q D h0 (ql_rI Q)) (ql_X D h0 X) ([.ref a0, .int xp1] : List Value).toArray s 0 0 (ql_A h0)) (F0 m 50 ls []) := by
    intro k14 hk14 xl1 xl2 xl3 xl4 h H locs ls S hl w
    unfold qw_X12_reached_50 at w
    refine lv_iinc (v := (xl4 + (1 : Int32))) (lv' := [(4, .int (xl4 + (1 : Int32))), (0, .ref a0), (1, .int xl1), (2, .int xl2), (3, .int xl3)]) C.1.1 C.1.2.1 dX12_reached_50 hl (k := 4) rfl rfl (by decide) rfl (fun ls hl => ?_)
    refine lv_goto (tgt := 14) C.1.1 C.1.2.1 dX12_reached_53 (by decide) ?_
    exact hk14 xl1 xl2 xl3 (xl4 + (1 : Int32)) _ _ _ _ S (lv_sub hl [1, 2, 3, 4, 0] rfl) w
  have hB41 : ∀ (k14 : Int32 → Int32 → Int32 → Int32 → ql_H → Prop) (hk14 : ∀ (xl1 : Int32) (xl2 : Int32) (xl3 : Int32) (xl4 : Int32) (h : ql_H) (H : Heap) (locs : List Loc) (ls : Array Slot), ql_S D h0 s H locs h → lv_has ls 5 [(0, .ref a0), (1, .int xl1), (2, .int xl2), (3, .int xl3), (4, .int xl4)] → k14 xl1 xl2 xl3 xl4 h → W p l e ({ frames := 8, cells := 0, slots := 0, locals := 139 } : Room) s m ([.ref a0, .int xp1] : List Value).toArray below meth c H locs 0 0 (vx_MQ below (ql_Q D h0 (ql_rI Q)) (ql_X D h0 X) ([.ref a0, .int xp1] : List Value).toArray s 0 0 (ql_A h0)) (F0 m 14 ls [])) , ∀ (xl1 : Int32) (xl2 : Int32) (xl3 : Int32) (xl4 : Int32) (h : ql_H) (H : Heap) (locs : List Loc) (ls : Array Slot), ql_S D h0 s H locs h → lv_has ls 5 [(0, .ref a0), (1, .int xl1), (2, .int xl2), (3, .int xl3), (4, .int xl4)] → qw_X12_reached_41 a0 Q k14 xl1 xl2 xl3 xl4 h → W p l e ({ frames := 8, cells := 0, slots := 0, locals := 139 } : Room) s m ([.ref a0, .int xp1] : List Value).toArray below meth c H locs 0 0 (vx_MQ below (ql_Q D h0 (ql_rI Q)) (ql_X D h0 X) ([.ref a0, .int xp1] : List Value).toArray s 0 0 (ql_A h0)) (F0 m 41 ls []) := by
    intro k14 hk14 xl1 xl2 xl3 xl4 h H locs ls S hl w
    unfold qw_X12_reached_41 at w
    refine lv_iload_n C.1.1 C.1.2.1 dX12_reached_41 rfl (lv_at hl 2 rfl) ?_
    refine ql_aload_n (r := (some a0)) C dX12_reached_42 rfl (lv_at hl 0 rfl) ?_
    refine lv_iload C.1.1 C.1.2.1 dX12_reached_43 (lv_at hl 4 rfl) ?_
    refine ql_VI (As := [.int xl4]) (rest := [.int xl2]) C S htab hlocks hl qy_X12_straight qi_X12_straight qs_X12_straight gw_1991 (ci := 13) rfl w (fun b w => qm_X12_straight l hl9 D _ b xl4 _ _ w) rfl ⟨Nat.le_of_ble_eq_true rfl, Nat.le_of_ble_eq_true rfl⟩ ⟨rfl, rfl⟩ (by exact Nat.le_of_ble_eq_true rfl) (fun b e9 => by cases e9; rfl) dX12_reached_45 ⟨Nat.le_of_ble_eq_true rfl, Nat.le_of_ble_eq_true rfl⟩ ⟨Nat.le_of_ble_eq_true rfl, Nat.le_of_ble_eq_true rfl⟩ (fun x1 h H locs S w => ?_)
    refine W.cs (cells' := 0) (slots' := 0) rfl rfl ?_
    refine lv_ior C.1.1 C.1.2.1 dX12_reached_48 ?_
    refine lv_istore_n (lv' := [(2, .int (xl2 ||| x1)), (0, .ref a0), (1, .int xl1), (3, .int xl3), (4, .int xl4)]) C.1.1 C.1.2.1 dX12_reached_49 rfl hl (by decide) rfl (fun ls hl => ?_)
    exact hB50 k14 hk14 xl1 (xl2 ||| x1) xl3 xl4 _ _ _ _ S (lv_sub hl [1, 2, 0, 3, 4] rfl) w
  have hB14 : ∀ (k4 : Int32 → Int32 → Int32 → ql_H → Prop) (hk4 : ∀ (xl1 : Int32) (xl2 : Int32) (xl3 : Int32) (h : ql_H) (H : Heap) (locs : List Loc) (ls : Array Slot), ql_S D h0 s H locs h → lv_has ls 5 [(0, .ref a0), (1, .int xl1), (2, .int xl2), (3, .int xl3)] → k4 xl1 xl2 xl3 h → W p l e ({ frames := 8, cells := 0, slots := 0, locals := 139 } : Room) s m ([.ref a0, .int xp1] : List Value).toArray below meth c H locs 0 0 (vx_MQ below (ql_Q D h0 (ql_rI Q)) (ql_X D h0 X) ([.ref a0, .int xp1] : List Value).toArray s 0 0 (ql_A h0)) (F0 m 4 ls [])) , ∀ n : Nat, ∀ (xl1 : Int32) (xl2 : Int32) (xl3 : Int32) (xl4 : Int32) (h : ql_H) (H : Heap) (locs : List Loc) (ls : Array Slot), ql_S D h0 s H locs h → lv_has ls 5 [(0, .ref a0), (1, .int xl1), (2, .int xl2), (3, .int xl3), (4, .int xl4)] → qw_X12_reached_14 a0 Q k4 n xl1 xl2 xl3 xl4 h → W p l e ({ frames := 8, cells := 0, slots := 0, locals := 139 } : Room) s m ([.ref a0, .int xp1] : List Value).toArray below meth c H locs 0 0 (vx_MQ below (ql_Q D h0 (ql_rI Q)) (ql_X D h0 X) ([.ref a0, .int xp1] : List Value).toArray s 0 0 (ql_A h0)) (F0 m 14 ls []) := by
    intro k4 hk4 n
    induction n with
    | zero => intro xl1 xl2 xl3 xl4 h H locs ls S hl w; rw [qw_X12_reached_14] at w; exact w.elim
    | succ n ih =>
      intro xl1 xl2 xl3 xl4 h H locs ls S hl w
      rw [qw_X12_reached_14] at w
      refine lv_iload C.1.1 C.1.2.1 dX12_reached_14 (lv_at hl 4 rfl) ?_
      refine ql_aload_n (r := (some a0)) C dX12_reached_16 rfl (lv_at hl 0 rfl) ?_
      refine ql_getR C S qf_13_0 gw_1668 dX12_reached_17 w (fun r3 w => ?_)
      refine lv_iconst (v := (0 : Int32)) C.1.1 C.1.2.1 dX12_reached_20 (by decide) ?_
      refine ql_iald C S dX12_reached_21 w (fun x4 w => ?_)
      refine lv_icmp_ge (tgt := 56) C.1.1 C.1.2.1 dX12_reached_22 (by decide) (fun c9 => ?_) (fun c9 => ?_)
      · replace w := ql_if w c9
        refine lv_goto (tgt := 4) C.1.1 C.1.2.1 dX12_reached_56 (by decide) ?_
        exact hk4 xl1 xl2 xl3 _ _ _ _ S (lv_sub hl [0, 1, 2, 3] rfl) w
      · replace w := ql_ifn w c9
        refine lv_iload C.1.1 C.1.2.1 dX12_reached_25 (lv_at hl 4 rfl) ?_
        refine lv_iload_n C.1.1 C.1.2.1 dX12_reached_27 rfl (lv_at hl 1 rfl) ?_
        refine lv_icmp_eq (tgt := 41) C.1.1 C.1.2.1 dX12_reached_28 (by decide) (fun c9 => ?_) (fun c9 => ?_)
        · replace w := ql_if w c9
          exact hB41 (qw_X12_reached_14 a0 Q k4 n) ih xl1 xl2 xl3 xl4 _ _ _ _ S (lv_sub hl [0, 1, 2, 3, 4] rfl) w
        · replace w := ql_ifn w c9
          refine lv_iload_n C.1.1 C.1.2.1 dX12_reached_31 rfl (lv_at hl 3 rfl) ?_
          refine lv_iload C.1.1 C.1.2.1 dX12_reached_32 (lv_at hl 4 rfl) ?_
          refine lv_ishr C.1.1 C.1.2.1 dX12_reached_34 ?_
          refine lv_iconst (v := (1 : Int32)) C.1.1 C.1.2.1 dX12_reached_35 (by decide) ?_
          refine lv_iand C.1.1 C.1.2.1 dX12_reached_36 ?_
          refine lv_iconst (v := (1 : Int32)) C.1.1 C.1.2.1 dX12_reached_37 (by decide) ?_
          refine lv_icmp_ne (tgt := 50) C.1.1 C.1.2.1 dX12_reached_38 (by decide) (fun c9 => ?_) (fun c9 => ?_)
          · replace w := ql_ifn w c9
            exact hB50 (qw_X12_reached_14 a0 Q k4 n) ih xl1 xl2 xl3 xl4 _ _ _ _ S (lv_sub hl [0, 1, 2, 3, 4] rfl) w
          · replace w := ql_if w c9
            exact hB41 (qw_X12_reached_14 a0 Q k4 n) ih xl1 xl2 xl3 xl4 _ _ _ _ S (lv_sub hl [0, 1, 2, 3, 4] rfl) w
  have hB4 : ∀ n : Nat, ∀ (xl1 : Int32) (xl2 : Int32) (xl3 : Int32) (h : ql_H) (H : Heap) (locs : List Loc) (ls : Array Slot), ql_S D h0 s H locs h → lv_has ls 5 [(0, .ref a0), (1, .int xl1), (2, .int xl2), (3, .int xl3)] → qw_X12_reached_4 a0 Q n xl1 xl2 xl3 h → W p l e ({ frames := 8, cells := 0, slots := 0, locals := 139 } : Room) s m ([.ref a0, .int xp1] : List Value).toArray below meth c H locs 0 0 (vx_MQ below (ql_Q D h0 (ql_rI Q)) (ql_X D h0 X) ([.ref a0, .int xp1] : List Value).toArray s 0 0 (ql_A h0)) (F0 m 4 ls []) := by
    intro n
    induction n with
    | zero => intro xl1 xl2 xl3 h H locs ls S hl w; rw [qw_X12_reached_4] at w; exact w.elim
    | succ n ih =>
      intro xl1 xl2 xl3 h H locs ls S hl w
      rw [qw_X12_reached_4] at w
      refine lv_iload_n C.1.1 C.1.2.1 dX12_reached_4 rfl (lv_at hl 2 rfl) ?_
      refine lv_iload_n C.1.1 C.1.2.1 dX12_reached_5 rfl (lv_at hl 3 rfl) ?_
      refine lv_icmp_eq (tgt := 59) C.1.1 C.1.2.1 dX12_reached_6 (by decide) (fun c9 => ?_) (fun c9 => ?_)
      · replace w := ql_if w c9
        refine lv_iload_n C.1.1 C.1.2.1 dX12_reached_59 rfl (lv_at hl 2 rfl) ?_
        exact ql_iret C S hr hlocks dX12_reached_60 ⟨Nat.le_of_ble_eq_true rfl, Nat.le_of_ble_eq_true rfl⟩ w
      · replace w := ql_ifn w c9
        refine lv_iload_n C.1.1 C.1.2.1 dX12_reached_9 rfl (lv_at hl 2 rfl) ?_
        refine lv_istore_n (lv' := [(3, .int xl2), (0, .ref a0), (1, .int xl1), (2, .int xl2)]) C.1.1 C.1.2.1 dX12_reached_10 rfl hl (by decide) rfl (fun ls hl => ?_)
        refine lv_iconst (v := (0 : Int32)) C.1.1 C.1.2.1 dX12_reached_11 (by decide) ?_
        refine lv_istore (lv' := [(4, .int (0 : Int32)), (3, .int xl2), (0, .ref a0), (1, .int xl1), (2, .int xl2)]) C.1.1 C.1.2.1 dX12_reached_12 hl (by decide) rfl (fun ls hl => ?_)
        exact hB14 (qw_X12_reached_4 a0 Q n) ih ql_FU xl1 xl2 xl2 (0 : Int32) _ _ _ _ S (lv_sub hl [2, 3, 4, 1, 0] rfl) w
  unfold qw_X12_reached at w
  refine lv_iconst (v := (0 : Int32)) C.1.1 C.1.2.1 dX12_reached_0 (by decide) ?_
  refine lv_istore_n (lv' := [(2, .int (0 : Int32)), (0, .ref a0), (1, .int xp1)]) C.1.1 C.1.2.1 dX12_reached_1 rfl hl (by decide) rfl (fun ls hl => ?_)
  refine lv_iconst (v := (-1 : Int32)) C.1.1 C.1.2.1 dX12_reached_2 (by decide) ?_
  refine lv_istore_n (lv' := [(3, .int (-1 : Int32)), (2, .int (0 : Int32)), (0, .ref a0), (1, .int xp1)]) C.1.1 C.1.2.1 dX12_reached_3 rfl hl (by decide) rfl (fun ls hl => ?_)
  exact hB4 ql_FU xp1 (0 : Int32) (-1 : Int32) _ _ _ _ S (lv_sub hl [2, 3, 1, 0] rfl) w
def qw_X12_isReached_22 (a0 : Nat) (Q : Int32 → ql_H → Prop) (xl1 : Int32) (xl2 : Int32) (rs0 : Option Nat) (xs1 : Int32) (h : ql_H) : Prop :=
ql_rv h rs0 13 fun b1 => qw_X12_fails b1 xs1 h (fun x1 h =>
if x1 = 0 then (ql_rv h (some a0) 13 fun b3 => qw_X12_placeOf b3 xl1 h (fun x3 h =>
ql_rv h (some a0) 13 fun b5 => qw_X12_reached b5 x3 h (fun x5 h =>
ql_rv h (some a0) 13 fun b7 => qw_X12_placeOf b7 xl2 h (fun x7 h =>
if ((x5 >>> (x7 &&& 31)) &&& (1 : Int32)) = (1 : Int32) then (ql_nz .boolean (1 : Int32) ∧ Q (1 : Int32) h) else (ql_nz .boolean (0 : Int32) ∧ Q (0 : Int32) h))))) else (ql_nz .boolean (0 : Int32) ∧ Q (0 : Int32) h))
def qw_X12_isReached_17 (a0 : Nat) (Q : Int32 → ql_H → Prop) (xl1 : Int32) (xl2 : Int32) (rs0 : Option Nat) (h : ql_H) : Prop :=
qw_X12_isReached_22 a0 Q xl1 xl2 rs0 (1 : Int32) h
def qw_X12_isReached (a0 : Nat) (xp1 : Int32) (xp2 : Int32) (h : ql_H) (Q : Int32 → ql_H → Prop) : Prop :=
ql_rv h (some a0) 13 fun b9 => qw_X12_placeOf b9 xp1 h (fun x9 h =>
if x9 < 0 then (qw_X12_isReached_17 a0 Q xp1 xp2 (some a0) h) else (ql_rv h (some a0) 13 fun b11 => qw_X12_placeOf b11 xp2 h (fun x11 h =>
if 0 ≤ x11 then (qw_X12_isReached_22 a0 Q xp1 xp2 (some a0) (0 : Int32) h) else (qw_X12_isReached_17 a0 Q xp1 xp2 (some a0) h))))
set_option maxHeartbeats 4000000 in
set_option maxRecDepth 100000 in
theorem qm_X12_isReached (l : Launch) (hl9 : l.stackTraces = false) (D : ql_D) (h0 : ql_H) (a0 : Nat) (xp1 : Int32) (xp2 : Int32) (Q : Int32 → ql_H → Prop) (X : String → ql_H → Prop) (w : qw_X12_isReached a0 xp1 xp2 h0 Q) : ql_M D l yX12_isReached cX12_isReached 3 (some .boolean) ({ frames := 10, cells := 0, slots := 0, locals := 171 } : Room) h0 [.ref a0, .int xp1, .int xp2] (ql_rI Q) X 0 0 := by
  refine ql_ofW (by decide) (Nat.le_of_ble_eq_true rfl) ?_
  intro p e s m below meth c ls C hr hlocks hnm htab S hl
  have hl : lv_has ls 3 [(0, .ref a0), (1, .int xp1), (2, .int xp2)] := hl
  have hB22 : ∀ (xl1 : Int32) (xl2 : Int32) (rs0 : Option Nat) (xs1 : Int32) (h : ql_H) (H : Heap) (locs : List Loc) (ls : Array Slot), ql_S D h0 s H locs h → lv_has ls 3 [(0, .ref a0), (1, .int xl1), (2, .int xl2)] → qw_X12_isReached_22 a0 Q xl1 xl2 rs0 xs1 h → W p l e ({ frames := 10, cells := 0, slots := 0, locals := 171 } : Room) s m ([.ref a0, .int xp1, .int xp2] : List Value).toArray below meth c H locs 0 0 (vx_MQ below (ql_Q D h0 (ql_rI Q)) (ql_X D h0 X) ([.ref a0, .int xp1, .int xp2] : List Value).toArray s 0 0 (ql_A h0)) (F0 m 22 ls [.int xs1, va_rf rs0]) := by
    intro xl1 xl2 rs0 xs1 h H locs ls S hl w
    unfold qw_X12_isReached_22 at w
    refine ql_VI (As := [.int xs1]) (rest := []) C S htab hlocks hl qy_X12_fails qi_X12_fails qs_X12_fails gw_1749 (ci := 13) rfl w (fun b w => qm_X12_fails l hl9 D _ b xs1 _ _ w) rfl ⟨Nat.le_of_ble_eq_true rfl, Nat.le_of_ble_eq_true rfl⟩ ⟨rfl, rfl⟩ (by exact Nat.le_of_ble_eq_true rfl) (fun b e9 => by cases e9; rfl) dX12_isReached_22 ⟨Nat.le_of_ble_eq_true rfl, Nat.le_of_ble_eq_true rfl⟩ ⟨Nat.le_of_ble_eq_true rfl, Nat.le_of_ble_eq_true rfl⟩ (fun x1 h H locs S w => ?_)
    refine W.cs (cells' := 0) (slots' := 0) rfl rfl ?_
    refine lv_if_eq (tgt := 30) C.1.1 C.1.2.1 dX12_isReached_25 (by decide) (fun c9 => ?_) (fun c9 => ?_)
    · replace w := ql_if w c9
      refine ql_aload_n (r := (some a0)) C dX12_isReached_30 rfl (lv_at hl 0 rfl) ?_
      refine ql_aload_n (r := (some a0)) C dX12_isReached_31 rfl (lv_at hl 0 rfl) ?_
      refine lv_iload_n C.1.1 C.1.2.1 dX12_isReached_32 rfl (lv_at hl 1 rfl) ?_
      refine ql_VI (As := [.int xl1]) (rest := [.ref a0]) C S htab hlocks hl qy_X12_placeOf qi_X12_placeOf qs_X12_placeOf gw_1772 (ci := 13) rfl w (fun b w => qm_X12_placeOf l hl9 D _ b xl1 _ _ w) rfl ⟨Nat.le_of_ble_eq_true rfl, Nat.le_of_ble_eq_true rfl⟩ ⟨rfl, rfl⟩ (by exact Nat.le_of_ble_eq_true rfl) (fun b e9 => by cases e9; rfl) dX12_isReached_33 ⟨Nat.le_of_ble_eq_true rfl, Nat.le_of_ble_eq_true rfl⟩ ⟨Nat.le_of_ble_eq_true rfl, Nat.le_of_ble_eq_true rfl⟩ (fun x3 h H locs S w => ?_)
      refine W.cs (cells' := 0) (slots' := 0) rfl rfl ?_
      refine ql_VI (As := [.int x3]) (rest := []) C S htab hlocks hl qy_X12_reached qi_X12_reached qs_X12_reached gw_1987 (ci := 13) rfl w (fun b w => qm_X12_reached l hl9 D _ b x3 _ _ w) rfl ⟨Nat.le_of_ble_eq_true rfl, Nat.le_of_ble_eq_true rfl⟩ ⟨rfl, rfl⟩ (by exact Nat.le_of_ble_eq_true rfl) (fun b e9 => by cases e9; rfl) dX12_isReached_36 ⟨Nat.le_of_ble_eq_true rfl, Nat.le_of_ble_eq_true rfl⟩ ⟨Nat.le_of_ble_eq_true rfl, Nat.le_of_ble_eq_true rfl⟩ (fun x5 h H locs S w => ?_)
      refine W.cs (cells' := 0) (slots' := 0) rfl rfl ?_
      refine ql_aload_n (r := (some a0)) C dX12_isReached_39 rfl (lv_at hl 0 rfl) ?_
      refine lv_iload_n C.1.1 C.1.2.1 dX12_isReached_40 rfl (lv_at hl 2 rfl) ?_
      refine ql_VI (As := [.int xl2]) (rest := [.int x5]) C S htab hlocks hl qy_X12_placeOf qi_X12_placeOf qs_X12_placeOf gw_1772 (ci := 13) rfl w (fun b w => qm_X12_placeOf l hl9 D _ b xl2 _ _ w) rfl ⟨Nat.le_of_ble_eq_true rfl, Nat.le_of_ble_eq_true rfl⟩ ⟨rfl, rfl⟩ (by exact Nat.le_of_ble_eq_true rfl) (fun b e9 => by cases e9; rfl) dX12_isReached_41 ⟨Nat.le_of_ble_eq_true rfl, Nat.le_of_ble_eq_true rfl⟩ ⟨Nat.le_of_ble_eq_true rfl, Nat.le_of_ble_eq_true rfl⟩ (fun x7 h H locs S w => ?_)
      refine W.cs (cells' := 0) (slots' := 0) rfl rfl ?_
      refine lv_ishr C.1.1 C.1.2.1 dX12_isReached_44 ?_
      refine lv_iconst (v := (1 : Int32)) C.1.1 C.1.2.1 dX12_isReached_45 (by decide) ?_
      refine lv_iand C.1.1 C.1.2.1 dX12_isReached_46 ?_
      refine lv_iconst (v := (1 : Int32)) C.1.1 C.1.2.1 dX12_isReached_47 (by decide) ?_
      refine lv_icmp_ne (tgt := 55) C.1.1 C.1.2.1 dX12_isReached_48 (by decide) (fun c9 => ?_) (fun c9 => ?_)
      · replace w := ql_ifn w c9
        refine lv_iconst (v := (0 : Int32)) C.1.1 C.1.2.1 dX12_isReached_55 (by decide) ?_
        exact ql_zret C S hr hlocks dX12_isReached_56 ⟨Nat.le_of_ble_eq_true rfl, Nat.le_of_ble_eq_true rfl⟩ w
      · replace w := ql_if w c9
        refine lv_iconst (v := (1 : Int32)) C.1.1 C.1.2.1 dX12_isReached_51 (by decide) ?_
        refine lv_goto (tgt := 56) C.1.1 C.1.2.1 dX12_isReached_52 (by decide) ?_
        exact ql_zret C S hr hlocks dX12_isReached_56 ⟨Nat.le_of_ble_eq_true rfl, Nat.le_of_ble_eq_true rfl⟩ w
    · replace w := ql_ifn w c9
      refine lv_iconst (v := (0 : Int32)) C.1.1 C.1.2.1 dX12_isReached_28 (by decide) ?_
      exact ql_zret C S hr hlocks dX12_isReached_29 ⟨Nat.le_of_ble_eq_true rfl, Nat.le_of_ble_eq_true rfl⟩ w
  have hB17 : ∀ (xl1 : Int32) (xl2 : Int32) (rs0 : Option Nat) (h : ql_H) (H : Heap) (locs : List Loc) (ls : Array Slot), ql_S D h0 s H locs h → lv_has ls 3 [(0, .ref a0), (1, .int xl1), (2, .int xl2)] → qw_X12_isReached_17 a0 Q xl1 xl2 rs0 h → W p l e ({ frames := 10, cells := 0, slots := 0, locals := 171 } : Room) s m ([.ref a0, .int xp1, .int xp2] : List Value).toArray below meth c H locs 0 0 (vx_MQ below (ql_Q D h0 (ql_rI Q)) (ql_X D h0 X) ([.ref a0, .int xp1, .int xp2] : List Value).toArray s 0 0 (ql_A h0)) (F0 m 17 ls [va_rf rs0]) := by
    intro xl1 xl2 rs0 h H locs ls S hl w
    unfold qw_X12_isReached_17 at w
    refine lv_iconst (v := (1 : Int32)) C.1.1 C.1.2.1 dX12_isReached_17 (by decide) ?_
    refine lv_goto (tgt := 22) C.1.1 C.1.2.1 dX12_isReached_18 (by decide) ?_
    exact hB22 xl1 xl2 rs0 (1 : Int32) _ _ _ _ S (lv_sub hl [0, 1, 2] rfl) w
  unfold qw_X12_isReached at w
  refine ql_aload_n (r := (some a0)) C dX12_isReached_0 rfl (lv_at hl 0 rfl) ?_
  refine ql_aload_n (r := (some a0)) C dX12_isReached_1 rfl (lv_at hl 0 rfl) ?_
  refine lv_iload_n C.1.1 C.1.2.1 dX12_isReached_2 rfl (lv_at hl 1 rfl) ?_
  refine ql_VI (As := [.int xp1]) (rest := [.ref a0]) C S htab hlocks hl qy_X12_placeOf qi_X12_placeOf qs_X12_placeOf gw_1772 (ci := 13) rfl w (fun b w => qm_X12_placeOf l hl9 D _ b xp1 _ _ w) rfl ⟨Nat.le_of_ble_eq_true rfl, Nat.le_of_ble_eq_true rfl⟩ ⟨rfl, rfl⟩ (by exact Nat.le_of_ble_eq_true rfl) (fun b e9 => by cases e9; rfl) dX12_isReached_3 ⟨Nat.le_of_ble_eq_true rfl, Nat.le_of_ble_eq_true rfl⟩ ⟨Nat.le_of_ble_eq_true rfl, Nat.le_of_ble_eq_true rfl⟩ (fun x9 h H locs S w => ?_)
  refine W.cs (cells' := 0) (slots' := 0) rfl rfl ?_
  refine lv_if_lt (tgt := 17) C.1.1 C.1.2.1 dX12_isReached_6 (by decide) (fun c9 => ?_) (fun c9 => ?_)
  · replace w := ql_if w c9
    exact hB17 xp1 xp2 (some a0) _ _ _ _ S (lv_sub hl [0, 1, 2] rfl) w
  · replace w := ql_ifn w c9
    refine ql_aload_n (r := (some a0)) C dX12_isReached_9 rfl (lv_at hl 0 rfl) ?_
    refine lv_iload_n C.1.1 C.1.2.1 dX12_isReached_10 rfl (lv_at hl 2 rfl) ?_
    refine ql_VI (As := [.int xp2]) (rest := [.ref a0]) C S htab hlocks hl qy_X12_placeOf qi_X12_placeOf qs_X12_placeOf gw_1772 (ci := 13) rfl w (fun b w => qm_X12_placeOf l hl9 D _ b xp2 _ _ w) rfl ⟨Nat.le_of_ble_eq_true rfl, Nat.le_of_ble_eq_true rfl⟩ ⟨rfl, rfl⟩ (by exact Nat.le_of_ble_eq_true rfl) (fun b e9 => by cases e9; rfl) dX12_isReached_11 ⟨Nat.le_of_ble_eq_true rfl, Nat.le_of_ble_eq_true rfl⟩ ⟨Nat.le_of_ble_eq_true rfl, Nat.le_of_ble_eq_true rfl⟩ (fun x11 h H locs S w => ?_)
    refine W.cs (cells' := 0) (slots' := 0) rfl rfl ?_
    refine lv_if_ge (tgt := 21) C.1.1 C.1.2.1 dX12_isReached_14 (by decide) (fun c9 => ?_) (fun c9 => ?_)
    · replace w := ql_if w c9
      refine lv_iconst (v := (0 : Int32)) C.1.1 C.1.2.1 dX12_isReached_21 (by decide) ?_
      exact hB22 xp1 xp2 (some a0) (0 : Int32) _ _ _ _ S (lv_sub hl [0, 1, 2] rfl) w
    · replace w := ql_ifn w c9
      exact hB17 xp1 xp2 (some a0) _ _ _ _ S (lv_sub hl [0, 1, 2] rfl) w
def qw_X12_citesIndirectly (a0 : Nat) (xp1 : Int32) (xp2 : Int32) (h : ql_H) (Q : Int32 → ql_H → Prop) : Prop :=
ql_rv h (some a0) 13 fun b1 => qw_X12_isReached b1 xp1 xp2 h (fun x1 h =>
ql_nz .boolean x1 ∧ Q x1 h)
set_option maxHeartbeats 4000000 in
set_option maxRecDepth 100000 in
theorem qm_X12_citesIndirectly (l : Launch) (hl9 : l.stackTraces = false) (D : ql_D) (h0 : ql_H) (a0 : Nat) (xp1 : Int32) (xp2 : Int32) (Q : Int32 → ql_H → Prop) (X : String → ql_H → Prop) (w : qw_X12_citesIndirectly a0 xp1 xp2 h0 Q) : ql_M D l yX12_citesIndirectly cX12_citesIndirectly 3 (some .boolean) ({ frames := 12, cells := 0, slots := 0, locals := 201 } : Room) h0 [.ref a0, .int xp1, .int xp2] (ql_rI Q) X 0 0 := by
  refine ql_ofW (by decide) (Nat.le_of_ble_eq_true rfl) ?_
  intro p e s m below meth c ls C hr hlocks hnm htab S hl
  have hl : lv_has ls 3 [(0, .ref a0), (1, .int xp1), (2, .int xp2)] := hl
  unfold qw_X12_citesIndirectly at w
  refine ql_aload_n (r := (some a0)) C dX12_citesIndirectly_0 rfl (lv_at hl 0 rfl) ?_
  refine lv_iload_n C.1.1 C.1.2.1 dX12_citesIndirectly_1 rfl (lv_at hl 1 rfl) ?_
  refine lv_iload_n C.1.1 C.1.2.1 dX12_citesIndirectly_2 rfl (lv_at hl 2 rfl) ?_
  refine ql_VI (As := [.int xp1, .int xp2]) (rest := []) C S htab hlocks hl qy_X12_isReached qi_X12_isReached qs_X12_isReached gw_1983 (ci := 13) rfl w (fun b w => qm_X12_isReached l hl9 D _ b xp1 xp2 _ _ w) rfl ⟨Nat.le_of_ble_eq_true rfl, Nat.le_of_ble_eq_true rfl⟩ ⟨rfl, rfl⟩ (by exact Nat.le_of_ble_eq_true rfl) (fun b e9 => by cases e9; rfl) dX12_citesIndirectly_3 ⟨Nat.le_of_ble_eq_true rfl, Nat.le_of_ble_eq_true rfl⟩ ⟨Nat.le_of_ble_eq_true rfl, Nat.le_of_ble_eq_true rfl⟩ (fun x1 h H locs S w => ?_)
  refine W.cs (cells' := 0) (slots' := 0) rfl rfl ?_
  exact ql_zret C S hr hlocks dX12_citesIndirectly_6 ⟨Nat.le_of_ble_eq_true rfl, Nat.le_of_ble_eq_true rfl⟩ w
def qw_X12_citesByClosure (a0 : Nat) (xp1 : Int32) (xp2 : Int32) (h : ql_H) (Q : Int32 → ql_H → Prop) : Prop :=
ql_rv h (some a0) 13 fun b1 => qw_X12_isReached b1 xp1 xp2 h (fun x1 h =>
ql_nz .boolean x1 ∧ Q x1 h)
set_option maxHeartbeats 4000000 in
set_option maxRecDepth 100000 in
theorem qm_X12_citesByClosure (l : Launch) (hl9 : l.stackTraces = false) (D : ql_D) (h0 : ql_H) (a0 : Nat) (xp1 : Int32) (xp2 : Int32) (Q : Int32 → ql_H → Prop) (X : String → ql_H → Prop) (w : qw_X12_citesByClosure a0 xp1 xp2 h0 Q) : ql_M D l yX12_citesByClosure cX12_citesByClosure 3 (some .boolean) ({ frames := 12, cells := 0, slots := 0, locals := 201 } : Room) h0 [.ref a0, .int xp1, .int xp2] (ql_rI Q) X 0 0 := by
  refine ql_ofW (by decide) (Nat.le_of_ble_eq_true rfl) ?_
  intro p e s m below meth c ls C hr hlocks hnm htab S hl
  have hl : lv_has ls 3 [(0, .ref a0), (1, .int xp1), (2, .int xp2)] := hl
  unfold qw_X12_citesByClosure at w
  refine ql_aload_n (r := (some a0)) C dX12_citesByClosure_0 rfl (lv_at hl 0 rfl) ?_
  refine lv_iload_n C.1.1 C.1.2.1 dX12_citesByClosure_1 rfl (lv_at hl 1 rfl) ?_
  refine lv_iload_n C.1.1 C.1.2.1 dX12_citesByClosure_2 rfl (lv_at hl 2 rfl) ?_
  refine ql_VI (As := [.int xp1, .int xp2]) (rest := []) C S htab hlocks hl qy_X12_isReached qi_X12_isReached qs_X12_isReached gw_1983 (ci := 13) rfl w (fun b w => qm_X12_isReached l hl9 D _ b xp1 xp2 _ _ w) rfl ⟨Nat.le_of_ble_eq_true rfl, Nat.le_of_ble_eq_true rfl⟩ ⟨rfl, rfl⟩ (by exact Nat.le_of_ble_eq_true rfl) (fun b e9 => by cases e9; rfl) dX12_citesByClosure_3 ⟨Nat.le_of_ble_eq_true rfl, Nat.le_of_ble_eq_true rfl⟩ ⟨Nat.le_of_ble_eq_true rfl, Nat.le_of_ble_eq_true rfl⟩ (fun x1 h H locs S w => ?_)
  refine W.cs (cells' := 0) (slots' := 0) rfl rfl ?_
  exact ql_zret C S hr hlocks dX12_citesByClosure_6 ⟨Nat.le_of_ble_eq_true rfl, Nat.le_of_ble_eq_true rfl⟩ w
def qw_X12_citing_34 (a0 : Nat) (Q : Int32 → ql_H → Prop) (k4 : Int32 → Int32 → Int32 → ql_H → Prop) (xl1 : Int32) (xl3 : Int32) (xs0 : Int32) (xs1 : Int32) (h : ql_H) : Prop :=
k4 xl1 (xs0 + xs1) (xl3 + (1 : Int32)) h
def qw_X12_citing_4 (a0 : Nat) (Q : Int32 → ql_H → Prop) : Nat → Int32 → Int32 → Int32 → ql_H → Prop
  | 0, _, _, _, _ => False
  | n + 1, xl1, xl2, xl3, h =>
    ql_gR h (some a0) 13 0 fun r1 =>
    ql_lI h r1 0 (0 : Int32) fun x2 =>
    if x2 ≤ xl3 then (Q xl2 h) else (ql_rv h (some a0) 13 fun b3 => qw_X12_of b3 xl1 (0 : Int32) h (fun x3 h =>
    ql_rv h (some a0) 13 fun b5 => qw_X12_cited b5 xl3 x3 h (fun x5 h =>
    if x5 < 0 then (qw_X12_citing_34 a0 Q (qw_X12_citing_4 a0 Q n) xl1 xl3 xl2 (0 : Int32) h) else (qw_X12_citing_34 a0 Q (qw_X12_citing_4 a0 Q n) xl1 xl3 xl2 (1 : Int32) h))))
def qw_X12_citing (a0 : Nat) (xp1 : Int32) (h : ql_H) (Q : Int32 → ql_H → Prop) : Prop :=
qw_X12_citing_4 a0 Q ql_FU xp1 (0 : Int32) (0 : Int32) h
set_option maxHeartbeats 4000000 in
set_option maxRecDepth 100000 in
theorem qm_X12_citing (l : Launch) (hl9 : l.stackTraces = false) (D : ql_D) (h0 : ql_H) (a0 : Nat) (xp1 : Int32) (Q : Int32 → ql_H → Prop) (X : String → ql_H → Prop) (w : qw_X12_citing a0 xp1 h0 Q) : ql_M D l yX12_citing cX12_citing 4 (some .int) ({ frames := 6, cells := 0, slots := 0, locals := 109 } : Room) h0 [.ref a0, .int xp1] (ql_rI Q) X 0 0 := by
  refine ql_ofW (by decide) (Nat.le_of_ble_eq_true rfl) ?_
  intro p e s m below meth c ls C hr hlocks hnm htab S hl
  have hl : lv_has ls 4 [(0, .ref a0), (1, .int xp1)] := hl
  have hB34 : ∀ (k4 : Int32 → Int32 → Int32 → ql_H → Prop) (hk4 : ∀ (xl1 : Int32) (xl2 : Int32) (xl3 : Int32) (h : ql_H) (H : Heap) (locs : List Loc) (ls : Array Slot), ql_S D h0 s H locs h → lv_has ls 4 [(0, .ref a0), (1, .int xl1), (2, .int xl2), (3, .int xl3)] → k4 xl1 xl2 xl3 h → W p l e ({ frames := 6, cells := 0, slots := 0, locals := 109 } : Room) s m ([.ref a0, .int xp1] : List Value).toArray below meth c H locs 0 0 (vx_MQ below (ql_Q D h0 (ql_rI Q)) (ql_X D h0 X) ([.ref a0, .int xp1] : List Value).toArray s 0 0 (ql_A h0)) (F0 m 4 ls [])) , ∀ (xl1 : Int32) (xl3 : Int32) (xs0 : Int32) (xs1 : Int32) (h : ql_H) (H : Heap) (locs : List Loc) (ls : Array Slot), ql_S D h0 s H locs h → lv_has ls 4 [(0, .ref a0), (1, .int xl1), (3, .int xl3)] → qw_X12_citing_34 a0 Q k4 xl1 xl3 xs0 xs1 h → W p l e ({ frames := 6, cells := 0, slots := 0, locals := 109 } : Room) s m ([.ref a0, .int xp1] : List Value).toArray below meth c H locs 0 0 (vx_MQ below (ql_Q D h0 (ql_rI Q)) (ql_X D h0 X) ([.ref a0, .int xp1] : List Value).toArray s 0 0 (ql_A h0)) (F0 m 34 ls [.int xs1, .int xs0]) := by
    intro k4 hk4 xl1 xl3 xs0 xs1 h H locs ls S hl w
    unfold qw_X12_citing_34 at w
    refine lv_iadd C.1.1 C.1.2.1 dX12_citing_34 ?_
    refine lv_istore_n (lv' := [(2, .int (xs0 + xs1)), (0, .ref a0), (1, .int xl1), (3, .int xl3)]) C.1.1 C.1.2.1 dX12_citing_35 rfl hl (by decide) rfl (fun ls hl => ?_)
    refine lv_iinc (v := (xl3 + (1 : Int32))) (lv' := [(3, .int (xl3 + (1 : Int32))), (2, .int (xs0 + xs1)), (0, .ref a0), (1, .int xl1)]) C.1.1 C.1.2.1 dX12_citing_36 hl (k := 3) rfl rfl (by decide) rfl (fun ls hl => ?_)
    refine lv_goto (tgt := 4) C.1.1 C.1.2.1 dX12_citing_39 (by decide) ?_
    exact hk4 xl1 (xs0 + xs1) (xl3 + (1 : Int32)) _ _ _ _ S (lv_sub hl [2, 3, 1, 0] rfl) w
  have hB4 : ∀ n : Nat, ∀ (xl1 : Int32) (xl2 : Int32) (xl3 : Int32) (h : ql_H) (H : Heap) (locs : List Loc) (ls : Array Slot), ql_S D h0 s H locs h → lv_has ls 4 [(0, .ref a0), (1, .int xl1), (2, .int xl2), (3, .int xl3)] → qw_X12_citing_4 a0 Q n xl1 xl2 xl3 h → W p l e ({ frames := 6, cells := 0, slots := 0, locals := 109 } : Room) s m ([.ref a0, .int xp1] : List Value).toArray below meth c H locs 0 0 (vx_MQ below (ql_Q D h0 (ql_rI Q)) (ql_X D h0 X) ([.ref a0, .int xp1] : List Value).toArray s 0 0 (ql_A h0)) (F0 m 4 ls []) := by
    intro n
    induction n with
    | zero => intro xl1 xl2 xl3 h H locs ls S hl w; rw [qw_X12_citing_4] at w; exact w.elim
    | succ n ih =>
      intro xl1 xl2 xl3 h H locs ls S hl w
      rw [qw_X12_citing_4] at w
      refine lv_iload_n C.1.1 C.1.2.1 dX12_citing_4 rfl (lv_at hl 3 rfl) ?_
      refine ql_aload_n (r := (some a0)) C dX12_citing_5 rfl (lv_at hl 0 rfl) ?_
      refine ql_getR C S qf_13_0 gw_1668 dX12_citing_6 w (fun r1 w => ?_)
      refine lv_iconst (v := (0 : Int32)) C.1.1 C.1.2.1 dX12_citing_9 (by decide) ?_
      refine ql_iald C S dX12_citing_10 w (fun x2 w => ?_)
      refine lv_icmp_ge (tgt := 42) C.1.1 C.1.2.1 dX12_citing_11 (by decide) (fun c9 => ?_) (fun c9 => ?_)
      · replace w := ql_if w c9
        refine lv_iload_n C.1.1 C.1.2.1 dX12_citing_42 rfl (lv_at hl 2 rfl) ?_
        exact ql_iret C S hr hlocks dX12_citing_43 ⟨Nat.le_of_ble_eq_true rfl, Nat.le_of_ble_eq_true rfl⟩ w
      · replace w := ql_ifn w c9
        refine lv_iload_n C.1.1 C.1.2.1 dX12_citing_14 rfl (lv_at hl 2 rfl) ?_
        refine ql_aload_n (r := (some a0)) C dX12_citing_15 rfl (lv_at hl 0 rfl) ?_
        refine lv_iload_n C.1.1 C.1.2.1 dX12_citing_16 rfl (lv_at hl 3 rfl) ?_
        refine ql_aload_n (r := (some a0)) C dX12_citing_17 rfl (lv_at hl 0 rfl) ?_
        refine lv_iload_n C.1.1 C.1.2.1 dX12_citing_18 rfl (lv_at hl 1 rfl) ?_
        refine lv_iconst (v := (0 : Int32)) C.1.1 C.1.2.1 dX12_citing_19 (by decide) ?_
        refine ql_VI (As := [.int xl1, .int (0 : Int32)]) (rest := [.int xl3, .ref a0, .int xl2]) C S htab hlocks hl qy_X12_of qi_X12_of qs_X12_of gw_1745 (ci := 13) rfl w (fun b w => qm_X12_of l hl9 D _ b xl1 (0 : Int32) _ _ w) rfl ⟨Nat.le_of_ble_eq_true rfl, Nat.le_of_ble_eq_true rfl⟩ ⟨rfl, rfl⟩ (by exact Nat.le_of_ble_eq_true rfl) (fun b e9 => by cases e9; rfl) dX12_citing_20 ⟨Nat.le_of_ble_eq_true rfl, Nat.le_of_ble_eq_true rfl⟩ ⟨Nat.le_of_ble_eq_true rfl, Nat.le_of_ble_eq_true rfl⟩ (fun x3 h H locs S w => ?_)
        refine W.cs (cells' := 0) (slots' := 0) rfl rfl ?_
        refine ql_VI (As := [.int xl3, .int x3]) (rest := [.int xl2]) C S htab hlocks hl qy_X12_cited qi_X12_cited qs_X12_cited gw_1820 (ci := 13) rfl w (fun b w => qm_X12_cited l hl9 D _ b xl3 x3 _ _ w) rfl ⟨Nat.le_of_ble_eq_true rfl, Nat.le_of_ble_eq_true rfl⟩ ⟨rfl, rfl⟩ (by exact Nat.le_of_ble_eq_true rfl) (fun b e9 => by cases e9; rfl) dX12_citing_23 ⟨Nat.le_of_ble_eq_true rfl, Nat.le_of_ble_eq_true rfl⟩ ⟨Nat.le_of_ble_eq_true rfl, Nat.le_of_ble_eq_true rfl⟩ (fun x5 h H locs S w => ?_)
        refine W.cs (cells' := 0) (slots' := 0) rfl rfl ?_
        refine lv_if_lt (tgt := 33) C.1.1 C.1.2.1 dX12_citing_26 (by decide) (fun c9 => ?_) (fun c9 => ?_)
        · replace w := ql_if w c9
          refine lv_iconst (v := (0 : Int32)) C.1.1 C.1.2.1 dX12_citing_33 (by decide) ?_
          exact hB34 (qw_X12_citing_4 a0 Q n) ih xl1 xl3 xl2 (0 : Int32) _ _ _ _ S (lv_sub hl [0, 1, 3] rfl) w
        · replace w := ql_ifn w c9
          refine lv_iconst (v := (1 : Int32)) C.1.1 C.1.2.1 dX12_citing_29 (by decide) ?_
          refine lv_goto (tgt := 34) C.1.1 C.1.2.1 dX12_citing_30 (by decide) ?_
          exact hB34 (qw_X12_citing_4 a0 Q n) ih xl1 xl3 xl2 (1 : Int32) _ _ _ _ S (lv_sub hl [0, 1, 3] rfl) w
  unfold qw_X12_citing at w
  refine lv_iconst (v := (0 : Int32)) C.1.1 C.1.2.1 dX12_citing_0 (by decide) ?_
  refine lv_istore_n (lv' := [(2, .int (0 : Int32)), (0, .ref a0), (1, .int xp1)]) C.1.1 C.1.2.1 dX12_citing_1 rfl hl (by decide) rfl (fun ls hl => ?_)
  refine lv_iconst (v := (0 : Int32)) C.1.1 C.1.2.1 dX12_citing_2 (by decide) ?_
  refine lv_istore_n (lv' := [(3, .int (0 : Int32)), (2, .int (0 : Int32)), (0, .ref a0), (1, .int xp1)]) C.1.1 C.1.2.1 dX12_citing_3 rfl hl (by decide) rfl (fun ls hl => ?_)
  exact hB4 ql_FU xp1 (0 : Int32) (0 : Int32) _ _ _ _ S (lv_sub hl [2, 3, 1, 0] rfl) w
def qw_X12_clauseByCites_78 (a0 : Nat) (Q : Int32 → ql_H → Prop) (k17 : Int32 → Int32 → Int32 → Int32 → ql_H → Prop) (xl1 : Int32) (xl2 : Int32) (xl4 : Int32) (xs0 : Int32) (xs1 : Int32) (h : ql_H) : Prop :=
k17 xl1 xl2 (xs0 + xs1) (xl4 + (1 : Int32)) h
def qw_X12_clauseByCites_73 (a0 : Nat) (Q : Int32 → ql_H → Prop) (k17 : Int32 → Int32 → Int32 → Int32 → ql_H → Prop) (xl1 : Int32) (xl2 : Int32) (xl4 : Int32) (xs0 : Int32) (h : ql_H) : Prop :=
qw_X12_clauseByCites_78 a0 Q k17 xl1 xl2 xl4 xs0 (1 : Int32) h
def qw_X12_clauseByCites_77 (a0 : Nat) (Q : Int32 → ql_H → Prop) (k17 : Int32 → Int32 → Int32 → Int32 → ql_H → Prop) (xl1 : Int32) (xl2 : Int32) (xl4 : Int32) (xs0 : Int32) (h : ql_H) : Prop :=
qw_X12_clauseByCites_78 a0 Q k17 xl1 xl2 xl4 xs0 (0 : Int32) h
def qw_X12_clauseByCites_17 (a0 : Nat) (Q : Int32 → ql_H → Prop) (k2 : Int32 → Int32 → ql_H → Prop) : Nat → Int32 → Int32 → Int32 → Int32 → ql_H → Prop
  | 0, _, _, _, _, _ => False
  | n + 1, xl1, xl2, xl3, xl4, h =>
    ql_gR h (some a0) 13 0 fun r1 =>
    ql_lI h r1 0 (0 : Int32) fun x2 =>
    if x2 ≤ xl4 then (if xl3 = xl1 then (ql_pV h (some a0) 13 7 (.int (0 : Int32)) fun h =>
    ql_rv h (some a0) 13 fun b3 => qw_X12_of b3 xl2 (0 : Int32) h (fun x3 h =>
    Q x3 h)) else (k2 xl1 (xl2 + (1 : Int32)) h)) else (ql_rv h (some a0) 13 fun b5 => qw_X12_citing b5 xl4 h (fun x5 h =>
    ql_rv h (some a0) 13 fun b7 => qw_X12_citing b7 xl2 h (fun x7 h =>
    if x7 < x5 then (qw_X12_clauseByCites_73 a0 Q (qw_X12_clauseByCites_17 a0 Q k2 n) xl1 xl2 xl4 xl3 h) else (ql_rv h (some a0) 13 fun b9 => qw_X12_citing b9 xl4 h (fun x9 h =>
    ql_rv h (some a0) 13 fun b11 => qw_X12_citing b11 xl2 h (fun x11 h =>
    if x9 = x11 then (ql_rv h (some a0) 13 fun b13 => qw_X12_of b13 xl4 (1 : Int32) h (fun x13 h =>
    ql_rv h (some a0) 13 fun b15 => qw_X12_of b15 xl2 (1 : Int32) h (fun x15 h =>
    if x15 ≤ x13 then (qw_X12_clauseByCites_77 a0 Q (qw_X12_clauseByCites_17 a0 Q k2 n) xl1 xl2 xl4 xl3 h) else (qw_X12_clauseByCites_73 a0 Q (qw_X12_clauseByCites_17 a0 Q k2 n) xl1 xl2 xl4 xl3 h)))) else (qw_X12_clauseByCites_77 a0 Q (qw_X12_clauseByCites_17 a0 Q k2 n) xl1 xl2 xl4 xl3 h)))))))
def qw_X12_clauseByCites_2 (a0 : Nat) (Q : Int32 → ql_H → Prop) : Nat → Int32 → Int32 → ql_H → Prop
  | 0, _, _, _ => False
  | n + 1, xl1, xl2, h =>
    ql_gR h (some a0) 13 0 fun r17 =>
    ql_lI h r17 0 (0 : Int32) fun x18 =>
    if x18 ≤ xl2 then (ql_pV h (some a0) 13 7 (.int (1 : Int32)) fun h =>
    Q (0 : Int32) h) else (qw_X12_clauseByCites_17 a0 Q (qw_X12_clauseByCites_2 a0 Q n) ql_FU xl1 xl2 (0 : Int32) (0 : Int32) h)
def qw_X12_clauseByCites (a0 : Nat) (xp1 : Int32) (h : ql_H) (Q : Int32 → ql_H → Prop) : Prop :=
qw_X12_clauseByCites_2 a0 Q ql_FU xp1 (0 : Int32) h
set_option maxHeartbeats 4000000 in
set_option maxRecDepth 100000 in
theorem qm_X12_clauseByCites (l : Launch) (hl9 : l.stackTraces = false) (D : ql_D) (h0 : ql_H) (a0 : Nat) (xp1 : Int32) (Q : Int32 → ql_H → Prop) (X : String → ql_H → Prop) (w : qw_X12_clauseByCites a0 xp1 h0 Q) : ql_M D l yX12_clauseByCites cX12_clauseByCites 5 (some .int) ({ frames := 8, cells := 0, slots := 0, locals := 140 } : Room) h0 [.ref a0, .int xp1] (ql_rI Q) X 0 0 := by
  refine ql_ofW (by decide) (Nat.le_of_ble_eq_true rfl) ?_
  intro p e s m below meth c ls C hr hlocks hnm htab S hl
  have hl : lv_has ls 5 [(0, .ref a0), (1, .int xp1)] := hl
  have hB78 : ∀ (k17 : Int32 → Int32 → Int32 → Int32 → ql_H → Prop) (hk17 : ∀ (xl1 : Int32) (xl2 : Int32) (xl3 : Int32) (xl4 : Int32) (h : ql_H) (H : Heap) (locs : List Loc) (ls : Array Slot), ql_S D h0 s H locs h → lv_has ls 5 [(0, .ref a0), (1, .int xl1), (2, .int xl2), (3, .int xl3), (4, .int xl4)] → k17 xl1 xl2 xl3 xl4 h → W p l e ({ frames := 8, cells := 0, slots := 0, locals := 140 } : Room) s m ([.ref a0, .int xp1] : List Value).toArray below meth c H locs 0 0 (vx_MQ below (ql_Q D h0 (ql_rI Q)) (ql_X D h0 X) ([.ref a0, .int xp1] : List Value).toArray s 0 0 (ql_A h0)) (F0 m 17 ls [])) , ∀ (xl1 : Int32) (xl2 : Int32) (xl4 : Int32) (xs0 : Int32) (xs1 : Int32) (h : ql_H) (H : Heap) (locs : List Loc) (ls : Array Slot), ql_S D h0 s H locs h → lv_has ls 5 [(0, .ref a0), (1, .int xl1), (2, .int xl2), (4, .int xl4)] → qw_X12_clauseByCites_78 a0 Q k17 xl1 xl2 xl4 xs0 xs1 h → W p l e ({ frames := 8, cells := 0, slots := 0, locals := 140 } : Room) s m ([.ref a0, .int xp1] : List Value).toArray below meth c H locs 0 0 (vx_MQ below (ql_Q D h0 (ql_rI Q)) (ql_X D h0 X) ([.ref a0, .int xp1] : List Value).toArray s 0 0 (ql_A h0)) (F0 m 78 ls [.int xs1, .int xs0]) := by
    intro k17 hk17 xl1 xl2 xl4 xs0 xs1 h H locs ls S hl w
    unfold qw_X12_clauseByCites_78 at w
    refine lv_iadd C.1.1 C.1.2.1 dX12_clauseByCites_78 ?_
    refine lv_istore_n (lv' := [(3, .int (xs0 + xs1)), (0, .ref a0), (1, .int xl1), (2, .int xl2), (4, .int xl4)]) C.1.1 C.1.2.1 dX12_clauseByCites_79 rfl hl (by decide) rfl (fun ls hl => ?_)
    refine lv_iinc (v := (xl4 + (1 : Int32))) (lv' := [(4, .int (xl4 + (1 : Int32))), (3, .int (xs0 + xs1)), (0, .ref a0), (1, .int xl1), (2, .int xl2)]) C.1.1 C.1.2.1 dX12_clauseByCites_80 hl (k := 4) rfl rfl (by decide) rfl (fun ls hl => ?_)
    refine lv_goto (tgt := 17) C.1.1 C.1.2.1 dX12_clauseByCites_83 (by decide) ?_
    exact hk17 xl1 xl2 (xs0 + xs1) (xl4 + (1 : Int32)) _ _ _ _ S (lv_sub hl [2, 3, 4, 1, 0] rfl) w
  have hB73 : ∀ (k17 : Int32 → Int32 → Int32 → Int32 → ql_H → Prop) (hk17 : ∀ (xl1 : Int32) (xl2 : Int32) (xl3 : Int32) (xl4 : Int32) (h : ql_H) (H : Heap) (locs : List Loc) (ls : Array Slot), ql_S D h0 s H locs h → lv_has ls 5 [(0, .ref a0), (1, .int xl1), (2, .int xl2), (3, .int xl3), (4, .int xl4)] → k17 xl1 xl2 xl3 xl4 h → W p l e ({ frames := 8, cells := 0, slots := 0, locals := 140 } : Room) s m ([.ref a0, .int xp1] : List Value).toArray below meth c H locs 0 0 (vx_MQ below (ql_Q D h0 (ql_rI Q)) (ql_X D h0 X) ([.ref a0, .int xp1] : List Value).toArray s 0 0 (ql_A h0)) (F0 m 17 ls [])) , ∀ (xl1 : Int32) (xl2 : Int32) (xl4 : Int32) (xs0 : Int32) (h : ql_H) (H : Heap) (locs : List Loc) (ls : Array Slot), ql_S D h0 s H locs h → lv_has ls 5 [(0, .ref a0), (1, .int xl1), (2, .int xl2), (4, .int xl4)] → qw_X12_clauseByCites_73 a0 Q k17 xl1 xl2 xl4 xs0 h → W p l e ({ frames := 8, cells := 0, slots := 0, locals := 140 } : Room) s m ([.ref a0, .int xp1] : List Value).toArray below meth c H locs 0 0 (vx_MQ below (ql_Q D h0 (ql_rI Q)) (ql_X D h0 X) ([.ref a0, .int xp1] : List Value).toArray s 0 0 (ql_A h0)) (F0 m 73 ls [.int xs0]) := by
    intro k17 hk17 xl1 xl2 xl4 xs0 h H locs ls S hl w
    unfold qw_X12_clauseByCites_73 at w
    refine lv_iconst (v := (1 : Int32)) C.1.1 C.1.2.1 dX12_clauseByCites_73 (by decide) ?_
    refine lv_goto (tgt := 78) C.1.1 C.1.2.1 dX12_clauseByCites_74 (by decide) ?_
    exact hB78 k17 hk17 xl1 xl2 xl4 xs0 (1 : Int32) _ _ _ _ S (lv_sub hl [0, 1, 2, 3] rfl) w
  have hB77 : ∀ (k17 : Int32 → Int32 → Int32 → Int32 → ql_H → Prop) (hk17 : ∀ (xl1 : Int32) (xl2 : Int32) (xl3 : Int32) (xl4 : Int32) (h : ql_H) (H : Heap) (locs : List Loc) (ls : Array Slot), ql_S D h0 s H locs h → lv_has ls 5 [(0, .ref a0), (1, .int xl1), (2, .int xl2), (3, .int xl3), (4, .int xl4)] → k17 xl1 xl2 xl3 xl4 h → W p l e ({ frames := 8, cells := 0, slots := 0, locals := 140 } : Room) s m ([.ref a0, .int xp1] : List Value).toArray below meth c H locs 0 0 (vx_MQ below (ql_Q D h0 (ql_rI Q)) (ql_X D h0 X) ([.ref a0, .int xp1] : List Value).toArray s 0 0 (ql_A h0)) (F0 m 17 ls [])) , ∀ (xl1 : Int32) (xl2 : Int32) (xl4 : Int32) (xs0 : Int32) (h : ql_H) (H : Heap) (locs : List Loc) (ls : Array Slot), ql_S D h0 s H locs h → lv_has ls 5 [(0, .ref a0), (1, .int xl1), (2, .int xl2), (4, .int xl4)] → qw_X12_clauseByCites_77 a0 Q k17 xl1 xl2 xl4 xs0 h → W p l e ({ frames := 8, cells := 0, slots := 0, locals := 140 } : Room) s m ([.ref a0, .int xp1] : List Value).toArray below meth c H locs 0 0 (vx_MQ below (ql_Q D h0 (ql_rI Q)) (ql_X D h0 X) ([.ref a0, .int xp1] : List Value).toArray s 0 0 (ql_A h0)) (F0 m 77 ls [.int xs0]) := by
    intro k17 hk17 xl1 xl2 xl4 xs0 h H locs ls S hl w
    unfold qw_X12_clauseByCites_77 at w
    refine lv_iconst (v := (0 : Int32)) C.1.1 C.1.2.1 dX12_clauseByCites_77 (by decide) ?_
    exact hB78 k17 hk17 xl1 xl2 xl4 xs0 (0 : Int32) _ _ _ _ S (lv_sub hl [0, 1, 2, 3] rfl) w
  have hB17 : ∀ (k2 : Int32 → Int32 → ql_H → Prop) (hk2 : ∀ (xl1 : Int32) (xl2 : Int32) (h : ql_H) (H : Heap) (locs : List Loc) (ls : Array Slot), ql_S D h0 s H locs h → lv_has ls 5 [(0, .ref a0), (1, .int xl1), (2, .int xl2)] → k2 xl1 xl2 h → W p l e ({ frames := 8, cells := 0, slots := 0, locals := 140 } : Room) s m ([.ref a0, .int xp1] : List Value).toArray below meth c H locs 0 0 (vx_MQ below (ql_Q D h0 (ql_rI Q)) (ql_X D h0 X) ([.ref a0, .int xp1] : List Value).toArray s 0 0 (ql_A h0)) (F0 m 2 ls [])) , ∀ n : Nat, ∀ (xl1 : Int32) (xl2 : Int32) (xl3 : Int32) (xl4 : Int32) (h : ql_H) (H : Heap) (locs : List Loc) (ls : Array Slot), ql_S D h0 s H locs h → lv_has ls 5 [(0, .ref a0), (1, .int xl1), (2, .int xl2), (3, .int xl3), (4, .int xl4)] → qw_X12_clauseByCites_17 a0 Q k2 n xl1 xl2 xl3 xl4 h → W p l e ({ frames := 8, cells := 0, slots := 0, locals := 140 } : Room) s m ([.ref a0, .int xp1] : List Value).toArray below meth c H locs 0 0 (vx_MQ below (ql_Q D h0 (ql_rI Q)) (ql_X D h0 X) ([.ref a0, .int xp1] : List Value).toArray s 0 0 (ql_A h0)) (F0 m 17 ls []) := by
    intro k2 hk2 n
    induction n with
    | zero => intro xl1 xl2 xl3 xl4 h H locs ls S hl w; rw [qw_X12_clauseByCites_17] at w; exact w.elim
    | succ n ih =>
      intro xl1 xl2 xl3 xl4 h H locs ls S hl w
      rw [qw_X12_clauseByCites_17] at w
      refine lv_iload C.1.1 C.1.2.1 dX12_clauseByCites_17 (lv_at hl 4 rfl) ?_
      refine ql_aload_n (r := (some a0)) C dX12_clauseByCites_19 rfl (lv_at hl 0 rfl) ?_
      refine ql_getR C S qf_13_0 gw_1668 dX12_clauseByCites_20 w (fun r1 w => ?_)
      refine lv_iconst (v := (0 : Int32)) C.1.1 C.1.2.1 dX12_clauseByCites_23 (by decide) ?_
      refine ql_iald C S dX12_clauseByCites_24 w (fun x2 w => ?_)
      refine lv_icmp_ge (tgt := 86) C.1.1 C.1.2.1 dX12_clauseByCites_25 (by decide) (fun c9 => ?_) (fun c9 => ?_)
      · replace w := ql_if w c9
        refine lv_iload_n C.1.1 C.1.2.1 dX12_clauseByCites_86 rfl (lv_at hl 3 rfl) ?_
        refine lv_iload_n C.1.1 C.1.2.1 dX12_clauseByCites_87 rfl (lv_at hl 1 rfl) ?_
        refine lv_icmp_eq (tgt := 94) C.1.1 C.1.2.1 dX12_clauseByCites_88 (by decide) (fun c9 => ?_) (fun c9 => ?_)
        · replace w := ql_if w c9
          refine ql_aload_n (r := (some a0)) C dX12_clauseByCites_94 rfl (lv_at hl 0 rfl) ?_
          refine lv_iconst (v := (0 : Int32)) C.1.1 C.1.2.1 dX12_clauseByCites_95 (by decide) ?_
          refine ql_putV C S qf_13_7 gw_1675 (tyX12) tyX12_ok nmX12 rfl dX12_clauseByCites_96 (v := .int (0 : Int32)) rfl rfl w (fun h H locs S w => ?_)
          refine ql_aload_n (r := (some a0)) C dX12_clauseByCites_99 rfl (lv_at hl 0 rfl) ?_
          refine lv_iload_n C.1.1 C.1.2.1 dX12_clauseByCites_100 rfl (lv_at hl 2 rfl) ?_
          refine lv_iconst (v := (0 : Int32)) C.1.1 C.1.2.1 dX12_clauseByCites_101 (by decide) ?_
          refine ql_VI (As := [.int xl2, .int (0 : Int32)]) (rest := []) C S htab hlocks hl qy_X12_of qi_X12_of qs_X12_of gw_1745 (ci := 13) rfl w (fun b w => qm_X12_of l hl9 D _ b xl2 (0 : Int32) _ _ w) rfl ⟨Nat.le_of_ble_eq_true rfl, Nat.le_of_ble_eq_true rfl⟩ ⟨rfl, rfl⟩ (by exact Nat.le_of_ble_eq_true rfl) (fun b e9 => by cases e9; rfl) dX12_clauseByCites_102 ⟨Nat.le_of_ble_eq_true rfl, Nat.le_of_ble_eq_true rfl⟩ ⟨Nat.le_of_ble_eq_true rfl, Nat.le_of_ble_eq_true rfl⟩ (fun x3 h H locs S w => ?_)
          refine W.cs (cells' := 0) (slots' := 0) rfl rfl ?_
          exact ql_iret C S hr hlocks dX12_clauseByCites_105 ⟨Nat.le_of_ble_eq_true rfl, Nat.le_of_ble_eq_true rfl⟩ w
        · replace w := ql_ifn w c9
          refine lv_goto (tgt := 106) C.1.1 C.1.2.1 dX12_clauseByCites_91 (by decide) ?_
          refine lv_iinc (v := (xl2 + (1 : Int32))) (lv' := [(2, .int (xl2 + (1 : Int32))), (0, .ref a0), (1, .int xl1), (3, .int xl3), (4, .int xl4)]) C.1.1 C.1.2.1 dX12_clauseByCites_106 hl (k := 2) rfl rfl (by decide) rfl (fun ls hl => ?_)
          refine lv_goto (tgt := 2) C.1.1 C.1.2.1 dX12_clauseByCites_109 (by decide) ?_
          exact hk2 xl1 (xl2 + (1 : Int32)) _ _ _ _ S (lv_sub hl [1, 2, 0] rfl) w
      · replace w := ql_ifn w c9
        refine lv_iload_n C.1.1 C.1.2.1 dX12_clauseByCites_28 rfl (lv_at hl 3 rfl) ?_
        refine ql_aload_n (r := (some a0)) C dX12_clauseByCites_29 rfl (lv_at hl 0 rfl) ?_
        refine lv_iload C.1.1 C.1.2.1 dX12_clauseByCites_30 (lv_at hl 4 rfl) ?_
        refine ql_VI (As := [.int xl4]) (rest := [.int xl3]) C S htab hlocks hl qy_X12_citing qi_X12_citing qs_X12_citing gw_2003 (ci := 13) rfl w (fun b w => qm_X12_citing l hl9 D _ b xl4 _ _ w) rfl ⟨Nat.le_of_ble_eq_true rfl, Nat.le_of_ble_eq_true rfl⟩ ⟨rfl, rfl⟩ (by exact Nat.le_of_ble_eq_true rfl) (fun b e9 => by cases e9; rfl) dX12_clauseByCites_32 ⟨Nat.le_of_ble_eq_true rfl, Nat.le_of_ble_eq_true rfl⟩ ⟨Nat.le_of_ble_eq_true rfl, Nat.le_of_ble_eq_true rfl⟩ (fun x5 h H locs S w => ?_)
        refine W.cs (cells' := 0) (slots' := 0) rfl rfl ?_
        refine ql_aload_n (r := (some a0)) C dX12_clauseByCites_35 rfl (lv_at hl 0 rfl) ?_
        refine lv_iload_n C.1.1 C.1.2.1 dX12_clauseByCites_36 rfl (lv_at hl 2 rfl) ?_
        refine ql_VI (As := [.int xl2]) (rest := [.int x5, .int xl3]) C S htab hlocks hl qy_X12_citing qi_X12_citing qs_X12_citing gw_2003 (ci := 13) rfl w (fun b w => qm_X12_citing l hl9 D _ b xl2 _ _ w) rfl ⟨Nat.le_of_ble_eq_true rfl, Nat.le_of_ble_eq_true rfl⟩ ⟨rfl, rfl⟩ (by exact Nat.le_of_ble_eq_true rfl) (fun b e9 => by cases e9; rfl) dX12_clauseByCites_37 ⟨Nat.le_of_ble_eq_true rfl, Nat.le_of_ble_eq_true rfl⟩ ⟨Nat.le_of_ble_eq_true rfl, Nat.le_of_ble_eq_true rfl⟩ (fun x7 h H locs S w => ?_)
        refine W.cs (cells' := 0) (slots' := 0) rfl rfl ?_
        refine lv_icmp_gt (tgt := 73) C.1.1 C.1.2.1 dX12_clauseByCites_40 (by decide) (fun c9 => ?_) (fun c9 => ?_)
        · replace w := ql_if w c9
          exact hB73 (qw_X12_clauseByCites_17 a0 Q k2 n) ih xl1 xl2 xl4 xl3 _ _ _ _ S (lv_sub hl [0, 1, 2, 4] rfl) w
        · replace w := ql_ifn w c9
          refine ql_aload_n (r := (some a0)) C dX12_clauseByCites_43 rfl (lv_at hl 0 rfl) ?_
          refine lv_iload C.1.1 C.1.2.1 dX12_clauseByCites_44 (lv_at hl 4 rfl) ?_
          refine ql_VI (As := [.int xl4]) (rest := [.int xl3]) C S htab hlocks hl qy_X12_citing qi_X12_citing qs_X12_citing gw_2003 (ci := 13) rfl w (fun b w => qm_X12_citing l hl9 D _ b xl4 _ _ w) rfl ⟨Nat.le_of_ble_eq_true rfl, Nat.le_of_ble_eq_true rfl⟩ ⟨rfl, rfl⟩ (by exact Nat.le_of_ble_eq_true rfl) (fun b e9 => by cases e9; rfl) dX12_clauseByCites_46 ⟨Nat.le_of_ble_eq_true rfl, Nat.le_of_ble_eq_true rfl⟩ ⟨Nat.le_of_ble_eq_true rfl, Nat.le_of_ble_eq_true rfl⟩ (fun x9 h H locs S w => ?_)
          refine W.cs (cells' := 0) (slots' := 0) rfl rfl ?_
          refine ql_aload_n (r := (some a0)) C dX12_clauseByCites_49 rfl (lv_at hl 0 rfl) ?_
          refine lv_iload_n C.1.1 C.1.2.1 dX12_clauseByCites_50 rfl (lv_at hl 2 rfl) ?_
          refine ql_VI (As := [.int xl2]) (rest := [.int x9, .int xl3]) C S htab hlocks hl qy_X12_citing qi_X12_citing qs_X12_citing gw_2003 (ci := 13) rfl w (fun b w => qm_X12_citing l hl9 D _ b xl2 _ _ w) rfl ⟨Nat.le_of_ble_eq_true rfl, Nat.le_of_ble_eq_true rfl⟩ ⟨rfl, rfl⟩ (by exact Nat.le_of_ble_eq_true rfl) (fun b e9 => by cases e9; rfl) dX12_clauseByCites_51 ⟨Nat.le_of_ble_eq_true rfl, Nat.le_of_ble_eq_true rfl⟩ ⟨Nat.le_of_ble_eq_true rfl, Nat.le_of_ble_eq_true rfl⟩ (fun x11 h H locs S w => ?_)
          refine W.cs (cells' := 0) (slots' := 0) rfl rfl ?_
          refine lv_icmp_ne (tgt := 77) C.1.1 C.1.2.1 dX12_clauseByCites_54 (by decide) (fun c9 => ?_) (fun c9 => ?_)
          · replace w := ql_ifn w c9
            exact hB77 (qw_X12_clauseByCites_17 a0 Q k2 n) ih xl1 xl2 xl4 xl3 _ _ _ _ S (lv_sub hl [0, 1, 2, 4] rfl) w
          · replace w := ql_if w c9
            refine ql_aload_n (r := (some a0)) C dX12_clauseByCites_57 rfl (lv_at hl 0 rfl) ?_
            refine lv_iload C.1.1 C.1.2.1 dX12_clauseByCites_58 (lv_at hl 4 rfl) ?_
            refine lv_iconst (v := (1 : Int32)) C.1.1 C.1.2.1 dX12_clauseByCites_60 (by decide) ?_
            refine ql_VI (As := [.int xl4, .int (1 : Int32)]) (rest := [.int xl3]) C S htab hlocks hl qy_X12_of qi_X12_of qs_X12_of gw_1745 (ci := 13) rfl w (fun b w => qm_X12_of l hl9 D _ b xl4 (1 : Int32) _ _ w) rfl ⟨Nat.le_of_ble_eq_true rfl, Nat.le_of_ble_eq_true rfl⟩ ⟨rfl, rfl⟩ (by exact Nat.le_of_ble_eq_true rfl) (fun b e9 => by cases e9; rfl) dX12_clauseByCites_61 ⟨Nat.le_of_ble_eq_true rfl, Nat.le_of_ble_eq_true rfl⟩ ⟨Nat.le_of_ble_eq_true rfl, Nat.le_of_ble_eq_true rfl⟩ (fun x13 h H locs S w => ?_)
            refine W.cs (cells' := 0) (slots' := 0) rfl rfl ?_
            refine ql_aload_n (r := (some a0)) C dX12_clauseByCites_64 rfl (lv_at hl 0 rfl) ?_
            refine lv_iload_n C.1.1 C.1.2.1 dX12_clauseByCites_65 rfl (lv_at hl 2 rfl) ?_
            refine lv_iconst (v := (1 : Int32)) C.1.1 C.1.2.1 dX12_clauseByCites_66 (by decide) ?_
            refine ql_VI (As := [.int xl2, .int (1 : Int32)]) (rest := [.int x13, .int xl3]) C S htab hlocks hl qy_X12_of qi_X12_of qs_X12_of gw_1745 (ci := 13) rfl w (fun b w => qm_X12_of l hl9 D _ b xl2 (1 : Int32) _ _ w) rfl ⟨Nat.le_of_ble_eq_true rfl, Nat.le_of_ble_eq_true rfl⟩ ⟨rfl, rfl⟩ (by exact Nat.le_of_ble_eq_true rfl) (fun b e9 => by cases e9; rfl) dX12_clauseByCites_67 ⟨Nat.le_of_ble_eq_true rfl, Nat.le_of_ble_eq_true rfl⟩ ⟨Nat.le_of_ble_eq_true rfl, Nat.le_of_ble_eq_true rfl⟩ (fun x15 h H locs S w => ?_)
            refine W.cs (cells' := 0) (slots' := 0) rfl rfl ?_
            refine lv_icmp_ge (tgt := 77) C.1.1 C.1.2.1 dX12_clauseByCites_70 (by decide) (fun c9 => ?_) (fun c9 => ?_)
            · replace w := ql_if w c9
              exact hB77 (qw_X12_clauseByCites_17 a0 Q k2 n) ih xl1 xl2 xl4 xl3 _ _ _ _ S (lv_sub hl [0, 1, 2, 4] rfl) w
            · replace w := ql_ifn w c9
              exact hB73 (qw_X12_clauseByCites_17 a0 Q k2 n) ih xl1 xl2 xl4 xl3 _ _ _ _ S (lv_sub hl [0, 1, 2, 4] rfl) w
  have hB2 : ∀ n : Nat, ∀ (xl1 : Int32) (xl2 : Int32) (h : ql_H) (H : Heap) (locs : List Loc) (ls : Array Slot), ql_S D h0 s H locs h → lv_has ls 5 [(0, .ref a0), (1, .int xl1), (2, .int xl2)] → qw_X12_clauseByCites_2 a0 Q n xl1 xl2 h → W p l e ({ frames := 8, cells := 0, slots := 0, locals := 140 } : Room) s m ([.ref a0, .int xp1] : List Value).toArray below meth c H locs 0 0 (vx_MQ below (ql_Q D h0 (ql_rI Q)) (ql_X D h0 X) ([.ref a0, .int xp1] : List Value).toArray s 0 0 (ql_A h0)) (F0 m 2 ls []) := by
    intro n
    induction n with
    | zero => intro xl1 xl2 h H locs ls S hl w; rw [qw_X12_clauseByCites_2] at w; exact w.elim
    | succ n ih =>
      intro xl1 xl2 h H locs ls S hl w
      rw [qw_X12_clauseByCites_2] at w
      refine lv_iload_n C.1.1 C.1.2.1 dX12_clauseByCites_2 rfl (lv_at hl 2 rfl) ?_
      refine ql_aload_n (r := (some a0)) C dX12_clauseByCites_3 rfl (lv_at hl 0 rfl) ?_
      refine ql_getR C S qf_13_0 gw_1668 dX12_clauseByCites_4 w (fun r17 w => ?_)
      refine lv_iconst (v := (0 : Int32)) C.1.1 C.1.2.1 dX12_clauseByCites_7 (by decide) ?_
      refine ql_iald C S dX12_clauseByCites_8 w (fun x18 w => ?_)
      refine lv_icmp_ge (tgt := 112) C.1.1 C.1.2.1 dX12_clauseByCites_9 (by decide) (fun c9 => ?_) (fun c9 => ?_)
      · replace w := ql_if w c9
        refine ql_aload_n (r := (some a0)) C dX12_clauseByCites_112 rfl (lv_at hl 0 rfl) ?_
        refine lv_iconst (v := (1 : Int32)) C.1.1 C.1.2.1 dX12_clauseByCites_113 (by decide) ?_
        refine ql_putV C S qf_13_7 gw_1675 (tyX12) tyX12_ok nmX12 rfl dX12_clauseByCites_114 (v := .int (1 : Int32)) rfl rfl w (fun h H locs S w => ?_)
        refine lv_iconst (v := (0 : Int32)) C.1.1 C.1.2.1 dX12_clauseByCites_117 (by decide) ?_
        exact ql_iret C S hr hlocks dX12_clauseByCites_118 ⟨Nat.le_of_ble_eq_true rfl, Nat.le_of_ble_eq_true rfl⟩ w
      · replace w := ql_ifn w c9
        refine lv_iconst (v := (0 : Int32)) C.1.1 C.1.2.1 dX12_clauseByCites_12 (by decide) ?_
        refine lv_istore_n (lv' := [(3, .int (0 : Int32)), (0, .ref a0), (1, .int xl1), (2, .int xl2)]) C.1.1 C.1.2.1 dX12_clauseByCites_13 rfl hl (by decide) rfl (fun ls hl => ?_)
        refine lv_iconst (v := (0 : Int32)) C.1.1 C.1.2.1 dX12_clauseByCites_14 (by decide) ?_
        refine lv_istore (lv' := [(4, .int (0 : Int32)), (3, .int (0 : Int32)), (0, .ref a0), (1, .int xl1), (2, .int xl2)]) C.1.1 C.1.2.1 dX12_clauseByCites_15 hl (by decide) rfl (fun ls hl => ?_)
        exact hB17 (qw_X12_clauseByCites_2 a0 Q n) ih ql_FU xl1 xl2 (0 : Int32) (0 : Int32) _ _ _ _ S (lv_sub hl [2, 3, 4, 1, 0] rfl) w
  unfold qw_X12_clauseByCites at w
  refine lv_iconst (v := (0 : Int32)) C.1.1 C.1.2.1 dX12_clauseByCites_0 (by decide) ?_
  refine lv_istore_n (lv' := [(2, .int (0 : Int32)), (0, .ref a0), (1, .int xp1)]) C.1.1 C.1.2.1 dX12_clauseByCites_1 rfl hl (by decide) rfl (fun ls hl => ?_)
  exact hB2 ql_FU xp1 (0 : Int32) _ _ _ _ S (lv_sub hl [1, 2, 0] rfl) w
def qw_X12_addedTotal (a0 : Nat) (h : ql_H) (Q : Int32 → ql_H → Prop) : Prop :=
ql_pV h (some a0) 13 7 (.int (0 : Int32)) fun h =>
ql_gR h (some a0) 13 0 fun r1 =>
ql_lI h r1 0 (1 : Int32) fun x2 =>
Q x2 h
set_option maxHeartbeats 4000000 in
set_option maxRecDepth 100000 in
theorem qm_X12_addedTotal (l : Launch) (hl9 : l.stackTraces = false) (D : ql_D) (h0 : ql_H) (a0 : Nat) (Q : Int32 → ql_H → Prop) (X : String → ql_H → Prop) (w : qw_X12_addedTotal a0 h0 Q) : ql_M D l yX12_addedTotal cX12_addedTotal 1 (some .int) ({ frames := 2, cells := 0, slots := 0, locals := 48 } : Room) h0 [.ref a0] (ql_rI Q) X 0 0 := by
  refine ql_ofW (by decide) (Nat.le_of_ble_eq_true rfl) ?_
  intro p e s m below meth c ls C hr hlocks hnm htab S hl
  have hl : lv_has ls 1 [(0, .ref a0)] := hl
  unfold qw_X12_addedTotal at w
  refine ql_aload_n (r := (some a0)) C dX12_addedTotal_0 rfl (lv_at hl 0 rfl) ?_
  refine lv_iconst (v := (0 : Int32)) C.1.1 C.1.2.1 dX12_addedTotal_1 (by decide) ?_
  refine ql_putV C S qf_13_7 gw_1675 (tyX12) tyX12_ok nmX12 rfl dX12_addedTotal_2 (v := .int (0 : Int32)) rfl rfl w (fun h H locs S w => ?_)
  refine ql_aload_n (r := (some a0)) C dX12_addedTotal_5 rfl (lv_at hl 0 rfl) ?_
  refine ql_getR C S qf_13_0 gw_1668 dX12_addedTotal_6 w (fun r1 w => ?_)
  refine lv_iconst (v := (1 : Int32)) C.1.1 C.1.2.1 dX12_addedTotal_9 (by decide) ?_
  refine ql_iald C S dX12_addedTotal_10 w (fun x2 w => ?_)
  exact ql_iret C S hr hlocks dX12_addedTotal_11 ⟨Nat.le_of_ble_eq_true rfl, Nat.le_of_ble_eq_true rfl⟩ w
def qw_X12_amendmentTotal (a0 : Nat) (h : ql_H) (Q : Int32 → ql_H → Prop) : Prop :=
ql_pV h (some a0) 13 7 (.int (0 : Int32)) fun h =>
ql_gR h (some a0) 13 0 fun r1 =>
ql_lI h r1 0 (3 : Int32) fun x2 =>
Q x2 h
set_option maxHeartbeats 4000000 in
set_option maxRecDepth 100000 in
theorem qm_X12_amendmentTotal (l : Launch) (hl9 : l.stackTraces = false) (D : ql_D) (h0 : ql_H) (a0 : Nat) (Q : Int32 → ql_H → Prop) (X : String → ql_H → Prop) (w : qw_X12_amendmentTotal a0 h0 Q) : ql_M D l yX12_amendmentTotal cX12_amendmentTotal 1 (some .int) ({ frames := 2, cells := 0, slots := 0, locals := 48 } : Room) h0 [.ref a0] (ql_rI Q) X 0 0 := by
  refine ql_ofW (by decide) (Nat.le_of_ble_eq_true rfl) ?_
  intro p e s m below meth c ls C hr hlocks hnm htab S hl
  have hl : lv_has ls 1 [(0, .ref a0)] := hl
  unfold qw_X12_amendmentTotal at w
  refine ql_aload_n (r := (some a0)) C dX12_amendmentTotal_0 rfl (lv_at hl 0 rfl) ?_
  refine lv_iconst (v := (0 : Int32)) C.1.1 C.1.2.1 dX12_amendmentTotal_1 (by decide) ?_
  refine ql_putV C S qf_13_7 gw_1675 (tyX12) tyX12_ok nmX12 rfl dX12_amendmentTotal_2 (v := .int (0 : Int32)) rfl rfl w (fun h H locs S w => ?_)
  refine ql_aload_n (r := (some a0)) C dX12_amendmentTotal_5 rfl (lv_at hl 0 rfl) ?_
  refine ql_getR C S qf_13_0 gw_1668 dX12_amendmentTotal_6 w (fun r1 w => ?_)
  refine lv_iconst (v := (3 : Int32)) C.1.1 C.1.2.1 dX12_amendmentTotal_9 (by decide) ?_
  refine ql_iald C S dX12_amendmentTotal_10 w (fun x2 w => ?_)
  exact ql_iret C S hr hlocks dX12_amendmentTotal_11 ⟨Nat.le_of_ble_eq_true rfl, Nat.le_of_ble_eq_true rfl⟩ w
def qw_X12_repealedTotal (a0 : Nat) (h : ql_H) (Q : Int32 → ql_H → Prop) : Prop :=
ql_pV h (some a0) 13 7 (.int (0 : Int32)) fun h =>
ql_gR h (some a0) 13 0 fun r1 =>
ql_lI h r1 0 (4 : Int32) fun x2 =>
Q x2 h
set_option maxHeartbeats 4000000 in
set_option maxRecDepth 100000 in
theorem qm_X12_repealedTotal (l : Launch) (hl9 : l.stackTraces = false) (D : ql_D) (h0 : ql_H) (a0 : Nat) (Q : Int32 → ql_H → Prop) (X : String → ql_H → Prop) (w : qw_X12_repealedTotal a0 h0 Q) : ql_M D l yX12_repealedTotal cX12_repealedTotal 1 (some .int) ({ frames := 2, cells := 0, slots := 0, locals := 48 } : Room) h0 [.ref a0] (ql_rI Q) X 0 0 := by
  refine ql_ofW (by decide) (Nat.le_of_ble_eq_true rfl) ?_
  intro p e s m below meth c ls C hr hlocks hnm htab S hl
  have hl : lv_has ls 1 [(0, .ref a0)] := hl
  unfold qw_X12_repealedTotal at w
  refine ql_aload_n (r := (some a0)) C dX12_repealedTotal_0 rfl (lv_at hl 0 rfl) ?_
  refine lv_iconst (v := (0 : Int32)) C.1.1 C.1.2.1 dX12_repealedTotal_1 (by decide) ?_
  refine ql_putV C S qf_13_7 gw_1675 (tyX12) tyX12_ok nmX12 rfl dX12_repealedTotal_2 (v := .int (0 : Int32)) rfl rfl w (fun h H locs S w => ?_)
  refine ql_aload_n (r := (some a0)) C dX12_repealedTotal_5 rfl (lv_at hl 0 rfl) ?_
  refine ql_getR C S qf_13_0 gw_1668 dX12_repealedTotal_6 w (fun r1 w => ?_)
  refine lv_iconst (v := (4 : Int32)) C.1.1 C.1.2.1 dX12_repealedTotal_9 (by decide) ?_
  refine ql_iald C S dX12_repealedTotal_10 w (fun x2 w => ?_)
  exact ql_iret C S hr hlocks dX12_repealedTotal_11 ⟨Nat.le_of_ble_eq_true rfl, Nat.le_of_ble_eq_true rfl⟩ w
def qw_X12_consolidatedTotal (a0 : Nat) (h : ql_H) (Q : Int32 → ql_H → Prop) : Prop :=
ql_pV h (some a0) 13 7 (.int (0 : Int32)) fun h =>
ql_gR h (some a0) 13 0 fun r1 =>
ql_lI h r1 0 (5 : Int32) fun x2 =>
Q x2 h
set_option maxHeartbeats 4000000 in
set_option maxRecDepth 100000 in
theorem qm_X12_consolidatedTotal (l : Launch) (hl9 : l.stackTraces = false) (D : ql_D) (h0 : ql_H) (a0 : Nat) (Q : Int32 → ql_H → Prop) (X : String → ql_H → Prop) (w : qw_X12_consolidatedTotal a0 h0 Q) : ql_M D l yX12_consolidatedTotal cX12_consolidatedTotal 1 (some .int) ({ frames := 2, cells := 0, slots := 0, locals := 48 } : Room) h0 [.ref a0] (ql_rI Q) X 0 0 := by
  refine ql_ofW (by decide) (Nat.le_of_ble_eq_true rfl) ?_
  intro p e s m below meth c ls C hr hlocks hnm htab S hl
  have hl : lv_has ls 1 [(0, .ref a0)] := hl
  unfold qw_X12_consolidatedTotal at w
  refine ql_aload_n (r := (some a0)) C dX12_consolidatedTotal_0 rfl (lv_at hl 0 rfl) ?_
  refine lv_iconst (v := (0 : Int32)) C.1.1 C.1.2.1 dX12_consolidatedTotal_1 (by decide) ?_
  refine ql_putV C S qf_13_7 gw_1675 (tyX12) tyX12_ok nmX12 rfl dX12_consolidatedTotal_2 (v := .int (0 : Int32)) rfl rfl w (fun h H locs S w => ?_)
  refine ql_aload_n (r := (some a0)) C dX12_consolidatedTotal_5 rfl (lv_at hl 0 rfl) ?_
  refine ql_getR C S qf_13_0 gw_1668 dX12_consolidatedTotal_6 w (fun r1 w => ?_)
  refine lv_iconst (v := (5 : Int32)) C.1.1 C.1.2.1 dX12_consolidatedTotal_9 (by decide) ?_
  refine ql_iald C S dX12_consolidatedTotal_10 w (fun x2 w => ?_)
  exact ql_iret C S hr hlocks dX12_consolidatedTotal_11 ⟨Nat.le_of_ble_eq_true rfl, Nat.le_of_ble_eq_true rfl⟩ w
def qw_X12_editionCount (a0 : Nat) (h : ql_H) (Q : Int32 → ql_H → Prop) : Prop :=
ql_pV h (some a0) 13 7 (.int (0 : Int32)) fun h =>
ql_gR h (some a0) 13 0 fun r1 =>
ql_lI h r1 0 (6 : Int32) fun x2 =>
Q x2 h
set_option maxHeartbeats 4000000 in
set_option maxRecDepth 100000 in
theorem qm_X12_editionCount (l : Launch) (hl9 : l.stackTraces = false) (D : ql_D) (h0 : ql_H) (a0 : Nat) (Q : Int32 → ql_H → Prop) (X : String → ql_H → Prop) (w : qw_X12_editionCount a0 h0 Q) : ql_M D l yX12_editionCount cX12_editionCount 1 (some .int) ({ frames := 2, cells := 0, slots := 0, locals := 48 } : Room) h0 [.ref a0] (ql_rI Q) X 0 0 := by
  refine ql_ofW (by decide) (Nat.le_of_ble_eq_true rfl) ?_
  intro p e s m below meth c ls C hr hlocks hnm htab S hl
  have hl : lv_has ls 1 [(0, .ref a0)] := hl
  unfold qw_X12_editionCount at w
  refine ql_aload_n (r := (some a0)) C dX12_editionCount_0 rfl (lv_at hl 0 rfl) ?_
  refine lv_iconst (v := (0 : Int32)) C.1.1 C.1.2.1 dX12_editionCount_1 (by decide) ?_
  refine ql_putV C S qf_13_7 gw_1675 (tyX12) tyX12_ok nmX12 rfl dX12_editionCount_2 (v := .int (0 : Int32)) rfl rfl w (fun h H locs S w => ?_)
  refine ql_aload_n (r := (some a0)) C dX12_editionCount_5 rfl (lv_at hl 0 rfl) ?_
  refine ql_getR C S qf_13_0 gw_1668 dX12_editionCount_6 w (fun r1 w => ?_)
  refine lv_bipush (v := (6 : Int32)) C.1.1 C.1.2.1 dX12_editionCount_9 (by decide) ?_
  refine ql_iald C S dX12_editionCount_11 w (fun x2 w => ?_)
  exact ql_iret C S hr hlocks dX12_editionCount_12 ⟨Nat.le_of_ble_eq_true rfl, Nat.le_of_ble_eq_true rfl⟩ w
def qw_X12_editionDay_35 (a0 : Nat) (Q : Int32 → ql_H → Prop) (xl1 : Int32) (rs0 : Option Nat) (xs1 : Int32) (h : ql_H) : Prop :=
ql_rv h rs0 13 fun b1 => qw_X12_fails b1 xs1 h (fun x1 h =>
if x1 = 0 then (ql_gR h (some a0) 13 0 fun r3 =>
¬ (6 : Int32) = 0 ∧
ql_lI h r3 0 ((7 : Int32) + ((xl1 - (1 : Int32)) - (xl1 - (1 : Int32)) / (6 : Int32) * (6 : Int32))) fun x4 =>
Q x4 h) else (Q (0 : Int32) h))
def qw_X12_editionDay_34 (a0 : Nat) (Q : Int32 → ql_H → Prop) (xl1 : Int32) (rs0 : Option Nat) (h : ql_H) : Prop :=
qw_X12_editionDay_35 a0 Q xl1 rs0 (1 : Int32) h
def qw_X12_editionDay (a0 : Nat) (xp1 : Int32) (h : ql_H) (Q : Int32 → ql_H → Prop) : Prop :=
ql_gR h (some a0) 13 0 fun r5 =>
ql_lI h r5 0 (6 : Int32) fun x6 =>
qw_X12_in xp1 (1 : Int32) x6 h (fun x7 h =>
if x7 = 0 then (qw_X12_editionDay_34 a0 Q xp1 (some a0) h) else (ql_gR h (some a0) 13 0 fun r8 =>
ql_lI h r8 0 (6 : Int32) fun x9 =>
if xp1 ≤ (x9 - (6 : Int32)) then (qw_X12_editionDay_34 a0 Q xp1 (some a0) h) else (qw_X12_editionDay_35 a0 Q xp1 (some a0) (0 : Int32) h)))
set_option maxHeartbeats 4000000 in
set_option maxRecDepth 100000 in
theorem qm_X12_editionDay (l : Launch) (hl9 : l.stackTraces = false) (D : ql_D) (h0 : ql_H) (a0 : Nat) (xp1 : Int32) (Q : Int32 → ql_H → Prop) (X : String → ql_H → Prop) (w : qw_X12_editionDay a0 xp1 h0 Q) : ql_M D l yX12_editionDay cX12_editionDay 2 (some .int) ({ frames := 4, cells := 0, slots := 0, locals := 78 } : Room) h0 [.ref a0, .int xp1] (ql_rI Q) X 0 0 := by
  refine ql_ofW (by decide) (Nat.le_of_ble_eq_true rfl) ?_
  intro p e s m below meth c ls C hr hlocks hnm htab S hl
  have hl : lv_has ls 2 [(0, .ref a0), (1, .int xp1)] := hl
  have hB35 : ∀ (xl1 : Int32) (rs0 : Option Nat) (xs1 : Int32) (h : ql_H) (H : Heap) (locs : List Loc) (ls : Array Slot), ql_S D h0 s H locs h → lv_has ls 2 [(0, .ref a0), (1, .int xl1)] → qw_X12_editionDay_35 a0 Q xl1 rs0 xs1 h → W p l e ({ frames := 4, cells := 0, slots := 0, locals := 78 } : Room) s m ([.ref a0, .int xp1] : List Value).toArray below meth c H locs 0 0 (vx_MQ below (ql_Q D h0 (ql_rI Q)) (ql_X D h0 X) ([.ref a0, .int xp1] : List Value).toArray s 0 0 (ql_A h0)) (F0 m 35 ls [.int xs1, va_rf rs0]) := by
    intro xl1 rs0 xs1 h H locs ls S hl w
    unfold qw_X12_editionDay_35 at w
    refine ql_VI (As := [.int xs1]) (rest := []) C S htab hlocks hl qy_X12_fails qi_X12_fails qs_X12_fails gw_1749 (ci := 13) rfl w (fun b w => qm_X12_fails l hl9 D _ b xs1 _ _ w) rfl ⟨Nat.le_of_ble_eq_true rfl, Nat.le_of_ble_eq_true rfl⟩ ⟨rfl, rfl⟩ (by exact Nat.le_of_ble_eq_true rfl) (fun b e9 => by cases e9; rfl) dX12_editionDay_35 ⟨Nat.le_of_ble_eq_true rfl, Nat.le_of_ble_eq_true rfl⟩ ⟨Nat.le_of_ble_eq_true rfl, Nat.le_of_ble_eq_true rfl⟩ (fun x1 h H locs S w => ?_)
    refine W.cs (cells' := 0) (slots' := 0) rfl rfl ?_
    refine lv_if_eq (tgt := 45) C.1.1 C.1.2.1 dX12_editionDay_38 (by decide) (fun c9 => ?_) (fun c9 => ?_)
    · replace w := ql_if w c9
      refine ql_aload_n (r := (some a0)) C dX12_editionDay_45 rfl (lv_at hl 0 rfl) ?_
      refine ql_getR C S qf_13_0 gw_1668 dX12_editionDay_46 w (fun r3 w => ?_)
      refine lv_bipush (v := (7 : Int32)) C.1.1 C.1.2.1 dX12_editionDay_49 (by decide) ?_
      refine lv_iload_n C.1.1 C.1.2.1 dX12_editionDay_51 rfl (lv_at hl 1 rfl) ?_
      refine lv_iconst (v := (1 : Int32)) C.1.1 C.1.2.1 dX12_editionDay_52 (by decide) ?_
      refine lv_isub C.1.1 C.1.2.1 dX12_editionDay_53 ?_
      refine lv_bipush (v := (6 : Int32)) C.1.1 C.1.2.1 dX12_editionDay_54 (by decide) ?_
      refine lv_irem C.1.1 C.1.2.1 dX12_editionDay_56 w.1 ?_
      replace w := w.2
      refine lv_iadd C.1.1 C.1.2.1 dX12_editionDay_57 ?_
      refine ql_iald C S dX12_editionDay_58 w (fun x4 w => ?_)
      exact ql_iret C S hr hlocks dX12_editionDay_59 ⟨Nat.le_of_ble_eq_true rfl, Nat.le_of_ble_eq_true rfl⟩ w
    · replace w := ql_ifn w c9
      refine lv_iconst (v := (0 : Int32)) C.1.1 C.1.2.1 dX12_editionDay_41 (by decide) ?_
      refine lv_goto (tgt := 59) C.1.1 C.1.2.1 dX12_editionDay_42 (by decide) ?_
      exact ql_iret C S hr hlocks dX12_editionDay_59 ⟨Nat.le_of_ble_eq_true rfl, Nat.le_of_ble_eq_true rfl⟩ w
  have hB34 : ∀ (xl1 : Int32) (rs0 : Option Nat) (h : ql_H) (H : Heap) (locs : List Loc) (ls : Array Slot), ql_S D h0 s H locs h → lv_has ls 2 [(0, .ref a0), (1, .int xl1)] → qw_X12_editionDay_34 a0 Q xl1 rs0 h → W p l e ({ frames := 4, cells := 0, slots := 0, locals := 78 } : Room) s m ([.ref a0, .int xp1] : List Value).toArray below meth c H locs 0 0 (vx_MQ below (ql_Q D h0 (ql_rI Q)) (ql_X D h0 X) ([.ref a0, .int xp1] : List Value).toArray s 0 0 (ql_A h0)) (F0 m 34 ls [va_rf rs0]) := by
    intro xl1 rs0 h H locs ls S hl w
    unfold qw_X12_editionDay_34 at w
    refine lv_iconst (v := (1 : Int32)) C.1.1 C.1.2.1 dX12_editionDay_34 (by decide) ?_
    exact hB35 xl1 rs0 (1 : Int32) _ _ _ _ S (lv_sub hl [0, 1] rfl) w
  unfold qw_X12_editionDay at w
  refine ql_aload_n (r := (some a0)) C dX12_editionDay_0 rfl (lv_at hl 0 rfl) ?_
  refine lv_iload_n C.1.1 C.1.2.1 dX12_editionDay_1 rfl (lv_at hl 1 rfl) ?_
  refine lv_iconst (v := (1 : Int32)) C.1.1 C.1.2.1 dX12_editionDay_2 (by decide) ?_
  refine ql_aload_n (r := (some a0)) C dX12_editionDay_3 rfl (lv_at hl 0 rfl) ?_
  refine ql_getR C S qf_13_0 gw_1668 dX12_editionDay_4 w (fun r5 w => ?_)
  refine lv_bipush (v := (6 : Int32)) C.1.1 C.1.2.1 dX12_editionDay_7 (by decide) ?_
  refine ql_iald C S dX12_editionDay_9 w (fun x6 w => ?_)
  refine ql_SI (As := [.int xp1, .int (1 : Int32), .int x6]) (rest := [.ref a0]) C S htab hlocks hl qy_X12_in qi_X12_in gw_1735 (qm_X12_in l hl9 D _ xp1 (1 : Int32) x6 _ _ w) rfl ⟨Nat.le_of_ble_eq_true rfl, Nat.le_of_ble_eq_true rfl⟩ ⟨rfl, rfl⟩ (by exact Nat.le_of_ble_eq_true rfl) rfl dX12_editionDay_10 ⟨Nat.le_of_ble_eq_true rfl, Nat.le_of_ble_eq_true rfl⟩ ⟨Nat.le_of_ble_eq_true rfl, Nat.le_of_ble_eq_true rfl⟩ (fun x7 h H locs S w => ?_)
  refine W.cs (cells' := 0) (slots' := 0) rfl rfl ?_
  refine lv_if_eq (tgt := 34) C.1.1 C.1.2.1 dX12_editionDay_13 (by decide) (fun c9 => ?_) (fun c9 => ?_)
  · replace w := ql_if w c9
    exact hB34 xp1 (some a0) _ _ _ _ S (lv_sub hl [0, 1] rfl) w
  · replace w := ql_ifn w c9
    refine lv_iload_n C.1.1 C.1.2.1 dX12_editionDay_16 rfl (lv_at hl 1 rfl) ?_
    refine ql_aload_n (r := (some a0)) C dX12_editionDay_17 rfl (lv_at hl 0 rfl) ?_
    refine ql_getR C S qf_13_0 gw_1668 dX12_editionDay_18 w (fun r8 w => ?_)
    refine lv_bipush (v := (6 : Int32)) C.1.1 C.1.2.1 dX12_editionDay_21 (by decide) ?_
    refine ql_iald C S dX12_editionDay_23 w (fun x9 w => ?_)
    refine lv_bipush (v := (6 : Int32)) C.1.1 C.1.2.1 dX12_editionDay_24 (by decide) ?_
    refine lv_isub C.1.1 C.1.2.1 dX12_editionDay_26 ?_
    refine lv_icmp_le (tgt := 34) C.1.1 C.1.2.1 dX12_editionDay_27 (by decide) (fun c9 => ?_) (fun c9 => ?_)
    · replace w := ql_if w c9
      exact hB34 xp1 (some a0) _ _ _ _ S (lv_sub hl [0, 1] rfl) w
    · replace w := ql_ifn w c9
      refine lv_iconst (v := (0 : Int32)) C.1.1 C.1.2.1 dX12_editionDay_30 (by decide) ?_
      refine lv_goto (tgt := 35) C.1.1 C.1.2.1 dX12_editionDay_31 (by decide) ?_
      exact hB35 xp1 (some a0) (0 : Int32) _ _ _ _ S (lv_sub hl [0, 1] rfl) w
def qw_X12_meanLength_27 (a0 : Nat) (Q : UInt64 → ql_H → Prop) : Nat → Int32 → Int32 → ql_H → Prop
  | 0, _, _, _ => False
  | n + 1, xl1, xl2, h =>
    ql_gR h (some a0) 13 0 fun r1 =>
    ql_lI h r1 0 (0 : Int32) fun x2 =>
    if x2 ≤ xl2 then (ql_gR h (some a0) 13 0 fun r3 =>
    ql_lI h r3 0 (0 : Int32) fun x4 =>
    vf_n64 (FP.ddiv (FP.i2d xl1) (FP.i2d x4)) ∧
    Q (FP.ddiv (FP.i2d xl1) (FP.i2d x4)) h) else (ql_rv h (some a0) 13 fun b5 => qw_X12_long0 b5 xl2 h (fun x5 h =>
    qw_X12_meanLength_27 a0 Q n (xl1 + x5) (xl2 + (1 : Int32)) h))
def qw_X12_meanLength_15 (a0 : Nat) (Q : UInt64 → ql_H → Prop) (rs0 : Option Nat) (xs1 : Int32) (h : ql_H) : Prop :=
ql_rv h rs0 13 fun b7 => qw_X12_fails b7 xs1 h (fun x7 h =>
if x7 = 0 then (qw_X12_meanLength_27 a0 Q ql_FU (0 : Int32) (0 : Int32) h) else (Q FP.dconst0 h))
def qw_X12_meanLength (a0 : Nat) (h : ql_H) (Q : UInt64 → ql_H → Prop) : Prop :=
ql_gR h (some a0) 13 0 fun r9 =>
ql_lI h r9 0 (0 : Int32) fun x10 =>
if x10 = 0 then (qw_X12_meanLength_15 a0 Q (some a0) (1 : Int32) h) else (qw_X12_meanLength_15 a0 Q (some a0) (0 : Int32) h)
set_option maxHeartbeats 4000000 in
set_option maxRecDepth 100000 in
theorem qm_X12_meanLength (l : Launch) (hl9 : l.stackTraces = false) (D : ql_D) (h0 : ql_H) (a0 : Nat) (Q : UInt64 → ql_H → Prop) (X : String → ql_H → Prop) (w : qw_X12_meanLength a0 h0 Q) : ql_M D l yX12_meanLength cX12_meanLength 3 (some .double) ({ frames := 8, cells := 0, slots := 0, locals := 136 } : Room) h0 [.ref a0] (ql_rD Q) X 0 0 := by
  refine ql_ofW (by decide) (Nat.le_of_ble_eq_true rfl) ?_
  intro p e s m below meth c ls C hr hlocks hnm htab S hl
  have hl : lv_has ls 3 [(0, .ref a0)] := hl
  have hB27 : ∀ n : Nat, ∀ (xl1 : Int32) (xl2 : Int32) (h : ql_H) (H : Heap) (locs : List Loc) (ls : Array Slot), ql_S D h0 s H locs h → lv_has ls 3 [(0, .ref a0), (1, .int xl1), (2, .int xl2)] → qw_X12_meanLength_27 a0 Q n xl1 xl2 h → W p l e ({ frames := 8, cells := 0, slots := 0, locals := 136 } : Room) s m ([.ref a0] : List Value).toArray below meth c H locs 0 0 (vx_MQ below (ql_Q D h0 (ql_rD Q)) (ql_X D h0 X) ([.ref a0] : List Value).toArray s 0 0 (ql_A h0)) (F0 m 27 ls []) := by
    intro n
    induction n with
    | zero => intro xl1 xl2 h H locs ls S hl w; rw [qw_X12_meanLength_27] at w; exact w.elim
    | succ n ih =>
      intro xl1 xl2 h H locs ls S hl w
      rw [qw_X12_meanLength_27] at w
      refine lv_iload_n C.1.1 C.1.2.1 dX12_meanLength_27 rfl (lv_at hl 2 rfl) ?_
      refine ql_aload_n (r := (some a0)) C dX12_meanLength_28 rfl (lv_at hl 0 rfl) ?_
      refine ql_getR C S qf_13_0 gw_1668 dX12_meanLength_29 w (fun r1 w => ?_)
      refine lv_iconst (v := (0 : Int32)) C.1.1 C.1.2.1 dX12_meanLength_32 (by decide) ?_
      refine ql_iald C S dX12_meanLength_33 w (fun x2 w => ?_)
      refine lv_icmp_ge (tgt := 51) C.1.1 C.1.2.1 dX12_meanLength_34 (by decide) (fun c9 => ?_) (fun c9 => ?_)
      · replace w := ql_if w c9
        refine lv_iload_n C.1.1 C.1.2.1 dX12_meanLength_51 rfl (lv_at hl 1 rfl) ?_
        refine lv_i2d C.1.1 C.1.2.1 dX12_meanLength_52 ?_
        refine ql_aload_n (r := (some a0)) C dX12_meanLength_53 rfl (lv_at hl 0 rfl) ?_
        refine ql_getR C S qf_13_0 gw_1668 dX12_meanLength_54 w (fun r3 w => ?_)
        refine lv_iconst (v := (0 : Int32)) C.1.1 C.1.2.1 dX12_meanLength_57 (by decide) ?_
        refine ql_iald C S dX12_meanLength_58 w (fun x4 w => ?_)
        refine lv_i2d C.1.1 C.1.2.1 dX12_meanLength_59 ?_
        refine lv_ddiv C.1.1 C.1.2.1 dX12_meanLength_60 w.1 ?_
        replace w := w.2
        exact ql_dret C S hr hlocks dX12_meanLength_61 ⟨Nat.le_of_ble_eq_true rfl, Nat.le_of_ble_eq_true rfl⟩ w
      · replace w := ql_ifn w c9
        refine lv_iload_n C.1.1 C.1.2.1 dX12_meanLength_37 rfl (lv_at hl 1 rfl) ?_
        refine ql_aload_n (r := (some a0)) C dX12_meanLength_38 rfl (lv_at hl 0 rfl) ?_
        refine lv_iload_n C.1.1 C.1.2.1 dX12_meanLength_39 rfl (lv_at hl 2 rfl) ?_
        refine ql_VI (As := [.int xl2]) (rest := [.int xl1]) C S htab hlocks hl qy_X12_long0 qi_X12_long0 qs_X12_long0 gw_1776 (ci := 13) rfl w (fun b w => qm_X12_long0 l hl9 D _ b xl2 _ _ w) rfl ⟨Nat.le_of_ble_eq_true rfl, Nat.le_of_ble_eq_true rfl⟩ ⟨rfl, rfl⟩ (by exact Nat.le_of_ble_eq_true rfl) (fun b e9 => by cases e9; rfl) dX12_meanLength_40 ⟨Nat.le_of_ble_eq_true rfl, Nat.le_of_ble_eq_true rfl⟩ ⟨Nat.le_of_ble_eq_true rfl, Nat.le_of_ble_eq_true rfl⟩ (fun x5 h H locs S w => ?_)
        refine W.cs (cells' := 0) (slots' := 0) rfl rfl ?_
        refine lv_iadd C.1.1 C.1.2.1 dX12_meanLength_43 ?_
        refine lv_istore_n (lv' := [(1, .int (xl1 + x5)), (0, .ref a0), (2, .int xl2)]) C.1.1 C.1.2.1 dX12_meanLength_44 rfl hl (by decide) rfl (fun ls hl => ?_)
        refine lv_iinc (v := (xl2 + (1 : Int32))) (lv' := [(2, .int (xl2 + (1 : Int32))), (1, .int (xl1 + x5)), (0, .ref a0)]) C.1.1 C.1.2.1 dX12_meanLength_45 hl (k := 2) rfl rfl (by decide) rfl (fun ls hl => ?_)
        refine lv_goto (tgt := 27) C.1.1 C.1.2.1 dX12_meanLength_48 (by decide) ?_
        exact ih (xl1 + x5) (xl2 + (1 : Int32)) _ _ _ _ S (lv_sub hl [2, 1, 0] rfl) w
  have hB15 : ∀ (rs0 : Option Nat) (xs1 : Int32) (h : ql_H) (H : Heap) (locs : List Loc) (ls : Array Slot), ql_S D h0 s H locs h → lv_has ls 3 [(0, .ref a0)] → qw_X12_meanLength_15 a0 Q rs0 xs1 h → W p l e ({ frames := 8, cells := 0, slots := 0, locals := 136 } : Room) s m ([.ref a0] : List Value).toArray below meth c H locs 0 0 (vx_MQ below (ql_Q D h0 (ql_rD Q)) (ql_X D h0 X) ([.ref a0] : List Value).toArray s 0 0 (ql_A h0)) (F0 m 15 ls [.int xs1, va_rf rs0]) := by
    intro rs0 xs1 h H locs ls S hl w
    unfold qw_X12_meanLength_15 at w
    refine ql_VI (As := [.int xs1]) (rest := []) C S htab hlocks hl qy_X12_fails qi_X12_fails qs_X12_fails gw_1749 (ci := 13) rfl w (fun b w => qm_X12_fails l hl9 D _ b xs1 _ _ w) rfl ⟨Nat.le_of_ble_eq_true rfl, Nat.le_of_ble_eq_true rfl⟩ ⟨rfl, rfl⟩ (by exact Nat.le_of_ble_eq_true rfl) (fun b e9 => by cases e9; rfl) dX12_meanLength_15 ⟨Nat.le_of_ble_eq_true rfl, Nat.le_of_ble_eq_true rfl⟩ ⟨Nat.le_of_ble_eq_true rfl, Nat.le_of_ble_eq_true rfl⟩ (fun x7 h H locs S w => ?_)
    refine W.cs (cells' := 0) (slots' := 0) rfl rfl ?_
    refine lv_if_eq (tgt := 23) C.1.1 C.1.2.1 dX12_meanLength_18 (by decide) (fun c9 => ?_) (fun c9 => ?_)
    · replace w := ql_if w c9
      refine lv_iconst (v := (0 : Int32)) C.1.1 C.1.2.1 dX12_meanLength_23 (by decide) ?_
      refine lv_istore_n (lv' := [(1, .int (0 : Int32)), (0, .ref a0)]) C.1.1 C.1.2.1 dX12_meanLength_24 rfl hl (by decide) rfl (fun ls hl => ?_)
      refine lv_iconst (v := (0 : Int32)) C.1.1 C.1.2.1 dX12_meanLength_25 (by decide) ?_
      refine lv_istore_n (lv' := [(2, .int (0 : Int32)), (1, .int (0 : Int32)), (0, .ref a0)]) C.1.1 C.1.2.1 dX12_meanLength_26 rfl hl (by decide) rfl (fun ls hl => ?_)
      exact hB27 ql_FU (0 : Int32) (0 : Int32) _ _ _ _ S (lv_sub hl [2, 1, 0] rfl) w
    · replace w := ql_ifn w c9
      refine lv_dconst0 C.1.1 C.1.2.1 dX12_meanLength_21 ?_
      exact ql_dret C S hr hlocks dX12_meanLength_22 ⟨Nat.le_of_ble_eq_true rfl, Nat.le_of_ble_eq_true rfl⟩ w
  unfold qw_X12_meanLength at w
  refine ql_aload_n (r := (some a0)) C dX12_meanLength_0 rfl (lv_at hl 0 rfl) ?_
  refine ql_aload_n (r := (some a0)) C dX12_meanLength_1 rfl (lv_at hl 0 rfl) ?_
  refine ql_getR C S qf_13_0 gw_1668 dX12_meanLength_2 w (fun r9 w => ?_)
  refine lv_iconst (v := (0 : Int32)) C.1.1 C.1.2.1 dX12_meanLength_5 (by decide) ?_
  refine ql_iald C S dX12_meanLength_6 w (fun x10 w => ?_)
  refine lv_if_ne (tgt := 14) C.1.1 C.1.2.1 dX12_meanLength_7 (by decide) (fun c9 => ?_) (fun c9 => ?_)
  · replace w := ql_ifn w c9
    refine lv_iconst (v := (0 : Int32)) C.1.1 C.1.2.1 dX12_meanLength_14 (by decide) ?_
    exact hB15 (some a0) (0 : Int32) _ _ _ _ S (lv_sub hl [0] rfl) w
  · replace w := ql_if w c9
    refine lv_iconst (v := (1 : Int32)) C.1.1 C.1.2.1 dX12_meanLength_10 (by decide) ?_
    refine lv_goto (tgt := 15) C.1.1 C.1.2.1 dX12_meanLength_11 (by decide) ?_
    exact hB15 (some a0) (1 : Int32) _ _ _ _ S (lv_sub hl [0] rfl) w
def qw_X12_inForceShare_15 (a0 : Nat) (Q : UInt32 → ql_H → Prop) (rs0 : Option Nat) (xs1 : Int32) (h : ql_H) : Prop :=
ql_rv h rs0 13 fun b1 => qw_X12_fails b1 xs1 h (fun x1 h =>
if x1 = 0 then (ql_gR h (some a0) 13 0 fun r3 =>
ql_lI h r3 0 (2 : Int32) fun x4 =>
ql_rv h (some a0) 13 fun b5 => qw_X12_valid b5 x4 h (fun x5 h =>
ql_gR h (some a0) 13 0 fun r7 =>
ql_lI h r7 0 (0 : Int32) fun x8 =>
vf_n32 (FP.fdiv (FP.i2f x5) (FP.i2f x8)) ∧
Q (FP.fdiv (FP.i2f x5) (FP.i2f x8)) h)) else (Q FP.fconst0 h))
def qw_X12_inForceShare (a0 : Nat) (h : ql_H) (Q : UInt32 → ql_H → Prop) : Prop :=
ql_gR h (some a0) 13 0 fun r9 =>
ql_lI h r9 0 (0 : Int32) fun x10 =>
if x10 = 0 then (qw_X12_inForceShare_15 a0 Q (some a0) (1 : Int32) h) else (qw_X12_inForceShare_15 a0 Q (some a0) (0 : Int32) h)
set_option maxHeartbeats 4000000 in
set_option maxRecDepth 100000 in
theorem qm_X12_inForceShare (l : Launch) (hl9 : l.stackTraces = false) (D : ql_D) (h0 : ql_H) (a0 : Nat) (Q : UInt32 → ql_H → Prop) (X : String → ql_H → Prop) (w : qw_X12_inForceShare a0 h0 Q) : ql_M D l yX12_inForceShare cX12_inForceShare 1 (some .float) ({ frames := 8, cells := 0, slots := 0, locals := 139 } : Room) h0 [.ref a0] (ql_rF Q) X 0 0 := by
  refine ql_ofW (by decide) (Nat.le_of_ble_eq_true rfl) ?_
  intro p e s m below meth c ls C hr hlocks hnm htab S hl
  have hl : lv_has ls 1 [(0, .ref a0)] := hl
  have hB15 : ∀ (rs0 : Option Nat) (xs1 : Int32) (h : ql_H) (H : Heap) (locs : List Loc) (ls : Array Slot), ql_S D h0 s H locs h → lv_has ls 1 [(0, .ref a0)] → qw_X12_inForceShare_15 a0 Q rs0 xs1 h → W p l e ({ frames := 8, cells := 0, slots := 0, locals := 139 } : Room) s m ([.ref a0] : List Value).toArray below meth c H locs 0 0 (vx_MQ below (ql_Q D h0 (ql_rF Q)) (ql_X D h0 X) ([.ref a0] : List Value).toArray s 0 0 (ql_A h0)) (F0 m 15 ls [.int xs1, va_rf rs0]) := by
    intro rs0 xs1 h H locs ls S hl w
    unfold qw_X12_inForceShare_15 at w
    refine ql_VI (As := [.int xs1]) (rest := []) C S htab hlocks hl qy_X12_fails qi_X12_fails qs_X12_fails gw_1749 (ci := 13) rfl w (fun b w => qm_X12_fails l hl9 D _ b xs1 _ _ w) rfl ⟨Nat.le_of_ble_eq_true rfl, Nat.le_of_ble_eq_true rfl⟩ ⟨rfl, rfl⟩ (by exact Nat.le_of_ble_eq_true rfl) (fun b e9 => by cases e9; rfl) dX12_inForceShare_15 ⟨Nat.le_of_ble_eq_true rfl, Nat.le_of_ble_eq_true rfl⟩ ⟨Nat.le_of_ble_eq_true rfl, Nat.le_of_ble_eq_true rfl⟩ (fun x1 h H locs S w => ?_)
    refine W.cs (cells' := 0) (slots' := 0) rfl rfl ?_
    refine lv_if_eq (tgt := 25) C.1.1 C.1.2.1 dX12_inForceShare_18 (by decide) (fun c9 => ?_) (fun c9 => ?_)
    · replace w := ql_if w c9
      refine ql_aload_n (r := (some a0)) C dX12_inForceShare_25 rfl (lv_at hl 0 rfl) ?_
      refine ql_aload_n (r := (some a0)) C dX12_inForceShare_26 rfl (lv_at hl 0 rfl) ?_
      refine ql_getR C S qf_13_0 gw_1668 dX12_inForceShare_27 w (fun r3 w => ?_)
      refine lv_iconst (v := (2 : Int32)) C.1.1 C.1.2.1 dX12_inForceShare_30 (by decide) ?_
      refine ql_iald C S dX12_inForceShare_31 w (fun x4 w => ?_)
      refine ql_VI (As := [.int x4]) (rest := []) C S htab hlocks hl qy_X12_valid qi_X12_valid qs_X12_valid gw_1900 (ci := 13) rfl w (fun b w => qm_X12_valid l hl9 D _ b x4 _ _ w) rfl ⟨Nat.le_of_ble_eq_true rfl, Nat.le_of_ble_eq_true rfl⟩ ⟨rfl, rfl⟩ (by exact Nat.le_of_ble_eq_true rfl) (fun b e9 => by cases e9; rfl) dX12_inForceShare_32 ⟨Nat.le_of_ble_eq_true rfl, Nat.le_of_ble_eq_true rfl⟩ ⟨Nat.le_of_ble_eq_true rfl, Nat.le_of_ble_eq_true rfl⟩ (fun x5 h H locs S w => ?_)
      refine W.cs (cells' := 0) (slots' := 0) rfl rfl ?_
      refine lv_i2f C.1.1 C.1.2.1 dX12_inForceShare_35 ?_
      refine ql_aload_n (r := (some a0)) C dX12_inForceShare_36 rfl (lv_at hl 0 rfl) ?_
      refine ql_getR C S qf_13_0 gw_1668 dX12_inForceShare_37 w (fun r7 w => ?_)
      refine lv_iconst (v := (0 : Int32)) C.1.1 C.1.2.1 dX12_inForceShare_40 (by decide) ?_
      refine ql_iald C S dX12_inForceShare_41 w (fun x8 w => ?_)
      refine lv_i2f C.1.1 C.1.2.1 dX12_inForceShare_42 ?_
      refine lv_fdiv C.1.1 C.1.2.1 dX12_inForceShare_43 w.1 ?_
      replace w := w.2
      exact ql_fret C S hr hlocks dX12_inForceShare_44 ⟨Nat.le_of_ble_eq_true rfl, Nat.le_of_ble_eq_true rfl⟩ w
    · replace w := ql_ifn w c9
      refine lv_fconst0 C.1.1 C.1.2.1 dX12_inForceShare_21 ?_
      refine lv_goto (tgt := 44) C.1.1 C.1.2.1 dX12_inForceShare_22 (by decide) ?_
      exact ql_fret C S hr hlocks dX12_inForceShare_44 ⟨Nat.le_of_ble_eq_true rfl, Nat.le_of_ble_eq_true rfl⟩ w
  unfold qw_X12_inForceShare at w
  refine ql_aload_n (r := (some a0)) C dX12_inForceShare_0 rfl (lv_at hl 0 rfl) ?_
  refine ql_aload_n (r := (some a0)) C dX12_inForceShare_1 rfl (lv_at hl 0 rfl) ?_
  refine ql_getR C S qf_13_0 gw_1668 dX12_inForceShare_2 w (fun r9 w => ?_)
  refine lv_iconst (v := (0 : Int32)) C.1.1 C.1.2.1 dX12_inForceShare_5 (by decide) ?_
  refine ql_iald C S dX12_inForceShare_6 w (fun x10 w => ?_)
  refine lv_if_ne (tgt := 14) C.1.1 C.1.2.1 dX12_inForceShare_7 (by decide) (fun c9 => ?_) (fun c9 => ?_)
  · replace w := ql_ifn w c9
    refine lv_iconst (v := (0 : Int32)) C.1.1 C.1.2.1 dX12_inForceShare_14 (by decide) ?_
    exact hB15 (some a0) (0 : Int32) _ _ _ _ S (lv_sub hl [0] rfl) w
  · replace w := ql_if w c9
    refine lv_iconst (v := (1 : Int32)) C.1.1 C.1.2.1 dX12_inForceShare_10 (by decide) ?_
    refine lv_goto (tgt := 15) C.1.1 C.1.2.1 dX12_inForceShare_11 (by decide) ?_
    exact hB15 (some a0) (1 : Int32) _ _ _ _ S (lv_sub hl [0] rfl) w
def qw_X12_isConsistent (a0 : Nat) (h : ql_H) (Q : Int32 → ql_H → Prop) : Prop :=
ql_pV h (some a0) 13 7 (.int (0 : Int32)) fun h =>
ql_gR h (some a0) 13 0 fun r1 =>
ql_lI h r1 0 (0 : Int32) fun x2 =>
ql_gR h (some a0) 13 0 fun r3 =>
ql_lI h r3 0 (1 : Int32) fun x4 =>
ql_gR h (some a0) 13 0 fun r5 =>
ql_lI h r5 0 (4 : Int32) fun x6 =>
ql_gR h (some a0) 13 0 fun r7 =>
ql_lI h r7 0 (5 : Int32) fun x8 =>
if x2 = ((x4 - x6) - x8) then (ql_nz .boolean (1 : Int32) ∧ Q (1 : Int32) h) else (ql_nz .boolean (0 : Int32) ∧ Q (0 : Int32) h)
set_option maxHeartbeats 4000000 in
set_option maxRecDepth 100000 in
theorem qm_X12_isConsistent (l : Launch) (hl9 : l.stackTraces = false) (D : ql_D) (h0 : ql_H) (a0 : Nat) (Q : Int32 → ql_H → Prop) (X : String → ql_H → Prop) (w : qw_X12_isConsistent a0 h0 Q) : ql_M D l yX12_isConsistent cX12_isConsistent 1 (some .boolean) ({ frames := 2, cells := 0, slots := 0, locals := 48 } : Room) h0 [.ref a0] (ql_rI Q) X 0 0 := by
  refine ql_ofW (by decide) (Nat.le_of_ble_eq_true rfl) ?_
  intro p e s m below meth c ls C hr hlocks hnm htab S hl
  have hl : lv_has ls 1 [(0, .ref a0)] := hl
  unfold qw_X12_isConsistent at w
  refine ql_aload_n (r := (some a0)) C dX12_isConsistent_0 rfl (lv_at hl 0 rfl) ?_
  refine lv_iconst (v := (0 : Int32)) C.1.1 C.1.2.1 dX12_isConsistent_1 (by decide) ?_
  refine ql_putV C S qf_13_7 gw_1675 (tyX12) tyX12_ok nmX12 rfl dX12_isConsistent_2 (v := .int (0 : Int32)) rfl rfl w (fun h H locs S w => ?_)
  refine ql_aload_n (r := (some a0)) C dX12_isConsistent_5 rfl (lv_at hl 0 rfl) ?_
  refine ql_getR C S qf_13_0 gw_1668 dX12_isConsistent_6 w (fun r1 w => ?_)
  refine lv_iconst (v := (0 : Int32)) C.1.1 C.1.2.1 dX12_isConsistent_9 (by decide) ?_
  refine ql_iald C S dX12_isConsistent_10 w (fun x2 w => ?_)
  refine ql_aload_n (r := (some a0)) C dX12_isConsistent_11 rfl (lv_at hl 0 rfl) ?_
  refine ql_getR C S qf_13_0 gw_1668 dX12_isConsistent_12 w (fun r3 w => ?_)
  refine lv_iconst (v := (1 : Int32)) C.1.1 C.1.2.1 dX12_isConsistent_15 (by decide) ?_
  refine ql_iald C S dX12_isConsistent_16 w (fun x4 w => ?_)
  refine ql_aload_n (r := (some a0)) C dX12_isConsistent_17 rfl (lv_at hl 0 rfl) ?_
  refine ql_getR C S qf_13_0 gw_1668 dX12_isConsistent_18 w (fun r5 w => ?_)
  refine lv_iconst (v := (4 : Int32)) C.1.1 C.1.2.1 dX12_isConsistent_21 (by decide) ?_
  refine ql_iald C S dX12_isConsistent_22 w (fun x6 w => ?_)
  refine lv_isub C.1.1 C.1.2.1 dX12_isConsistent_23 ?_
  refine ql_aload_n (r := (some a0)) C dX12_isConsistent_24 rfl (lv_at hl 0 rfl) ?_
  refine ql_getR C S qf_13_0 gw_1668 dX12_isConsistent_25 w (fun r7 w => ?_)
  refine lv_iconst (v := (5 : Int32)) C.1.1 C.1.2.1 dX12_isConsistent_28 (by decide) ?_
  refine ql_iald C S dX12_isConsistent_29 w (fun x8 w => ?_)
  refine lv_isub C.1.1 C.1.2.1 dX12_isConsistent_30 ?_
  refine lv_icmp_ne (tgt := 38) C.1.1 C.1.2.1 dX12_isConsistent_31 (by decide) (fun c9 => ?_) (fun c9 => ?_)
  · replace w := ql_ifn w c9
    refine lv_iconst (v := (0 : Int32)) C.1.1 C.1.2.1 dX12_isConsistent_38 (by decide) ?_
    exact ql_zret C S hr hlocks dX12_isConsistent_39 ⟨Nat.le_of_ble_eq_true rfl, Nat.le_of_ble_eq_true rfl⟩ w
  · replace w := ql_if w c9
    refine lv_iconst (v := (1 : Int32)) C.1.1 C.1.2.1 dX12_isConsistent_34 (by decide) ?_
    refine lv_goto (tgt := 39) C.1.1 C.1.2.1 dX12_isConsistent_35 (by decide) ?_
    exact ql_zret C S hr hlocks dX12_isConsistent_39 ⟨Nat.le_of_ble_eq_true rfl, Nat.le_of_ble_eq_true rfl⟩ w
def qw_X12_writes (a0 : Nat) (xp1 : Int32) (h : ql_H) (Q : ql_H → Prop) : Prop :=
ql_gR h (some a0) 13 12 fun r1 =>
ql_gI h (some a0) 13 13 fun x2 =>
ql_sI h r1 2 x2 (vp_nar .char (xp1.toUInt32 % 65536).toInt32) fun h =>
ql_gI h (some a0) 13 13 fun x3 =>
ql_pV h (some a0) 13 13 (.int (x3 + (1 : Int32))) fun h =>
Q h
set_option maxHeartbeats 4000000 in
set_option maxRecDepth 100000 in
theorem qm_X12_writes (l : Launch) (hl9 : l.stackTraces = false) (D : ql_D) (h0 : ql_H) (a0 : Nat) (xp1 : Int32) (Q : ql_H → Prop) (X : String → ql_H → Prop) (w : qw_X12_writes a0 xp1 h0 Q) : ql_M D l yX12_writes cX12_writes 2 none ({ frames := 2, cells := 0, slots := 0, locals := 48 } : Room) h0 [.ref a0, .int xp1] (ql_rV Q) X 0 0 := by
  refine ql_ofW (by decide) (Nat.le_of_ble_eq_true rfl) ?_
  intro p e s m below meth c ls C hr hlocks hnm htab S hl
  have hl : lv_has ls 2 [(0, .ref a0), (1, .int xp1)] := hl
  unfold qw_X12_writes at w
  refine ql_aload_n (r := (some a0)) C dX12_writes_0 rfl (lv_at hl 0 rfl) ?_
  refine ql_getR C S qf_13_12 gw_1680 dX12_writes_1 w (fun r1 w => ?_)
  refine ql_aload_n (r := (some a0)) C dX12_writes_4 rfl (lv_at hl 0 rfl) ?_
  refine ql_getI C S qf_13_13 gw_1681 dX12_writes_5 w (fun x2 w => ?_)
  refine lv_iload_n C.1.1 C.1.2.1 dX12_writes_8 rfl (lv_at hl 1 rfl) ?_
  refine lv_i2c C.1.1 C.1.2.1 dX12_writes_9 rfl ?_
  refine ql_cast C S dX12_writes_10 w (fun h H locs S w => ?_)
  refine ql_aload_n (r := (some a0)) C dX12_writes_11 rfl (lv_at hl 0 rfl) ?_
  refine lv_dup C.1.1 C.1.2.1 dX12_writes_12 (ql_catR _) ?_
  refine ql_getI C S qf_13_13 gw_1681 dX12_writes_13 w (fun x3 w => ?_)
  refine lv_iconst (v := (1 : Int32)) C.1.1 C.1.2.1 dX12_writes_16 (by decide) ?_
  refine lv_iadd C.1.1 C.1.2.1 dX12_writes_17 ?_
  refine ql_putV C S qf_13_13 gw_1681 (tyX12) tyX12_ok nmX12 rfl dX12_writes_18 (v := .int (x3 + (1 : Int32))) rfl rfl w (fun h H locs S w => ?_)
  exact ql_vret C S hr hlocks dX12_writes_21 ⟨Nat.le_of_ble_eq_true rfl, Nat.le_of_ble_eq_true rfl⟩ w
def qw_X12_writesNumber_d0_14 (a0 : Nat) (Q : ql_H → Prop) (xl1 : Int32) (h : ql_H) : Prop :=
¬ (10 : Int32) = 0 ∧
ql_rv h (some a0) 13 fun b0 => qw_X12_writes b0 ((48 : Int32) + (xl1 - xl1 / (10 : Int32) * (10 : Int32))) h (fun h =>
Q h)
def qw_X12_writesNumber_d0 (a0 : Nat) (xp1 : Int32) (h : ql_H) (Q : ql_H → Prop) : Prop :=
if xp1 ≤ (9 : Int32) then (qw_X12_writesNumber_d0_14 a0 Q xp1 h) else (¬ (10 : Int32) = 0 ∧
False)
set_option maxHeartbeats 4000000 in
set_option maxRecDepth 100000 in
theorem qm_X12_writesNumber_d0 (l : Launch) (hl9 : l.stackTraces = false) (D : ql_D) (h0 : ql_H) (a0 : Nat) (xp1 : Int32) (Q : ql_H → Prop) (X : String → ql_H → Prop) (w : qw_X12_writesNumber_d0 a0 xp1 h0 Q) : ql_M D l yX12_writesNumber cX12_writesNumber 2 none ({ frames := 4, cells := 0, slots := 0, locals := 77 } : Room) h0 [.ref a0, .int xp1] (ql_rV Q) X 0 0 := by
  refine ql_ofW (by decide) (Nat.le_of_ble_eq_true rfl) ?_
  intro p e s m below meth c ls C hr hlocks hnm htab S hl
  have hl : lv_has ls 2 [(0, .ref a0), (1, .int xp1)] := hl
  have hB14 : ∀ (xl1 : Int32) (h : ql_H) (H : Heap) (locs : List Loc) (ls : Array Slot), ql_S D h0 s H locs h → lv_has ls 2 [(0, .ref a0), (1, .int xl1)] → qw_X12_writesNumber_d0_14 a0 Q xl1 h → W p l e ({ frames := 4, cells := 0, slots := 0, locals := 77 } : Room) s m ([.ref a0, .int xp1] : List Value).toArray below meth c H locs 0 0 (vx_MQ below (ql_Q D h0 (ql_rV Q)) (ql_X D h0 X) ([.ref a0, .int xp1] : List Value).toArray s 0 0 (ql_A h0)) (F0 m 14 ls []) := by
    intro xl1 h H locs ls S hl w
    unfold qw_X12_writesNumber_d0_14 at w
    refine ql_aload_n (r := (some a0)) C dX12_writesNumber_14 rfl (lv_at hl 0 rfl) ?_
    refine lv_bipush (v := (48 : Int32)) C.1.1 C.1.2.1 dX12_writesNumber_15 (by decide) ?_
    refine lv_iload_n C.1.1 C.1.2.1 dX12_writesNumber_17 rfl (lv_at hl 1 rfl) ?_
    refine lv_bipush (v := (10 : Int32)) C.1.1 C.1.2.1 dX12_writesNumber_18 (by decide) ?_
    refine lv_irem C.1.1 C.1.2.1 dX12_writesNumber_20 w.1 ?_
    replace w := w.2
    refine lv_iadd C.1.1 C.1.2.1 dX12_writesNumber_21 ?_
    refine ql_VV (As := [.int ((48 : Int32) + (xl1 - xl1 / (10 : Int32) * (10 : Int32)))]) (rest := []) C S htab hlocks hl qy_X12_writes qi_X12_writes qs_X12_writes gw_2051 (ci := 13) rfl w (fun b w => qm_X12_writes l hl9 D _ b ((48 : Int32) + (xl1 - xl1 / (10 : Int32) * (10 : Int32))) _ _ w) rfl ⟨Nat.le_of_ble_eq_true rfl, Nat.le_of_ble_eq_true rfl⟩ ⟨rfl, rfl⟩ (by exact Nat.le_of_ble_eq_true rfl) (fun b e9 => by cases e9; rfl) dX12_writesNumber_22 ⟨Nat.le_of_ble_eq_true rfl, Nat.le_of_ble_eq_true rfl⟩ ⟨Nat.le_of_ble_eq_true rfl, Nat.le_of_ble_eq_true rfl⟩ (fun h H locs S w => ?_)
    refine W.cs (cells' := 0) (slots' := 0) rfl rfl ?_
    exact ql_vret C S hr hlocks dX12_writesNumber_25 ⟨Nat.le_of_ble_eq_true rfl, Nat.le_of_ble_eq_true rfl⟩ w
  unfold qw_X12_writesNumber_d0 at w
  refine lv_iload_n C.1.1 C.1.2.1 dX12_writesNumber_0 rfl (lv_at hl 1 rfl) ?_
  refine lv_bipush (v := (9 : Int32)) C.1.1 C.1.2.1 dX12_writesNumber_1 (by decide) ?_
  refine lv_icmp_le (tgt := 14) C.1.1 C.1.2.1 dX12_writesNumber_3 (by decide) (fun c9 => ?_) (fun c9 => ?_)
  · replace w := ql_if w c9
    exact hB14 xp1 _ _ _ _ S (lv_sub hl [0, 1] rfl) w
  · replace w := ql_ifn w c9
    refine ql_aload_n (r := (some a0)) C dX12_writesNumber_6 rfl (lv_at hl 0 rfl) ?_
    refine lv_iload_n C.1.1 C.1.2.1 dX12_writesNumber_7 rfl (lv_at hl 1 rfl) ?_
    refine lv_bipush (v := (10 : Int32)) C.1.1 C.1.2.1 dX12_writesNumber_8 (by decide) ?_
    refine lv_idiv C.1.1 C.1.2.1 dX12_writesNumber_10 w.1 ?_
    replace w := w.2
    exact w.elim
def qw_X12_writesNumber_d1_14 (a0 : Nat) (Q : ql_H → Prop) (xl1 : Int32) (h : ql_H) : Prop :=
¬ (10 : Int32) = 0 ∧
ql_rv h (some a0) 13 fun b0 => qw_X12_writes b0 ((48 : Int32) + (xl1 - xl1 / (10 : Int32) * (10 : Int32))) h (fun h =>
Q h)
def qw_X12_writesNumber_d1 (a0 : Nat) (xp1 : Int32) (h : ql_H) (Q : ql_H → Prop) : Prop :=
if xp1 ≤ (9 : Int32) then (qw_X12_writesNumber_d1_14 a0 Q xp1 h) else (¬ (10 : Int32) = 0 ∧
ql_rv h (some a0) 13 fun b1 => qw_X12_writesNumber_d0 b1 (xp1 / (10 : Int32)) h (fun h =>
qw_X12_writesNumber_d1_14 a0 Q xp1 h))
set_option maxHeartbeats 4000000 in
set_option maxRecDepth 100000 in
theorem qm_X12_writesNumber_d1 (l : Launch) (hl9 : l.stackTraces = false) (D : ql_D) (h0 : ql_H) (a0 : Nat) (xp1 : Int32) (Q : ql_H → Prop) (X : String → ql_H → Prop) (w : qw_X12_writesNumber_d1 a0 xp1 h0 Q) : ql_M D l yX12_writesNumber cX12_writesNumber 2 none ({ frames := 6, cells := 0, slots := 0, locals := 106 } : Room) h0 [.ref a0, .int xp1] (ql_rV Q) X 0 0 := by
  refine ql_ofW (by decide) (Nat.le_of_ble_eq_true rfl) ?_
  intro p e s m below meth c ls C hr hlocks hnm htab S hl
  have hl : lv_has ls 2 [(0, .ref a0), (1, .int xp1)] := hl
  have hB14 : ∀ (xl1 : Int32) (h : ql_H) (H : Heap) (locs : List Loc) (ls : Array Slot), ql_S D h0 s H locs h → lv_has ls 2 [(0, .ref a0), (1, .int xl1)] → qw_X12_writesNumber_d1_14 a0 Q xl1 h → W p l e ({ frames := 6, cells := 0, slots := 0, locals := 106 } : Room) s m ([.ref a0, .int xp1] : List Value).toArray below meth c H locs 0 0 (vx_MQ below (ql_Q D h0 (ql_rV Q)) (ql_X D h0 X) ([.ref a0, .int xp1] : List Value).toArray s 0 0 (ql_A h0)) (F0 m 14 ls []) := by
    intro xl1 h H locs ls S hl w
    unfold qw_X12_writesNumber_d1_14 at w
    refine ql_aload_n (r := (some a0)) C dX12_writesNumber_14 rfl (lv_at hl 0 rfl) ?_
    refine lv_bipush (v := (48 : Int32)) C.1.1 C.1.2.1 dX12_writesNumber_15 (by decide) ?_
    refine lv_iload_n C.1.1 C.1.2.1 dX12_writesNumber_17 rfl (lv_at hl 1 rfl) ?_
    refine lv_bipush (v := (10 : Int32)) C.1.1 C.1.2.1 dX12_writesNumber_18 (by decide) ?_
    refine lv_irem C.1.1 C.1.2.1 dX12_writesNumber_20 w.1 ?_
    replace w := w.2
    refine lv_iadd C.1.1 C.1.2.1 dX12_writesNumber_21 ?_
    refine ql_VV (As := [.int ((48 : Int32) + (xl1 - xl1 / (10 : Int32) * (10 : Int32)))]) (rest := []) C S htab hlocks hl qy_X12_writes qi_X12_writes qs_X12_writes gw_2051 (ci := 13) rfl w (fun b w => qm_X12_writes l hl9 D _ b ((48 : Int32) + (xl1 - xl1 / (10 : Int32) * (10 : Int32))) _ _ w) rfl ⟨Nat.le_of_ble_eq_true rfl, Nat.le_of_ble_eq_true rfl⟩ ⟨rfl, rfl⟩ (by exact Nat.le_of_ble_eq_true rfl) (fun b e9 => by cases e9; rfl) dX12_writesNumber_22 ⟨Nat.le_of_ble_eq_true rfl, Nat.le_of_ble_eq_true rfl⟩ ⟨Nat.le_of_ble_eq_true rfl, Nat.le_of_ble_eq_true rfl⟩ (fun h H locs S w => ?_)
    refine W.cs (cells' := 0) (slots' := 0) rfl rfl ?_
    exact ql_vret C S hr hlocks dX12_writesNumber_25 ⟨Nat.le_of_ble_eq_true rfl, Nat.le_of_ble_eq_true rfl⟩ w
  unfold qw_X12_writesNumber_d1 at w
  refine lv_iload_n C.1.1 C.1.2.1 dX12_writesNumber_0 rfl (lv_at hl 1 rfl) ?_
  refine lv_bipush (v := (9 : Int32)) C.1.1 C.1.2.1 dX12_writesNumber_1 (by decide) ?_
  refine lv_icmp_le (tgt := 14) C.1.1 C.1.2.1 dX12_writesNumber_3 (by decide) (fun c9 => ?_) (fun c9 => ?_)
  · replace w := ql_if w c9
    exact hB14 xp1 _ _ _ _ S (lv_sub hl [0, 1] rfl) w
  · replace w := ql_ifn w c9
    refine ql_aload_n (r := (some a0)) C dX12_writesNumber_6 rfl (lv_at hl 0 rfl) ?_
    refine lv_iload_n C.1.1 C.1.2.1 dX12_writesNumber_7 rfl (lv_at hl 1 rfl) ?_
    refine lv_bipush (v := (10 : Int32)) C.1.1 C.1.2.1 dX12_writesNumber_8 (by decide) ?_
    refine lv_idiv C.1.1 C.1.2.1 dX12_writesNumber_10 w.1 ?_
    replace w := w.2
    refine ql_VV (As := [.int (xp1 / (10 : Int32))]) (rest := []) C S htab hlocks hl qy_X12_writesNumber qi_X12_writesNumber qs_X12_writesNumber gw_2047 (ci := 13) rfl w (fun b w => qm_X12_writesNumber_d0 l hl9 D _ b (xp1 / (10 : Int32)) _ _ w) rfl ⟨Nat.le_of_ble_eq_true rfl, Nat.le_of_ble_eq_true rfl⟩ ⟨rfl, rfl⟩ (by exact Nat.le_of_ble_eq_true rfl) (fun b e9 => by cases e9; rfl) dX12_writesNumber_11 ⟨Nat.le_of_ble_eq_true rfl, Nat.le_of_ble_eq_true rfl⟩ ⟨Nat.le_of_ble_eq_true rfl, Nat.le_of_ble_eq_true rfl⟩ (fun h H locs S w => ?_)
    refine W.cs (cells' := 0) (slots' := 0) rfl rfl ?_
    exact hB14 xp1 _ _ _ _ S (lv_sub hl [0, 1] rfl) w
def qw_X12_writesNumber_d2_14 (a0 : Nat) (Q : ql_H → Prop) (xl1 : Int32) (h : ql_H) : Prop :=
¬ (10 : Int32) = 0 ∧
ql_rv h (some a0) 13 fun b0 => qw_X12_writes b0 ((48 : Int32) + (xl1 - xl1 / (10 : Int32) * (10 : Int32))) h (fun h =>
Q h)
def qw_X12_writesNumber_d2 (a0 : Nat) (xp1 : Int32) (h : ql_H) (Q : ql_H → Prop) : Prop :=
if xp1 ≤ (9 : Int32) then (qw_X12_writesNumber_d2_14 a0 Q xp1 h) else (¬ (10 : Int32) = 0 ∧
ql_rv h (some a0) 13 fun b1 => qw_X12_writesNumber_d1 b1 (xp1 / (10 : Int32)) h (fun h =>
qw_X12_writesNumber_d2_14 a0 Q xp1 h))
set_option maxHeartbeats 4000000 in
set_option maxRecDepth 100000 in
theorem qm_X12_writesNumber_d2 (l : Launch) (hl9 : l.stackTraces = false) (D : ql_D) (h0 : ql_H) (a0 : Nat) (xp1 : Int32) (Q : ql_H → Prop) (X : String → ql_H → Prop) (w : qw_X12_writesNumber_d2 a0 xp1 h0 Q) : ql_M D l yX12_writesNumber cX12_writesNumber 2 none ({ frames := 8, cells := 0, slots := 0, locals := 135 } : Room) h0 [.ref a0, .int xp1] (ql_rV Q) X 0 0 := by
  refine ql_ofW (by decide) (Nat.le_of_ble_eq_true rfl) ?_
  intro p e s m below meth c ls C hr hlocks hnm htab S hl
  have hl : lv_has ls 2 [(0, .ref a0), (1, .int xp1)] := hl
  have hB14 : ∀ (xl1 : Int32) (h : ql_H) (H : Heap) (locs : List Loc) (ls : Array Slot), ql_S D h0 s H locs h → lv_has ls 2 [(0, .ref a0), (1, .int xl1)] → qw_X12_writesNumber_d2_14 a0 Q xl1 h → W p l e ({ frames := 8, cells := 0, slots := 0, locals := 135 } : Room) s m ([.ref a0, .int xp1] : List Value).toArray below meth c H locs 0 0 (vx_MQ below (ql_Q D h0 (ql_rV Q)) (ql_X D h0 X) ([.ref a0, .int xp1] : List Value).toArray s 0 0 (ql_A h0)) (F0 m 14 ls []) := by
    intro xl1 h H locs ls S hl w
    unfold qw_X12_writesNumber_d2_14 at w
    refine ql_aload_n (r := (some a0)) C dX12_writesNumber_14 rfl (lv_at hl 0 rfl) ?_
    refine lv_bipush (v := (48 : Int32)) C.1.1 C.1.2.1 dX12_writesNumber_15 (by decide) ?_
    refine lv_iload_n C.1.1 C.1.2.1 dX12_writesNumber_17 rfl (lv_at hl 1 rfl) ?_
    refine lv_bipush (v := (10 : Int32)) C.1.1 C.1.2.1 dX12_writesNumber_18 (by decide) ?_
    refine lv_irem C.1.1 C.1.2.1 dX12_writesNumber_20 w.1 ?_
    replace w := w.2
    refine lv_iadd C.1.1 C.1.2.1 dX12_writesNumber_21 ?_
    refine ql_VV (As := [.int ((48 : Int32) + (xl1 - xl1 / (10 : Int32) * (10 : Int32)))]) (rest := []) C S htab hlocks hl qy_X12_writes qi_X12_writes qs_X12_writes gw_2051 (ci := 13) rfl w (fun b w => qm_X12_writes l hl9 D _ b ((48 : Int32) + (xl1 - xl1 / (10 : Int32) * (10 : Int32))) _ _ w) rfl ⟨Nat.le_of_ble_eq_true rfl, Nat.le_of_ble_eq_true rfl⟩ ⟨rfl, rfl⟩ (by exact Nat.le_of_ble_eq_true rfl) (fun b e9 => by cases e9; rfl) dX12_writesNumber_22 ⟨Nat.le_of_ble_eq_true rfl, Nat.le_of_ble_eq_true rfl⟩ ⟨Nat.le_of_ble_eq_true rfl, Nat.le_of_ble_eq_true rfl⟩ (fun h H locs S w => ?_)
    refine W.cs (cells' := 0) (slots' := 0) rfl rfl ?_
    exact ql_vret C S hr hlocks dX12_writesNumber_25 ⟨Nat.le_of_ble_eq_true rfl, Nat.le_of_ble_eq_true rfl⟩ w
  unfold qw_X12_writesNumber_d2 at w
  refine lv_iload_n C.1.1 C.1.2.1 dX12_writesNumber_0 rfl (lv_at hl 1 rfl) ?_
  refine lv_bipush (v := (9 : Int32)) C.1.1 C.1.2.1 dX12_writesNumber_1 (by decide) ?_
  refine lv_icmp_le (tgt := 14) C.1.1 C.1.2.1 dX12_writesNumber_3 (by decide) (fun c9 => ?_) (fun c9 => ?_)
  · replace w := ql_if w c9
    exact hB14 xp1 _ _ _ _ S (lv_sub hl [0, 1] rfl) w
  · replace w := ql_ifn w c9
    refine ql_aload_n (r := (some a0)) C dX12_writesNumber_6 rfl (lv_at hl 0 rfl) ?_
    refine lv_iload_n C.1.1 C.1.2.1 dX12_writesNumber_7 rfl (lv_at hl 1 rfl) ?_
    refine lv_bipush (v := (10 : Int32)) C.1.1 C.1.2.1 dX12_writesNumber_8 (by decide) ?_
    refine lv_idiv C.1.1 C.1.2.1 dX12_writesNumber_10 w.1 ?_
    replace w := w.2
    refine ql_VV (As := [.int (xp1 / (10 : Int32))]) (rest := []) C S htab hlocks hl qy_X12_writesNumber qi_X12_writesNumber qs_X12_writesNumber gw_2047 (ci := 13) rfl w (fun b w => qm_X12_writesNumber_d1 l hl9 D _ b (xp1 / (10 : Int32)) _ _ w) rfl ⟨Nat.le_of_ble_eq_true rfl, Nat.le_of_ble_eq_true rfl⟩ ⟨rfl, rfl⟩ (by exact Nat.le_of_ble_eq_true rfl) (fun b e9 => by cases e9; rfl) dX12_writesNumber_11 ⟨Nat.le_of_ble_eq_true rfl, Nat.le_of_ble_eq_true rfl⟩ ⟨Nat.le_of_ble_eq_true rfl, Nat.le_of_ble_eq_true rfl⟩ (fun h H locs S w => ?_)
    refine W.cs (cells' := 0) (slots' := 0) rfl rfl ?_
    exact hB14 xp1 _ _ _ _ S (lv_sub hl [0, 1] rfl) w
def qw_X12_writesNumber_d3_14 (a0 : Nat) (Q : ql_H → Prop) (xl1 : Int32) (h : ql_H) : Prop :=
¬ (10 : Int32) = 0 ∧
ql_rv h (some a0) 13 fun b0 => qw_X12_writes b0 ((48 : Int32) + (xl1 - xl1 / (10 : Int32) * (10 : Int32))) h (fun h =>
Q h)
def qw_X12_writesNumber_d3 (a0 : Nat) (xp1 : Int32) (h : ql_H) (Q : ql_H → Prop) : Prop :=
if xp1 ≤ (9 : Int32) then (qw_X12_writesNumber_d3_14 a0 Q xp1 h) else (¬ (10 : Int32) = 0 ∧
ql_rv h (some a0) 13 fun b1 => qw_X12_writesNumber_d2 b1 (xp1 / (10 : Int32)) h (fun h =>
qw_X12_writesNumber_d3_14 a0 Q xp1 h))
set_option maxHeartbeats 4000000 in
set_option maxRecDepth 100000 in
theorem qm_X12_writesNumber_d3 (l : Launch) (hl9 : l.stackTraces = false) (D : ql_D) (h0 : ql_H) (a0 : Nat) (xp1 : Int32) (Q : ql_H → Prop) (X : String → ql_H → Prop) (w : qw_X12_writesNumber_d3 a0 xp1 h0 Q) : ql_M D l yX12_writesNumber cX12_writesNumber 2 none ({ frames := 10, cells := 0, slots := 0, locals := 164 } : Room) h0 [.ref a0, .int xp1] (ql_rV Q) X 0 0 := by
  refine ql_ofW (by decide) (Nat.le_of_ble_eq_true rfl) ?_
  intro p e s m below meth c ls C hr hlocks hnm htab S hl
  have hl : lv_has ls 2 [(0, .ref a0), (1, .int xp1)] := hl
  have hB14 : ∀ (xl1 : Int32) (h : ql_H) (H : Heap) (locs : List Loc) (ls : Array Slot), ql_S D h0 s H locs h → lv_has ls 2 [(0, .ref a0), (1, .int xl1)] → qw_X12_writesNumber_d3_14 a0 Q xl1 h → W p l e ({ frames := 10, cells := 0, slots := 0, locals := 164 } : Room) s m ([.ref a0, .int xp1] : List Value).toArray below meth c H locs 0 0 (vx_MQ below (ql_Q D h0 (ql_rV Q)) (ql_X D h0 X) ([.ref a0, .int xp1] : List Value).toArray s 0 0 (ql_A h0)) (F0 m 14 ls []) := by
    intro xl1 h H locs ls S hl w
    unfold qw_X12_writesNumber_d3_14 at w
    refine ql_aload_n (r := (some a0)) C dX12_writesNumber_14 rfl (lv_at hl 0 rfl) ?_
    refine lv_bipush (v := (48 : Int32)) C.1.1 C.1.2.1 dX12_writesNumber_15 (by decide) ?_
    refine lv_iload_n C.1.1 C.1.2.1 dX12_writesNumber_17 rfl (lv_at hl 1 rfl) ?_
    refine lv_bipush (v := (10 : Int32)) C.1.1 C.1.2.1 dX12_writesNumber_18 (by decide) ?_
    refine lv_irem C.1.1 C.1.2.1 dX12_writesNumber_20 w.1 ?_
    replace w := w.2
    refine lv_iadd C.1.1 C.1.2.1 dX12_writesNumber_21 ?_
    refine ql_VV (As := [.int ((48 : Int32) + (xl1 - xl1 / (10 : Int32) * (10 : Int32)))]) (rest := []) C S htab hlocks hl qy_X12_writes qi_X12_writes qs_X12_writes gw_2051 (ci := 13) rfl w (fun b w => qm_X12_writes l hl9 D _ b ((48 : Int32) + (xl1 - xl1 / (10 : Int32) * (10 : Int32))) _ _ w) rfl ⟨Nat.le_of_ble_eq_true rfl, Nat.le_of_ble_eq_true rfl⟩ ⟨rfl, rfl⟩ (by exact Nat.le_of_ble_eq_true rfl) (fun b e9 => by cases e9; rfl) dX12_writesNumber_22 ⟨Nat.le_of_ble_eq_true rfl, Nat.le_of_ble_eq_true rfl⟩ ⟨Nat.le_of_ble_eq_true rfl, Nat.le_of_ble_eq_true rfl⟩ (fun h H locs S w => ?_)
    refine W.cs (cells' := 0) (slots' := 0) rfl rfl ?_
    exact ql_vret C S hr hlocks dX12_writesNumber_25 ⟨Nat.le_of_ble_eq_true rfl, Nat.le_of_ble_eq_true rfl⟩ w
  unfold qw_X12_writesNumber_d3 at w
  refine lv_iload_n C.1.1 C.1.2.1 dX12_writesNumber_0 rfl (lv_at hl 1 rfl) ?_
  refine lv_bipush (v := (9 : Int32)) C.1.1 C.1.2.1 dX12_writesNumber_1 (by decide) ?_
  refine lv_icmp_le (tgt := 14) C.1.1 C.1.2.1 dX12_writesNumber_3 (by decide) (fun c9 => ?_) (fun c9 => ?_)
  · replace w := ql_if w c9
    exact hB14 xp1 _ _ _ _ S (lv_sub hl [0, 1] rfl) w
  · replace w := ql_ifn w c9
    refine ql_aload_n (r := (some a0)) C dX12_writesNumber_6 rfl (lv_at hl 0 rfl) ?_
    refine lv_iload_n C.1.1 C.1.2.1 dX12_writesNumber_7 rfl (lv_at hl 1 rfl) ?_
    refine lv_bipush (v := (10 : Int32)) C.1.1 C.1.2.1 dX12_writesNumber_8 (by decide) ?_
    refine lv_idiv C.1.1 C.1.2.1 dX12_writesNumber_10 w.1 ?_
    replace w := w.2
    refine ql_VV (As := [.int (xp1 / (10 : Int32))]) (rest := []) C S htab hlocks hl qy_X12_writesNumber qi_X12_writesNumber qs_X12_writesNumber gw_2047 (ci := 13) rfl w (fun b w => qm_X12_writesNumber_d2 l hl9 D _ b (xp1 / (10 : Int32)) _ _ w) rfl ⟨Nat.le_of_ble_eq_true rfl, Nat.le_of_ble_eq_true rfl⟩ ⟨rfl, rfl⟩ (by exact Nat.le_of_ble_eq_true rfl) (fun b e9 => by cases e9; rfl) dX12_writesNumber_11 ⟨Nat.le_of_ble_eq_true rfl, Nat.le_of_ble_eq_true rfl⟩ ⟨Nat.le_of_ble_eq_true rfl, Nat.le_of_ble_eq_true rfl⟩ (fun h H locs S w => ?_)
    refine W.cs (cells' := 0) (slots' := 0) rfl rfl ?_
    exact hB14 xp1 _ _ _ _ S (lv_sub hl [0, 1] rfl) w
def qw_X12_writesNumber_d4_14 (a0 : Nat) (Q : ql_H → Prop) (xl1 : Int32) (h : ql_H) : Prop :=
¬ (10 : Int32) = 0 ∧
ql_rv h (some a0) 13 fun b0 => qw_X12_writes b0 ((48 : Int32) + (xl1 - xl1 / (10 : Int32) * (10 : Int32))) h (fun h =>
Q h)
def qw_X12_writesNumber_d4 (a0 : Nat) (xp1 : Int32) (h : ql_H) (Q : ql_H → Prop) : Prop :=
if xp1 ≤ (9 : Int32) then (qw_X12_writesNumber_d4_14 a0 Q xp1 h) else (¬ (10 : Int32) = 0 ∧
ql_rv h (some a0) 13 fun b1 => qw_X12_writesNumber_d3 b1 (xp1 / (10 : Int32)) h (fun h =>
qw_X12_writesNumber_d4_14 a0 Q xp1 h))
set_option maxHeartbeats 4000000 in
set_option maxRecDepth 100000 in
theorem qm_X12_writesNumber_d4 (l : Launch) (hl9 : l.stackTraces = false) (D : ql_D) (h0 : ql_H) (a0 : Nat) (xp1 : Int32) (Q : ql_H → Prop) (X : String → ql_H → Prop) (w : qw_X12_writesNumber_d4 a0 xp1 h0 Q) : ql_M D l yX12_writesNumber cX12_writesNumber 2 none ({ frames := 12, cells := 0, slots := 0, locals := 193 } : Room) h0 [.ref a0, .int xp1] (ql_rV Q) X 0 0 := by
  refine ql_ofW (by decide) (Nat.le_of_ble_eq_true rfl) ?_
  intro p e s m below meth c ls C hr hlocks hnm htab S hl
  have hl : lv_has ls 2 [(0, .ref a0), (1, .int xp1)] := hl
  have hB14 : ∀ (xl1 : Int32) (h : ql_H) (H : Heap) (locs : List Loc) (ls : Array Slot), ql_S D h0 s H locs h → lv_has ls 2 [(0, .ref a0), (1, .int xl1)] → qw_X12_writesNumber_d4_14 a0 Q xl1 h → W p l e ({ frames := 12, cells := 0, slots := 0, locals := 193 } : Room) s m ([.ref a0, .int xp1] : List Value).toArray below meth c H locs 0 0 (vx_MQ below (ql_Q D h0 (ql_rV Q)) (ql_X D h0 X) ([.ref a0, .int xp1] : List Value).toArray s 0 0 (ql_A h0)) (F0 m 14 ls []) := by
    intro xl1 h H locs ls S hl w
    unfold qw_X12_writesNumber_d4_14 at w
    refine ql_aload_n (r := (some a0)) C dX12_writesNumber_14 rfl (lv_at hl 0 rfl) ?_
    refine lv_bipush (v := (48 : Int32)) C.1.1 C.1.2.1 dX12_writesNumber_15 (by decide) ?_
    refine lv_iload_n C.1.1 C.1.2.1 dX12_writesNumber_17 rfl (lv_at hl 1 rfl) ?_
    refine lv_bipush (v := (10 : Int32)) C.1.1 C.1.2.1 dX12_writesNumber_18 (by decide) ?_
    refine lv_irem C.1.1 C.1.2.1 dX12_writesNumber_20 w.1 ?_
    replace w := w.2
    refine lv_iadd C.1.1 C.1.2.1 dX12_writesNumber_21 ?_
    refine ql_VV (As := [.int ((48 : Int32) + (xl1 - xl1 / (10 : Int32) * (10 : Int32)))]) (rest := []) C S htab hlocks hl qy_X12_writes qi_X12_writes qs_X12_writes gw_2051 (ci := 13) rfl w (fun b w => qm_X12_writes l hl9 D _ b ((48 : Int32) + (xl1 - xl1 / (10 : Int32) * (10 : Int32))) _ _ w) rfl ⟨Nat.le_of_ble_eq_true rfl, Nat.le_of_ble_eq_true rfl⟩ ⟨rfl, rfl⟩ (by exact Nat.le_of_ble_eq_true rfl) (fun b e9 => by cases e9; rfl) dX12_writesNumber_22 ⟨Nat.le_of_ble_eq_true rfl, Nat.le_of_ble_eq_true rfl⟩ ⟨Nat.le_of_ble_eq_true rfl, Nat.le_of_ble_eq_true rfl⟩ (fun h H locs S w => ?_)
    refine W.cs (cells' := 0) (slots' := 0) rfl rfl ?_
    exact ql_vret C S hr hlocks dX12_writesNumber_25 ⟨Nat.le_of_ble_eq_true rfl, Nat.le_of_ble_eq_true rfl⟩ w
  unfold qw_X12_writesNumber_d4 at w
  refine lv_iload_n C.1.1 C.1.2.1 dX12_writesNumber_0 rfl (lv_at hl 1 rfl) ?_
  refine lv_bipush (v := (9 : Int32)) C.1.1 C.1.2.1 dX12_writesNumber_1 (by decide) ?_
  refine lv_icmp_le (tgt := 14) C.1.1 C.1.2.1 dX12_writesNumber_3 (by decide) (fun c9 => ?_) (fun c9 => ?_)
  · replace w := ql_if w c9
    exact hB14 xp1 _ _ _ _ S (lv_sub hl [0, 1] rfl) w
  · replace w := ql_ifn w c9
    refine ql_aload_n (r := (some a0)) C dX12_writesNumber_6 rfl (lv_at hl 0 rfl) ?_
    refine lv_iload_n C.1.1 C.1.2.1 dX12_writesNumber_7 rfl (lv_at hl 1 rfl) ?_
    refine lv_bipush (v := (10 : Int32)) C.1.1 C.1.2.1 dX12_writesNumber_8 (by decide) ?_
    refine lv_idiv C.1.1 C.1.2.1 dX12_writesNumber_10 w.1 ?_
    replace w := w.2
    refine ql_VV (As := [.int (xp1 / (10 : Int32))]) (rest := []) C S htab hlocks hl qy_X12_writesNumber qi_X12_writesNumber qs_X12_writesNumber gw_2047 (ci := 13) rfl w (fun b w => qm_X12_writesNumber_d3 l hl9 D _ b (xp1 / (10 : Int32)) _ _ w) rfl ⟨Nat.le_of_ble_eq_true rfl, Nat.le_of_ble_eq_true rfl⟩ ⟨rfl, rfl⟩ (by exact Nat.le_of_ble_eq_true rfl) (fun b e9 => by cases e9; rfl) dX12_writesNumber_11 ⟨Nat.le_of_ble_eq_true rfl, Nat.le_of_ble_eq_true rfl⟩ ⟨Nat.le_of_ble_eq_true rfl, Nat.le_of_ble_eq_true rfl⟩ (fun h H locs S w => ?_)
    refine W.cs (cells' := 0) (slots' := 0) rfl rfl ?_
    exact hB14 xp1 _ _ _ _ S (lv_sub hl [0, 1] rfl) w
def qw_X12_writesNumber_d5_14 (a0 : Nat) (Q : ql_H → Prop) (xl1 : Int32) (h : ql_H) : Prop :=
¬ (10 : Int32) = 0 ∧
ql_rv h (some a0) 13 fun b0 => qw_X12_writes b0 ((48 : Int32) + (xl1 - xl1 / (10 : Int32) * (10 : Int32))) h (fun h =>
Q h)
def qw_X12_writesNumber_d5 (a0 : Nat) (xp1 : Int32) (h : ql_H) (Q : ql_H → Prop) : Prop :=
if xp1 ≤ (9 : Int32) then (qw_X12_writesNumber_d5_14 a0 Q xp1 h) else (¬ (10 : Int32) = 0 ∧
ql_rv h (some a0) 13 fun b1 => qw_X12_writesNumber_d4 b1 (xp1 / (10 : Int32)) h (fun h =>
qw_X12_writesNumber_d5_14 a0 Q xp1 h))
set_option maxHeartbeats 4000000 in
set_option maxRecDepth 100000 in
theorem qm_X12_writesNumber_d5 (l : Launch) (hl9 : l.stackTraces = false) (D : ql_D) (h0 : ql_H) (a0 : Nat) (xp1 : Int32) (Q : ql_H → Prop) (X : String → ql_H → Prop) (w : qw_X12_writesNumber_d5 a0 xp1 h0 Q) : ql_M D l yX12_writesNumber cX12_writesNumber 2 none ({ frames := 14, cells := 0, slots := 0, locals := 222 } : Room) h0 [.ref a0, .int xp1] (ql_rV Q) X 0 0 := by
  refine ql_ofW (by decide) (Nat.le_of_ble_eq_true rfl) ?_
  intro p e s m below meth c ls C hr hlocks hnm htab S hl
  have hl : lv_has ls 2 [(0, .ref a0), (1, .int xp1)] := hl
  have hB14 : ∀ (xl1 : Int32) (h : ql_H) (H : Heap) (locs : List Loc) (ls : Array Slot), ql_S D h0 s H locs h → lv_has ls 2 [(0, .ref a0), (1, .int xl1)] → qw_X12_writesNumber_d5_14 a0 Q xl1 h → W p l e ({ frames := 14, cells := 0, slots := 0, locals := 222 } : Room) s m ([.ref a0, .int xp1] : List Value).toArray below meth c H locs 0 0 (vx_MQ below (ql_Q D h0 (ql_rV Q)) (ql_X D h0 X) ([.ref a0, .int xp1] : List Value).toArray s 0 0 (ql_A h0)) (F0 m 14 ls []) := by
    intro xl1 h H locs ls S hl w
    unfold qw_X12_writesNumber_d5_14 at w
    refine ql_aload_n (r := (some a0)) C dX12_writesNumber_14 rfl (lv_at hl 0 rfl) ?_
    refine lv_bipush (v := (48 : Int32)) C.1.1 C.1.2.1 dX12_writesNumber_15 (by decide) ?_
    refine lv_iload_n C.1.1 C.1.2.1 dX12_writesNumber_17 rfl (lv_at hl 1 rfl) ?_
    refine lv_bipush (v := (10 : Int32)) C.1.1 C.1.2.1 dX12_writesNumber_18 (by decide) ?_
    refine lv_irem C.1.1 C.1.2.1 dX12_writesNumber_20 w.1 ?_
    replace w := w.2
    refine lv_iadd C.1.1 C.1.2.1 dX12_writesNumber_21 ?_
    refine ql_VV (As := [.int ((48 : Int32) + (xl1 - xl1 / (10 : Int32) * (10 : Int32)))]) (rest := []) C S htab hlocks hl qy_X12_writes qi_X12_writes qs_X12_writes gw_2051 (ci := 13) rfl w (fun b w => qm_X12_writes l hl9 D _ b ((48 : Int32) + (xl1 - xl1 / (10 : Int32) * (10 : Int32))) _ _ w) rfl ⟨Nat.le_of_ble_eq_true rfl, Nat.le_of_ble_eq_true rfl⟩ ⟨rfl, rfl⟩ (by exact Nat.le_of_ble_eq_true rfl) (fun b e9 => by cases e9; rfl) dX12_writesNumber_22 ⟨Nat.le_of_ble_eq_true rfl, Nat.le_of_ble_eq_true rfl⟩ ⟨Nat.le_of_ble_eq_true rfl, Nat.le_of_ble_eq_true rfl⟩ (fun h H locs S w => ?_)
    refine W.cs (cells' := 0) (slots' := 0) rfl rfl ?_
    exact ql_vret C S hr hlocks dX12_writesNumber_25 ⟨Nat.le_of_ble_eq_true rfl, Nat.le_of_ble_eq_true rfl⟩ w
  unfold qw_X12_writesNumber_d5 at w
  refine lv_iload_n C.1.1 C.1.2.1 dX12_writesNumber_0 rfl (lv_at hl 1 rfl) ?_
  refine lv_bipush (v := (9 : Int32)) C.1.1 C.1.2.1 dX12_writesNumber_1 (by decide) ?_
  refine lv_icmp_le (tgt := 14) C.1.1 C.1.2.1 dX12_writesNumber_3 (by decide) (fun c9 => ?_) (fun c9 => ?_)
  · replace w := ql_if w c9
    exact hB14 xp1 _ _ _ _ S (lv_sub hl [0, 1] rfl) w
  · replace w := ql_ifn w c9
    refine ql_aload_n (r := (some a0)) C dX12_writesNumber_6 rfl (lv_at hl 0 rfl) ?_
    refine lv_iload_n C.1.1 C.1.2.1 dX12_writesNumber_7 rfl (lv_at hl 1 rfl) ?_
    refine lv_bipush (v := (10 : Int32)) C.1.1 C.1.2.1 dX12_writesNumber_8 (by decide) ?_
    refine lv_idiv C.1.1 C.1.2.1 dX12_writesNumber_10 w.1 ?_
    replace w := w.2
    refine ql_VV (As := [.int (xp1 / (10 : Int32))]) (rest := []) C S htab hlocks hl qy_X12_writesNumber qi_X12_writesNumber qs_X12_writesNumber gw_2047 (ci := 13) rfl w (fun b w => qm_X12_writesNumber_d4 l hl9 D _ b (xp1 / (10 : Int32)) _ _ w) rfl ⟨Nat.le_of_ble_eq_true rfl, Nat.le_of_ble_eq_true rfl⟩ ⟨rfl, rfl⟩ (by exact Nat.le_of_ble_eq_true rfl) (fun b e9 => by cases e9; rfl) dX12_writesNumber_11 ⟨Nat.le_of_ble_eq_true rfl, Nat.le_of_ble_eq_true rfl⟩ ⟨Nat.le_of_ble_eq_true rfl, Nat.le_of_ble_eq_true rfl⟩ (fun h H locs S w => ?_)
    refine W.cs (cells' := 0) (slots' := 0) rfl rfl ?_
    exact hB14 xp1 _ _ _ _ S (lv_sub hl [0, 1] rfl) w
def qw_X12_writesNumber_d6_14 (a0 : Nat) (Q : ql_H → Prop) (xl1 : Int32) (h : ql_H) : Prop :=
¬ (10 : Int32) = 0 ∧
ql_rv h (some a0) 13 fun b0 => qw_X12_writes b0 ((48 : Int32) + (xl1 - xl1 / (10 : Int32) * (10 : Int32))) h (fun h =>
Q h)
def qw_X12_writesNumber_d6 (a0 : Nat) (xp1 : Int32) (h : ql_H) (Q : ql_H → Prop) : Prop :=
if xp1 ≤ (9 : Int32) then (qw_X12_writesNumber_d6_14 a0 Q xp1 h) else (¬ (10 : Int32) = 0 ∧
ql_rv h (some a0) 13 fun b1 => qw_X12_writesNumber_d5 b1 (xp1 / (10 : Int32)) h (fun h =>
qw_X12_writesNumber_d6_14 a0 Q xp1 h))
set_option maxHeartbeats 4000000 in
set_option maxRecDepth 100000 in
theorem qm_X12_writesNumber_d6 (l : Launch) (hl9 : l.stackTraces = false) (D : ql_D) (h0 : ql_H) (a0 : Nat) (xp1 : Int32) (Q : ql_H → Prop) (X : String → ql_H → Prop) (w : qw_X12_writesNumber_d6 a0 xp1 h0 Q) : ql_M D l yX12_writesNumber cX12_writesNumber 2 none ({ frames := 16, cells := 0, slots := 0, locals := 251 } : Room) h0 [.ref a0, .int xp1] (ql_rV Q) X 0 0 := by
  refine ql_ofW (by decide) (Nat.le_of_ble_eq_true rfl) ?_
  intro p e s m below meth c ls C hr hlocks hnm htab S hl
  have hl : lv_has ls 2 [(0, .ref a0), (1, .int xp1)] := hl
  have hB14 : ∀ (xl1 : Int32) (h : ql_H) (H : Heap) (locs : List Loc) (ls : Array Slot), ql_S D h0 s H locs h → lv_has ls 2 [(0, .ref a0), (1, .int xl1)] → qw_X12_writesNumber_d6_14 a0 Q xl1 h → W p l e ({ frames := 16, cells := 0, slots := 0, locals := 251 } : Room) s m ([.ref a0, .int xp1] : List Value).toArray below meth c H locs 0 0 (vx_MQ below (ql_Q D h0 (ql_rV Q)) (ql_X D h0 X) ([.ref a0, .int xp1] : List Value).toArray s 0 0 (ql_A h0)) (F0 m 14 ls []) := by
    intro xl1 h H locs ls S hl w
    unfold qw_X12_writesNumber_d6_14 at w
    refine ql_aload_n (r := (some a0)) C dX12_writesNumber_14 rfl (lv_at hl 0 rfl) ?_
    refine lv_bipush (v := (48 : Int32)) C.1.1 C.1.2.1 dX12_writesNumber_15 (by decide) ?_
    refine lv_iload_n C.1.1 C.1.2.1 dX12_writesNumber_17 rfl (lv_at hl 1 rfl) ?_
    refine lv_bipush (v := (10 : Int32)) C.1.1 C.1.2.1 dX12_writesNumber_18 (by decide) ?_
    refine lv_irem C.1.1 C.1.2.1 dX12_writesNumber_20 w.1 ?_
    replace w := w.2
    refine lv_iadd C.1.1 C.1.2.1 dX12_writesNumber_21 ?_
    refine ql_VV (As := [.int ((48 : Int32) + (xl1 - xl1 / (10 : Int32) * (10 : Int32)))]) (rest := []) C S htab hlocks hl qy_X12_writes qi_X12_writes qs_X12_writes gw_2051 (ci := 13) rfl w (fun b w => qm_X12_writes l hl9 D _ b ((48 : Int32) + (xl1 - xl1 / (10 : Int32) * (10 : Int32))) _ _ w) rfl ⟨Nat.le_of_ble_eq_true rfl, Nat.le_of_ble_eq_true rfl⟩ ⟨rfl, rfl⟩ (by exact Nat.le_of_ble_eq_true rfl) (fun b e9 => by cases e9; rfl) dX12_writesNumber_22 ⟨Nat.le_of_ble_eq_true rfl, Nat.le_of_ble_eq_true rfl⟩ ⟨Nat.le_of_ble_eq_true rfl, Nat.le_of_ble_eq_true rfl⟩ (fun h H locs S w => ?_)
    refine W.cs (cells' := 0) (slots' := 0) rfl rfl ?_
    exact ql_vret C S hr hlocks dX12_writesNumber_25 ⟨Nat.le_of_ble_eq_true rfl, Nat.le_of_ble_eq_true rfl⟩ w
  unfold qw_X12_writesNumber_d6 at w
  refine lv_iload_n C.1.1 C.1.2.1 dX12_writesNumber_0 rfl (lv_at hl 1 rfl) ?_
  refine lv_bipush (v := (9 : Int32)) C.1.1 C.1.2.1 dX12_writesNumber_1 (by decide) ?_
  refine lv_icmp_le (tgt := 14) C.1.1 C.1.2.1 dX12_writesNumber_3 (by decide) (fun c9 => ?_) (fun c9 => ?_)
  · replace w := ql_if w c9
    exact hB14 xp1 _ _ _ _ S (lv_sub hl [0, 1] rfl) w
  · replace w := ql_ifn w c9
    refine ql_aload_n (r := (some a0)) C dX12_writesNumber_6 rfl (lv_at hl 0 rfl) ?_
    refine lv_iload_n C.1.1 C.1.2.1 dX12_writesNumber_7 rfl (lv_at hl 1 rfl) ?_
    refine lv_bipush (v := (10 : Int32)) C.1.1 C.1.2.1 dX12_writesNumber_8 (by decide) ?_
    refine lv_idiv C.1.1 C.1.2.1 dX12_writesNumber_10 w.1 ?_
    replace w := w.2
    refine ql_VV (As := [.int (xp1 / (10 : Int32))]) (rest := []) C S htab hlocks hl qy_X12_writesNumber qi_X12_writesNumber qs_X12_writesNumber gw_2047 (ci := 13) rfl w (fun b w => qm_X12_writesNumber_d5 l hl9 D _ b (xp1 / (10 : Int32)) _ _ w) rfl ⟨Nat.le_of_ble_eq_true rfl, Nat.le_of_ble_eq_true rfl⟩ ⟨rfl, rfl⟩ (by exact Nat.le_of_ble_eq_true rfl) (fun b e9 => by cases e9; rfl) dX12_writesNumber_11 ⟨Nat.le_of_ble_eq_true rfl, Nat.le_of_ble_eq_true rfl⟩ ⟨Nat.le_of_ble_eq_true rfl, Nat.le_of_ble_eq_true rfl⟩ (fun h H locs S w => ?_)
    refine W.cs (cells' := 0) (slots' := 0) rfl rfl ?_
    exact hB14 xp1 _ _ _ _ S (lv_sub hl [0, 1] rfl) w
def qw_X12_writesNumber_d7_14 (a0 : Nat) (Q : ql_H → Prop) (xl1 : Int32) (h : ql_H) : Prop :=
¬ (10 : Int32) = 0 ∧
ql_rv h (some a0) 13 fun b0 => qw_X12_writes b0 ((48 : Int32) + (xl1 - xl1 / (10 : Int32) * (10 : Int32))) h (fun h =>
Q h)
def qw_X12_writesNumber_d7 (a0 : Nat) (xp1 : Int32) (h : ql_H) (Q : ql_H → Prop) : Prop :=
if xp1 ≤ (9 : Int32) then (qw_X12_writesNumber_d7_14 a0 Q xp1 h) else (¬ (10 : Int32) = 0 ∧
ql_rv h (some a0) 13 fun b1 => qw_X12_writesNumber_d6 b1 (xp1 / (10 : Int32)) h (fun h =>
qw_X12_writesNumber_d7_14 a0 Q xp1 h))
set_option maxHeartbeats 4000000 in
set_option maxRecDepth 100000 in
theorem qm_X12_writesNumber_d7 (l : Launch) (hl9 : l.stackTraces = false) (D : ql_D) (h0 : ql_H) (a0 : Nat) (xp1 : Int32) (Q : ql_H → Prop) (X : String → ql_H → Prop) (w : qw_X12_writesNumber_d7 a0 xp1 h0 Q) : ql_M D l yX12_writesNumber cX12_writesNumber 2 none ({ frames := 18, cells := 0, slots := 0, locals := 280 } : Room) h0 [.ref a0, .int xp1] (ql_rV Q) X 0 0 := by
  refine ql_ofW (by decide) (Nat.le_of_ble_eq_true rfl) ?_
  intro p e s m below meth c ls C hr hlocks hnm htab S hl
  have hl : lv_has ls 2 [(0, .ref a0), (1, .int xp1)] := hl
  have hB14 : ∀ (xl1 : Int32) (h : ql_H) (H : Heap) (locs : List Loc) (ls : Array Slot), ql_S D h0 s H locs h → lv_has ls 2 [(0, .ref a0), (1, .int xl1)] → qw_X12_writesNumber_d7_14 a0 Q xl1 h → W p l e ({ frames := 18, cells := 0, slots := 0, locals := 280 } : Room) s m ([.ref a0, .int xp1] : List Value).toArray below meth c H locs 0 0 (vx_MQ below (ql_Q D h0 (ql_rV Q)) (ql_X D h0 X) ([.ref a0, .int xp1] : List Value).toArray s 0 0 (ql_A h0)) (F0 m 14 ls []) := by
    intro xl1 h H locs ls S hl w
    unfold qw_X12_writesNumber_d7_14 at w
    refine ql_aload_n (r := (some a0)) C dX12_writesNumber_14 rfl (lv_at hl 0 rfl) ?_
    refine lv_bipush (v := (48 : Int32)) C.1.1 C.1.2.1 dX12_writesNumber_15 (by decide) ?_
    refine lv_iload_n C.1.1 C.1.2.1 dX12_writesNumber_17 rfl (lv_at hl 1 rfl) ?_
    refine lv_bipush (v := (10 : Int32)) C.1.1 C.1.2.1 dX12_writesNumber_18 (by decide) ?_
    refine lv_irem C.1.1 C.1.2.1 dX12_writesNumber_20 w.1 ?_
    replace w := w.2
    refine lv_iadd C.1.1 C.1.2.1 dX12_writesNumber_21 ?_
    refine ql_VV (As := [.int ((48 : Int32) + (xl1 - xl1 / (10 : Int32) * (10 : Int32)))]) (rest := []) C S htab hlocks hl qy_X12_writes qi_X12_writes qs_X12_writes gw_2051 (ci := 13) rfl w (fun b w => qm_X12_writes l hl9 D _ b ((48 : Int32) + (xl1 - xl1 / (10 : Int32) * (10 : Int32))) _ _ w) rfl ⟨Nat.le_of_ble_eq_true rfl, Nat.le_of_ble_eq_true rfl⟩ ⟨rfl, rfl⟩ (by exact Nat.le_of_ble_eq_true rfl) (fun b e9 => by cases e9; rfl) dX12_writesNumber_22 ⟨Nat.le_of_ble_eq_true rfl, Nat.le_of_ble_eq_true rfl⟩ ⟨Nat.le_of_ble_eq_true rfl, Nat.le_of_ble_eq_true rfl⟩ (fun h H locs S w => ?_)
    refine W.cs (cells' := 0) (slots' := 0) rfl rfl ?_
    exact ql_vret C S hr hlocks dX12_writesNumber_25 ⟨Nat.le_of_ble_eq_true rfl, Nat.le_of_ble_eq_true rfl⟩ w
  unfold qw_X12_writesNumber_d7 at w
  refine lv_iload_n C.1.1 C.1.2.1 dX12_writesNumber_0 rfl (lv_at hl 1 rfl) ?_
  refine lv_bipush (v := (9 : Int32)) C.1.1 C.1.2.1 dX12_writesNumber_1 (by decide) ?_
  refine lv_icmp_le (tgt := 14) C.1.1 C.1.2.1 dX12_writesNumber_3 (by decide) (fun c9 => ?_) (fun c9 => ?_)
  · replace w := ql_if w c9
    exact hB14 xp1 _ _ _ _ S (lv_sub hl [0, 1] rfl) w
  · replace w := ql_ifn w c9
    refine ql_aload_n (r := (some a0)) C dX12_writesNumber_6 rfl (lv_at hl 0 rfl) ?_
    refine lv_iload_n C.1.1 C.1.2.1 dX12_writesNumber_7 rfl (lv_at hl 1 rfl) ?_
    refine lv_bipush (v := (10 : Int32)) C.1.1 C.1.2.1 dX12_writesNumber_8 (by decide) ?_
    refine lv_idiv C.1.1 C.1.2.1 dX12_writesNumber_10 w.1 ?_
    replace w := w.2
    refine ql_VV (As := [.int (xp1 / (10 : Int32))]) (rest := []) C S htab hlocks hl qy_X12_writesNumber qi_X12_writesNumber qs_X12_writesNumber gw_2047 (ci := 13) rfl w (fun b w => qm_X12_writesNumber_d6 l hl9 D _ b (xp1 / (10 : Int32)) _ _ w) rfl ⟨Nat.le_of_ble_eq_true rfl, Nat.le_of_ble_eq_true rfl⟩ ⟨rfl, rfl⟩ (by exact Nat.le_of_ble_eq_true rfl) (fun b e9 => by cases e9; rfl) dX12_writesNumber_11 ⟨Nat.le_of_ble_eq_true rfl, Nat.le_of_ble_eq_true rfl⟩ ⟨Nat.le_of_ble_eq_true rfl, Nat.le_of_ble_eq_true rfl⟩ (fun h H locs S w => ?_)
    refine W.cs (cells' := 0) (slots' := 0) rfl rfl ?_
    exact hB14 xp1 _ _ _ _ S (lv_sub hl [0, 1] rfl) w
def qw_X12_writesNumber_d8_14 (a0 : Nat) (Q : ql_H → Prop) (xl1 : Int32) (h : ql_H) : Prop :=
¬ (10 : Int32) = 0 ∧
ql_rv h (some a0) 13 fun b0 => qw_X12_writes b0 ((48 : Int32) + (xl1 - xl1 / (10 : Int32) * (10 : Int32))) h (fun h =>
Q h)
def qw_X12_writesNumber_d8 (a0 : Nat) (xp1 : Int32) (h : ql_H) (Q : ql_H → Prop) : Prop :=
if xp1 ≤ (9 : Int32) then (qw_X12_writesNumber_d8_14 a0 Q xp1 h) else (¬ (10 : Int32) = 0 ∧
ql_rv h (some a0) 13 fun b1 => qw_X12_writesNumber_d7 b1 (xp1 / (10 : Int32)) h (fun h =>
qw_X12_writesNumber_d8_14 a0 Q xp1 h))
set_option maxHeartbeats 4000000 in
set_option maxRecDepth 100000 in
theorem qm_X12_writesNumber_d8 (l : Launch) (hl9 : l.stackTraces = false) (D : ql_D) (h0 : ql_H) (a0 : Nat) (xp1 : Int32) (Q : ql_H → Prop) (X : String → ql_H → Prop) (w : qw_X12_writesNumber_d8 a0 xp1 h0 Q) : ql_M D l yX12_writesNumber cX12_writesNumber 2 none ({ frames := 20, cells := 0, slots := 0, locals := 309 } : Room) h0 [.ref a0, .int xp1] (ql_rV Q) X 0 0 := by
  refine ql_ofW (by decide) (Nat.le_of_ble_eq_true rfl) ?_
  intro p e s m below meth c ls C hr hlocks hnm htab S hl
  have hl : lv_has ls 2 [(0, .ref a0), (1, .int xp1)] := hl
  have hB14 : ∀ (xl1 : Int32) (h : ql_H) (H : Heap) (locs : List Loc) (ls : Array Slot), ql_S D h0 s H locs h → lv_has ls 2 [(0, .ref a0), (1, .int xl1)] → qw_X12_writesNumber_d8_14 a0 Q xl1 h → W p l e ({ frames := 20, cells := 0, slots := 0, locals := 309 } : Room) s m ([.ref a0, .int xp1] : List Value).toArray below meth c H locs 0 0 (vx_MQ below (ql_Q D h0 (ql_rV Q)) (ql_X D h0 X) ([.ref a0, .int xp1] : List Value).toArray s 0 0 (ql_A h0)) (F0 m 14 ls []) := by
    intro xl1 h H locs ls S hl w
    unfold qw_X12_writesNumber_d8_14 at w
    refine ql_aload_n (r := (some a0)) C dX12_writesNumber_14 rfl (lv_at hl 0 rfl) ?_
    refine lv_bipush (v := (48 : Int32)) C.1.1 C.1.2.1 dX12_writesNumber_15 (by decide) ?_
    refine lv_iload_n C.1.1 C.1.2.1 dX12_writesNumber_17 rfl (lv_at hl 1 rfl) ?_
    refine lv_bipush (v := (10 : Int32)) C.1.1 C.1.2.1 dX12_writesNumber_18 (by decide) ?_
    refine lv_irem C.1.1 C.1.2.1 dX12_writesNumber_20 w.1 ?_
    replace w := w.2
    refine lv_iadd C.1.1 C.1.2.1 dX12_writesNumber_21 ?_
    refine ql_VV (As := [.int ((48 : Int32) + (xl1 - xl1 / (10 : Int32) * (10 : Int32)))]) (rest := []) C S htab hlocks hl qy_X12_writes qi_X12_writes qs_X12_writes gw_2051 (ci := 13) rfl w (fun b w => qm_X12_writes l hl9 D _ b ((48 : Int32) + (xl1 - xl1 / (10 : Int32) * (10 : Int32))) _ _ w) rfl ⟨Nat.le_of_ble_eq_true rfl, Nat.le_of_ble_eq_true rfl⟩ ⟨rfl, rfl⟩ (by exact Nat.le_of_ble_eq_true rfl) (fun b e9 => by cases e9; rfl) dX12_writesNumber_22 ⟨Nat.le_of_ble_eq_true rfl, Nat.le_of_ble_eq_true rfl⟩ ⟨Nat.le_of_ble_eq_true rfl, Nat.le_of_ble_eq_true rfl⟩ (fun h H locs S w => ?_)
    refine W.cs (cells' := 0) (slots' := 0) rfl rfl ?_
    exact ql_vret C S hr hlocks dX12_writesNumber_25 ⟨Nat.le_of_ble_eq_true rfl, Nat.le_of_ble_eq_true rfl⟩ w
  unfold qw_X12_writesNumber_d8 at w
  refine lv_iload_n C.1.1 C.1.2.1 dX12_writesNumber_0 rfl (lv_at hl 1 rfl) ?_
  refine lv_bipush (v := (9 : Int32)) C.1.1 C.1.2.1 dX12_writesNumber_1 (by decide) ?_
  refine lv_icmp_le (tgt := 14) C.1.1 C.1.2.1 dX12_writesNumber_3 (by decide) (fun c9 => ?_) (fun c9 => ?_)
  · replace w := ql_if w c9
    exact hB14 xp1 _ _ _ _ S (lv_sub hl [0, 1] rfl) w
  · replace w := ql_ifn w c9
    refine ql_aload_n (r := (some a0)) C dX12_writesNumber_6 rfl (lv_at hl 0 rfl) ?_
    refine lv_iload_n C.1.1 C.1.2.1 dX12_writesNumber_7 rfl (lv_at hl 1 rfl) ?_
    refine lv_bipush (v := (10 : Int32)) C.1.1 C.1.2.1 dX12_writesNumber_8 (by decide) ?_
    refine lv_idiv C.1.1 C.1.2.1 dX12_writesNumber_10 w.1 ?_
    replace w := w.2
    refine ql_VV (As := [.int (xp1 / (10 : Int32))]) (rest := []) C S htab hlocks hl qy_X12_writesNumber qi_X12_writesNumber qs_X12_writesNumber gw_2047 (ci := 13) rfl w (fun b w => qm_X12_writesNumber_d7 l hl9 D _ b (xp1 / (10 : Int32)) _ _ w) rfl ⟨Nat.le_of_ble_eq_true rfl, Nat.le_of_ble_eq_true rfl⟩ ⟨rfl, rfl⟩ (by exact Nat.le_of_ble_eq_true rfl) (fun b e9 => by cases e9; rfl) dX12_writesNumber_11 ⟨Nat.le_of_ble_eq_true rfl, Nat.le_of_ble_eq_true rfl⟩ ⟨Nat.le_of_ble_eq_true rfl, Nat.le_of_ble_eq_true rfl⟩ (fun h H locs S w => ?_)
    refine W.cs (cells' := 0) (slots' := 0) rfl rfl ?_
    exact hB14 xp1 _ _ _ _ S (lv_sub hl [0, 1] rfl) w
def qw_X12_writesNumber_d9_14 (a0 : Nat) (Q : ql_H → Prop) (xl1 : Int32) (h : ql_H) : Prop :=
¬ (10 : Int32) = 0 ∧
ql_rv h (some a0) 13 fun b0 => qw_X12_writes b0 ((48 : Int32) + (xl1 - xl1 / (10 : Int32) * (10 : Int32))) h (fun h =>
Q h)
def qw_X12_writesNumber_d9 (a0 : Nat) (xp1 : Int32) (h : ql_H) (Q : ql_H → Prop) : Prop :=
if xp1 ≤ (9 : Int32) then (qw_X12_writesNumber_d9_14 a0 Q xp1 h) else (¬ (10 : Int32) = 0 ∧
ql_rv h (some a0) 13 fun b1 => qw_X12_writesNumber_d8 b1 (xp1 / (10 : Int32)) h (fun h =>
qw_X12_writesNumber_d9_14 a0 Q xp1 h))
set_option maxHeartbeats 4000000 in
set_option maxRecDepth 100000 in
theorem qm_X12_writesNumber_d9 (l : Launch) (hl9 : l.stackTraces = false) (D : ql_D) (h0 : ql_H) (a0 : Nat) (xp1 : Int32) (Q : ql_H → Prop) (X : String → ql_H → Prop) (w : qw_X12_writesNumber_d9 a0 xp1 h0 Q) : ql_M D l yX12_writesNumber cX12_writesNumber 2 none ({ frames := 22, cells := 0, slots := 0, locals := 338 } : Room) h0 [.ref a0, .int xp1] (ql_rV Q) X 0 0 := by
  refine ql_ofW (by decide) (Nat.le_of_ble_eq_true rfl) ?_
  intro p e s m below meth c ls C hr hlocks hnm htab S hl
  have hl : lv_has ls 2 [(0, .ref a0), (1, .int xp1)] := hl
  have hB14 : ∀ (xl1 : Int32) (h : ql_H) (H : Heap) (locs : List Loc) (ls : Array Slot), ql_S D h0 s H locs h → lv_has ls 2 [(0, .ref a0), (1, .int xl1)] → qw_X12_writesNumber_d9_14 a0 Q xl1 h → W p l e ({ frames := 22, cells := 0, slots := 0, locals := 338 } : Room) s m ([.ref a0, .int xp1] : List Value).toArray below meth c H locs 0 0 (vx_MQ below (ql_Q D h0 (ql_rV Q)) (ql_X D h0 X) ([.ref a0, .int xp1] : List Value).toArray s 0 0 (ql_A h0)) (F0 m 14 ls []) := by
    intro xl1 h H locs ls S hl w
    unfold qw_X12_writesNumber_d9_14 at w
    refine ql_aload_n (r := (some a0)) C dX12_writesNumber_14 rfl (lv_at hl 0 rfl) ?_
    refine lv_bipush (v := (48 : Int32)) C.1.1 C.1.2.1 dX12_writesNumber_15 (by decide) ?_
    refine lv_iload_n C.1.1 C.1.2.1 dX12_writesNumber_17 rfl (lv_at hl 1 rfl) ?_
    refine lv_bipush (v := (10 : Int32)) C.1.1 C.1.2.1 dX12_writesNumber_18 (by decide) ?_
    refine lv_irem C.1.1 C.1.2.1 dX12_writesNumber_20 w.1 ?_
    replace w := w.2
    refine lv_iadd C.1.1 C.1.2.1 dX12_writesNumber_21 ?_
    refine ql_VV (As := [.int ((48 : Int32) + (xl1 - xl1 / (10 : Int32) * (10 : Int32)))]) (rest := []) C S htab hlocks hl qy_X12_writes qi_X12_writes qs_X12_writes gw_2051 (ci := 13) rfl w (fun b w => qm_X12_writes l hl9 D _ b ((48 : Int32) + (xl1 - xl1 / (10 : Int32) * (10 : Int32))) _ _ w) rfl ⟨Nat.le_of_ble_eq_true rfl, Nat.le_of_ble_eq_true rfl⟩ ⟨rfl, rfl⟩ (by exact Nat.le_of_ble_eq_true rfl) (fun b e9 => by cases e9; rfl) dX12_writesNumber_22 ⟨Nat.le_of_ble_eq_true rfl, Nat.le_of_ble_eq_true rfl⟩ ⟨Nat.le_of_ble_eq_true rfl, Nat.le_of_ble_eq_true rfl⟩ (fun h H locs S w => ?_)
    refine W.cs (cells' := 0) (slots' := 0) rfl rfl ?_
    exact ql_vret C S hr hlocks dX12_writesNumber_25 ⟨Nat.le_of_ble_eq_true rfl, Nat.le_of_ble_eq_true rfl⟩ w
  unfold qw_X12_writesNumber_d9 at w
  refine lv_iload_n C.1.1 C.1.2.1 dX12_writesNumber_0 rfl (lv_at hl 1 rfl) ?_
  refine lv_bipush (v := (9 : Int32)) C.1.1 C.1.2.1 dX12_writesNumber_1 (by decide) ?_
  refine lv_icmp_le (tgt := 14) C.1.1 C.1.2.1 dX12_writesNumber_3 (by decide) (fun c9 => ?_) (fun c9 => ?_)
  · replace w := ql_if w c9
    exact hB14 xp1 _ _ _ _ S (lv_sub hl [0, 1] rfl) w
  · replace w := ql_ifn w c9
    refine ql_aload_n (r := (some a0)) C dX12_writesNumber_6 rfl (lv_at hl 0 rfl) ?_
    refine lv_iload_n C.1.1 C.1.2.1 dX12_writesNumber_7 rfl (lv_at hl 1 rfl) ?_
    refine lv_bipush (v := (10 : Int32)) C.1.1 C.1.2.1 dX12_writesNumber_8 (by decide) ?_
    refine lv_idiv C.1.1 C.1.2.1 dX12_writesNumber_10 w.1 ?_
    replace w := w.2
    refine ql_VV (As := [.int (xp1 / (10 : Int32))]) (rest := []) C S htab hlocks hl qy_X12_writesNumber qi_X12_writesNumber qs_X12_writesNumber gw_2047 (ci := 13) rfl w (fun b w => qm_X12_writesNumber_d8 l hl9 D _ b (xp1 / (10 : Int32)) _ _ w) rfl ⟨Nat.le_of_ble_eq_true rfl, Nat.le_of_ble_eq_true rfl⟩ ⟨rfl, rfl⟩ (by exact Nat.le_of_ble_eq_true rfl) (fun b e9 => by cases e9; rfl) dX12_writesNumber_11 ⟨Nat.le_of_ble_eq_true rfl, Nat.le_of_ble_eq_true rfl⟩ ⟨Nat.le_of_ble_eq_true rfl, Nat.le_of_ble_eq_true rfl⟩ (fun h H locs S w => ?_)
    refine W.cs (cells' := 0) (slots' := 0) rfl rfl ?_
    exact hB14 xp1 _ _ _ _ S (lv_sub hl [0, 1] rfl) w
def qw_X12_renderClause_114 (a0 : Nat) (Q : Int32 → ql_H → Prop) (h : ql_H) : Prop :=
ql_gI h (some a0) 13 13 fun x1 =>
Q x1 h
def qw_X12_renderClause_94 (a0 : Nat) (Q : Int32 → ql_H → Prop) (xl2 : Int32) (h : ql_H) : Prop :=
ql_gR h (some a0) 13 0 fun r2 =>
ql_lI h r2 0 (2 : Int32) fun x3 =>
ql_rv h (some a0) 13 fun b4 => qw_X12_isValid b4 xl2 x3 h (fun x4 h =>
if x4 = 0 then (ql_rv h (some a0) 13 fun b5 => qw_X12_writes b5 (33 : Int32) h (fun h =>
qw_X12_renderClause_114 a0 Q  h)) else (qw_X12_renderClause_114 a0 Q  h))
def qw_X12_renderClause_39 (a0 : Nat) (Q : Int32 → ql_H → Prop) : Nat → Int32 → Int32 → ql_H → Prop
  | 0, _, _, _ => False
  | n + 1, xl2, xl3, h =>
    ql_rv h (some a0) 13 fun b7 => qw_X12_long0 b7 xl2 h (fun x7 h =>
    if x7 ≤ xl3 then (ql_rv h (some a0) 13 fun b9 => qw_X12_of b9 xl2 (3 : Int32) h (fun x9 h =>
    if x9 < 0 then (qw_X12_renderClause_94 a0 Q xl2 h) else (ql_rv h (some a0) 13 fun b10 => qw_X12_writes b10 (126 : Int32) h (fun h =>
    ql_rv h (some a0) 13 fun b12 => qw_X12_of b12 xl2 (3 : Int32) h (fun x12 h =>
    ql_rv h (some a0) 13 fun b13 => qw_X12_writesNumber_d9 b13 x12 h (fun h =>
    qw_X12_renderClause_94 a0 Q xl2 h)))))) else (ql_rv h (some a0) 13 fun b15 => qw_X12_lastVersion b15 xl2 h (fun x15 h =>
    ql_rv h (some a0) 13 fun b17 => qw_X12_note b17 xl2 x15 xl3 h (fun x17 h =>
    ql_rv h (some a0) 13 fun b18 => qw_X12_writes b18 x17 h (fun h =>
    qw_X12_renderClause_39 a0 Q n xl2 (xl3 + (1 : Int32)) h)))))
def qw_X12_renderClause (a0 : Nat) (xp1 : Int32) (h : ql_H) (Q : Int32 → ql_H → Prop) : Prop :=
ql_rv h (some a0) 13 fun b20 => qw_X12_isNone b20 xp1 h (fun x20 h =>
if x20 = 0 then (ql_rv h (some a0) 13 fun b22 => qw_X12_placeOf b22 xp1 h (fun x22 h =>
ql_pV h (some a0) 13 13 (.int (0 : Int32)) fun h =>
ql_rv h (some a0) 13 fun b24 => qw_X12_of b24 x22 (1 : Int32) h (fun x24 h =>
ql_rv h (some a0) 13 fun b25 => qw_X12_writesNumber_d9 b25 x24 h (fun h =>
ql_rv h (some a0) 13 fun b26 => qw_X12_writes b26 (58 : Int32) h (fun h =>
qw_X12_renderClause_39 a0 Q ql_FU x22 (0 : Int32) h))))) else (Q (0 : Int32) h))
set_option maxHeartbeats 4000000 in
set_option maxRecDepth 100000 in
theorem qm_X12_renderClause (l : Launch) (hl9 : l.stackTraces = false) (D : ql_D) (h0 : ql_H) (a0 : Nat) (xp1 : Int32) (Q : Int32 → ql_H → Prop) (X : String → ql_H → Prop) (w : qw_X12_renderClause a0 xp1 h0 Q) : ql_M D l yX12_renderClause cX12_renderClause 4 (some .int) ({ frames := 24, cells := 0, slots := 0, locals := 367 } : Room) h0 [.ref a0, .int xp1] (ql_rI Q) X 0 0 := by
  refine ql_ofW (by decide) (Nat.le_of_ble_eq_true rfl) ?_
  intro p e s m below meth c ls C hr hlocks hnm htab S hl
  have hl : lv_has ls 4 [(0, .ref a0), (1, .int xp1)] := hl
  have hB114 : ∀ (h : ql_H) (H : Heap) (locs : List Loc) (ls : Array Slot), ql_S D h0 s H locs h → lv_has ls 4 [(0, .ref a0)] → qw_X12_renderClause_114 a0 Q h → W p l e ({ frames := 24, cells := 0, slots := 0, locals := 367 } : Room) s m ([.ref a0, .int xp1] : List Value).toArray below meth c H locs 0 0 (vx_MQ below (ql_Q D h0 (ql_rI Q)) (ql_X D h0 X) ([.ref a0, .int xp1] : List Value).toArray s 0 0 (ql_A h0)) (F0 m 114 ls []) := by
    intro h H locs ls S hl w
    unfold qw_X12_renderClause_114 at w
    refine ql_aload_n (r := (some a0)) C dX12_renderClause_114 rfl (lv_at hl 0 rfl) ?_
    refine ql_getI C S qf_13_13 gw_1681 dX12_renderClause_115 w (fun x1 w => ?_)
    exact ql_iret C S hr hlocks dX12_renderClause_118 ⟨Nat.le_of_ble_eq_true rfl, Nat.le_of_ble_eq_true rfl⟩ w
  have hB94 : ∀ (xl2 : Int32) (h : ql_H) (H : Heap) (locs : List Loc) (ls : Array Slot), ql_S D h0 s H locs h → lv_has ls 4 [(0, .ref a0), (2, .int xl2)] → qw_X12_renderClause_94 a0 Q xl2 h → W p l e ({ frames := 24, cells := 0, slots := 0, locals := 367 } : Room) s m ([.ref a0, .int xp1] : List Value).toArray below meth c H locs 0 0 (vx_MQ below (ql_Q D h0 (ql_rI Q)) (ql_X D h0 X) ([.ref a0, .int xp1] : List Value).toArray s 0 0 (ql_A h0)) (F0 m 94 ls []) := by
    intro xl2 h H locs ls S hl w
    unfold qw_X12_renderClause_94 at w
    refine ql_aload_n (r := (some a0)) C dX12_renderClause_94 rfl (lv_at hl 0 rfl) ?_
    refine lv_iload_n C.1.1 C.1.2.1 dX12_renderClause_95 rfl (lv_at hl 1 rfl) ?_
    refine ql_aload_n (r := (some a0)) C dX12_renderClause_96 rfl (lv_at hl 0 rfl) ?_
    refine ql_getR C S qf_13_0 gw_1668 dX12_renderClause_97 w (fun r2 w => ?_)
    refine lv_iconst (v := (2 : Int32)) C.1.1 C.1.2.1 dX12_renderClause_100 (by decide) ?_
    refine ql_iald C S dX12_renderClause_101 w (fun x3 w => ?_)
    refine ql_VI (As := [.int xl2, .int x3]) (rest := []) C S htab hlocks hl qy_X12_isValid qi_X12_isValid qs_X12_isValid gw_1788 (ci := 13) rfl w (fun b w => qm_X12_isValid l hl9 D _ b xl2 x3 _ _ w) rfl ⟨Nat.le_of_ble_eq_true rfl, Nat.le_of_ble_eq_true rfl⟩ ⟨rfl, rfl⟩ (by exact Nat.le_of_ble_eq_true rfl) (fun b e9 => by cases e9; rfl) dX12_renderClause_102 ⟨Nat.le_of_ble_eq_true rfl, Nat.le_of_ble_eq_true rfl⟩ ⟨Nat.le_of_ble_eq_true rfl, Nat.le_of_ble_eq_true rfl⟩ (fun x4 h H locs S w => ?_)
    refine W.cs (cells' := 0) (slots' := 0) rfl rfl ?_
    refine lv_if_ne (tgt := 114) C.1.1 C.1.2.1 dX12_renderClause_105 (by decide) (fun c9 => ?_) (fun c9 => ?_)
    · replace w := ql_ifn w c9
      exact hB114  _ _ _ _ S (lv_sub hl [0] rfl) w
    · replace w := ql_if w c9
      refine ql_aload_n (r := (some a0)) C dX12_renderClause_108 rfl (lv_at hl 0 rfl) ?_
      refine lv_bipush (v := (33 : Int32)) C.1.1 C.1.2.1 dX12_renderClause_109 (by decide) ?_
      refine ql_VV (As := [.int (33 : Int32)]) (rest := []) C S htab hlocks hl qy_X12_writes qi_X12_writes qs_X12_writes gw_2051 (ci := 13) rfl w (fun b w => qm_X12_writes l hl9 D _ b (33 : Int32) _ _ w) rfl ⟨Nat.le_of_ble_eq_true rfl, Nat.le_of_ble_eq_true rfl⟩ ⟨rfl, rfl⟩ (by exact Nat.le_of_ble_eq_true rfl) (fun b e9 => by cases e9; rfl) dX12_renderClause_111 ⟨Nat.le_of_ble_eq_true rfl, Nat.le_of_ble_eq_true rfl⟩ ⟨Nat.le_of_ble_eq_true rfl, Nat.le_of_ble_eq_true rfl⟩ (fun h H locs S w => ?_)
      refine W.cs (cells' := 0) (slots' := 0) rfl rfl ?_
      exact hB114  _ _ _ _ S (lv_sub hl [0] rfl) w
  have hB39 : ∀ n : Nat, ∀ (xl2 : Int32) (xl3 : Int32) (h : ql_H) (H : Heap) (locs : List Loc) (ls : Array Slot), ql_S D h0 s H locs h → lv_has ls 4 [(0, .ref a0), (2, .int xl2), (3, .int xl3)] → qw_X12_renderClause_39 a0 Q n xl2 xl3 h → W p l e ({ frames := 24, cells := 0, slots := 0, locals := 367 } : Room) s m ([.ref a0, .int xp1] : List Value).toArray below meth c H locs 0 0 (vx_MQ below (ql_Q D h0 (ql_rI Q)) (ql_X D h0 X) ([.ref a0, .int xp1] : List Value).toArray s 0 0 (ql_A h0)) (F0 m 39 ls []) := by
    intro n
    induction n with
    | zero => intro xl2 xl3 h H locs ls S hl w; rw [qw_X12_renderClause_39] at w; exact w.elim
    | succ n ih =>
      intro xl2 xl3 h H locs ls S hl w
      rw [qw_X12_renderClause_39] at w
      refine lv_iload_n C.1.1 C.1.2.1 dX12_renderClause_39 rfl (lv_at hl 2 rfl) ?_
      refine ql_aload_n (r := (some a0)) C dX12_renderClause_40 rfl (lv_at hl 0 rfl) ?_
      refine lv_iload_n C.1.1 C.1.2.1 dX12_renderClause_41 rfl (lv_at hl 1 rfl) ?_
      refine ql_VI (As := [.int xl2]) (rest := [.int xl3]) C S htab hlocks hl qy_X12_long0 qi_X12_long0 qs_X12_long0 gw_1776 (ci := 13) rfl w (fun b w => qm_X12_long0 l hl9 D _ b xl2 _ _ w) rfl ⟨Nat.le_of_ble_eq_true rfl, Nat.le_of_ble_eq_true rfl⟩ ⟨rfl, rfl⟩ (by exact Nat.le_of_ble_eq_true rfl) (fun b e9 => by cases e9; rfl) dX12_renderClause_42 ⟨Nat.le_of_ble_eq_true rfl, Nat.le_of_ble_eq_true rfl⟩ ⟨Nat.le_of_ble_eq_true rfl, Nat.le_of_ble_eq_true rfl⟩ (fun x7 h H locs S w => ?_)
      refine W.cs (cells' := 0) (slots' := 0) rfl rfl ?_
      refine lv_icmp_ge (tgt := 69) C.1.1 C.1.2.1 dX12_renderClause_45 (by decide) (fun c9 => ?_) (fun c9 => ?_)
      · replace w := ql_if w c9
        refine ql_aload_n (r := (some a0)) C dX12_renderClause_69 rfl (lv_at hl 0 rfl) ?_
        refine lv_iload_n C.1.1 C.1.2.1 dX12_renderClause_70 rfl (lv_at hl 1 rfl) ?_
        refine lv_iconst (v := (3 : Int32)) C.1.1 C.1.2.1 dX12_renderClause_71 (by decide) ?_
        refine ql_VI (As := [.int xl2, .int (3 : Int32)]) (rest := []) C S htab hlocks hl qy_X12_of qi_X12_of qs_X12_of gw_1745 (ci := 13) rfl w (fun b w => qm_X12_of l hl9 D _ b xl2 (3 : Int32) _ _ w) rfl ⟨Nat.le_of_ble_eq_true rfl, Nat.le_of_ble_eq_true rfl⟩ ⟨rfl, rfl⟩ (by exact Nat.le_of_ble_eq_true rfl) (fun b e9 => by cases e9; rfl) dX12_renderClause_72 ⟨Nat.le_of_ble_eq_true rfl, Nat.le_of_ble_eq_true rfl⟩ ⟨Nat.le_of_ble_eq_true rfl, Nat.le_of_ble_eq_true rfl⟩ (fun x9 h H locs S w => ?_)
        refine W.cs (cells' := 0) (slots' := 0) rfl rfl ?_
        refine lv_if_lt (tgt := 94) C.1.1 C.1.2.1 dX12_renderClause_75 (by decide) (fun c9 => ?_) (fun c9 => ?_)
        · replace w := ql_if w c9
          exact hB94 xl2 _ _ _ _ S (lv_sub hl [0, 1] rfl) w
        · replace w := ql_ifn w c9
          refine ql_aload_n (r := (some a0)) C dX12_renderClause_78 rfl (lv_at hl 0 rfl) ?_
          refine lv_bipush (v := (126 : Int32)) C.1.1 C.1.2.1 dX12_renderClause_79 (by decide) ?_
          refine ql_VV (As := [.int (126 : Int32)]) (rest := []) C S htab hlocks hl qy_X12_writes qi_X12_writes qs_X12_writes gw_2051 (ci := 13) rfl w (fun b w => qm_X12_writes l hl9 D _ b (126 : Int32) _ _ w) rfl ⟨Nat.le_of_ble_eq_true rfl, Nat.le_of_ble_eq_true rfl⟩ ⟨rfl, rfl⟩ (by exact Nat.le_of_ble_eq_true rfl) (fun b e9 => by cases e9; rfl) dX12_renderClause_81 ⟨Nat.le_of_ble_eq_true rfl, Nat.le_of_ble_eq_true rfl⟩ ⟨Nat.le_of_ble_eq_true rfl, Nat.le_of_ble_eq_true rfl⟩ (fun h H locs S w => ?_)
          refine W.cs (cells' := 0) (slots' := 0) rfl rfl ?_
          refine ql_aload_n (r := (some a0)) C dX12_renderClause_84 rfl (lv_at hl 0 rfl) ?_
          refine ql_aload_n (r := (some a0)) C dX12_renderClause_85 rfl (lv_at hl 0 rfl) ?_
          refine lv_iload_n C.1.1 C.1.2.1 dX12_renderClause_86 rfl (lv_at hl 1 rfl) ?_
          refine lv_iconst (v := (3 : Int32)) C.1.1 C.1.2.1 dX12_renderClause_87 (by decide) ?_
          refine ql_VI (As := [.int xl2, .int (3 : Int32)]) (rest := [.ref a0]) C S htab hlocks hl qy_X12_of qi_X12_of qs_X12_of gw_1745 (ci := 13) rfl w (fun b w => qm_X12_of l hl9 D _ b xl2 (3 : Int32) _ _ w) rfl ⟨Nat.le_of_ble_eq_true rfl, Nat.le_of_ble_eq_true rfl⟩ ⟨rfl, rfl⟩ (by exact Nat.le_of_ble_eq_true rfl) (fun b e9 => by cases e9; rfl) dX12_renderClause_88 ⟨Nat.le_of_ble_eq_true rfl, Nat.le_of_ble_eq_true rfl⟩ ⟨Nat.le_of_ble_eq_true rfl, Nat.le_of_ble_eq_true rfl⟩ (fun x12 h H locs S w => ?_)
          refine W.cs (cells' := 0) (slots' := 0) rfl rfl ?_
          refine ql_VV (As := [.int x12]) (rest := []) C S htab hlocks hl qy_X12_writesNumber qi_X12_writesNumber qs_X12_writesNumber gw_2047 (ci := 13) rfl w (fun b w => qm_X12_writesNumber_d9 l hl9 D _ b x12 _ _ w) rfl ⟨Nat.le_of_ble_eq_true rfl, Nat.le_of_ble_eq_true rfl⟩ ⟨rfl, rfl⟩ (by exact Nat.le_of_ble_eq_true rfl) (fun b e9 => by cases e9; rfl) dX12_renderClause_91 ⟨Nat.le_of_ble_eq_true rfl, Nat.le_of_ble_eq_true rfl⟩ ⟨Nat.le_of_ble_eq_true rfl, Nat.le_of_ble_eq_true rfl⟩ (fun h H locs S w => ?_)
          refine W.cs (cells' := 0) (slots' := 0) rfl rfl ?_
          exact hB94 xl2 _ _ _ _ S (lv_sub hl [0, 1] rfl) w
      · replace w := ql_ifn w c9
        refine ql_aload_n (r := (some a0)) C dX12_renderClause_48 rfl (lv_at hl 0 rfl) ?_
        refine ql_aload_n (r := (some a0)) C dX12_renderClause_49 rfl (lv_at hl 0 rfl) ?_
        refine lv_iload_n C.1.1 C.1.2.1 dX12_renderClause_50 rfl (lv_at hl 1 rfl) ?_
        refine ql_aload_n (r := (some a0)) C dX12_renderClause_51 rfl (lv_at hl 0 rfl) ?_
        refine lv_iload_n C.1.1 C.1.2.1 dX12_renderClause_52 rfl (lv_at hl 1 rfl) ?_
        refine ql_VI (As := [.int xl2]) (rest := [.int xl2, .ref a0, .ref a0]) C S htab hlocks hl qy_X12_lastVersion qi_X12_lastVersion qs_X12_lastVersion gw_1780 (ci := 13) rfl w (fun b w => qm_X12_lastVersion l hl9 D _ b xl2 _ _ w) rfl ⟨Nat.le_of_ble_eq_true rfl, Nat.le_of_ble_eq_true rfl⟩ ⟨rfl, rfl⟩ (by exact Nat.le_of_ble_eq_true rfl) (fun b e9 => by cases e9; rfl) dX12_renderClause_53 ⟨Nat.le_of_ble_eq_true rfl, Nat.le_of_ble_eq_true rfl⟩ ⟨Nat.le_of_ble_eq_true rfl, Nat.le_of_ble_eq_true rfl⟩ (fun x15 h H locs S w => ?_)
        refine W.cs (cells' := 0) (slots' := 0) rfl rfl ?_
        refine lv_iload_n C.1.1 C.1.2.1 dX12_renderClause_56 rfl (lv_at hl 2 rfl) ?_
        refine ql_VI (As := [.int xl2, .int x15, .int xl3]) (rest := [.ref a0]) C S htab hlocks hl qy_X12_note qi_X12_note qs_X12_note gw_1796 (ci := 13) rfl w (fun b w => qm_X12_note l hl9 D _ b xl2 x15 xl3 _ _ w) rfl ⟨Nat.le_of_ble_eq_true rfl, Nat.le_of_ble_eq_true rfl⟩ ⟨rfl, rfl⟩ (by exact Nat.le_of_ble_eq_true rfl) (fun b e9 => by cases e9; rfl) dX12_renderClause_57 ⟨Nat.le_of_ble_eq_true rfl, Nat.le_of_ble_eq_true rfl⟩ ⟨Nat.le_of_ble_eq_true rfl, Nat.le_of_ble_eq_true rfl⟩ (fun x17 h H locs S w => ?_)
        refine W.cs (cells' := 0) (slots' := 0) rfl rfl ?_
        refine ql_VV (As := [.int x17]) (rest := []) C S htab hlocks hl qy_X12_writes qi_X12_writes qs_X12_writes gw_2051 (ci := 13) rfl w (fun b w => qm_X12_writes l hl9 D _ b x17 _ _ w) rfl ⟨Nat.le_of_ble_eq_true rfl, Nat.le_of_ble_eq_true rfl⟩ ⟨rfl, rfl⟩ (by exact Nat.le_of_ble_eq_true rfl) (fun b e9 => by cases e9; rfl) dX12_renderClause_60 ⟨Nat.le_of_ble_eq_true rfl, Nat.le_of_ble_eq_true rfl⟩ ⟨Nat.le_of_ble_eq_true rfl, Nat.le_of_ble_eq_true rfl⟩ (fun h H locs S w => ?_)
        refine W.cs (cells' := 0) (slots' := 0) rfl rfl ?_
        refine lv_iinc (v := (xl3 + (1 : Int32))) (lv' := [(3, .int (xl3 + (1 : Int32))), (0, .ref a0), (2, .int xl2)]) C.1.1 C.1.2.1 dX12_renderClause_63 hl (k := 2) rfl rfl (by decide) rfl (fun ls hl => ?_)
        refine lv_goto (tgt := 39) C.1.1 C.1.2.1 dX12_renderClause_66 (by decide) ?_
        exact ih xl2 (xl3 + (1 : Int32)) _ _ _ _ S (lv_sub hl [1, 2, 0] rfl) w
  unfold qw_X12_renderClause at w
  refine ql_aload_n (r := (some a0)) C dX12_renderClause_0 rfl (lv_at hl 0 rfl) ?_
  refine lv_iload_n C.1.1 C.1.2.1 dX12_renderClause_1 rfl (lv_at hl 1 rfl) ?_
  refine ql_VI (As := [.int xp1]) (rest := []) C S htab hlocks hl qy_X12_isNone qi_X12_isNone qs_X12_isNone gw_1872 (ci := 13) rfl w (fun b w => qm_X12_isNone l hl9 D _ b xp1 _ _ w) rfl ⟨Nat.le_of_ble_eq_true rfl, Nat.le_of_ble_eq_true rfl⟩ ⟨rfl, rfl⟩ (by exact Nat.le_of_ble_eq_true rfl) (fun b e9 => by cases e9; rfl) dX12_renderClause_2 ⟨Nat.le_of_ble_eq_true rfl, Nat.le_of_ble_eq_true rfl⟩ ⟨Nat.le_of_ble_eq_true rfl, Nat.le_of_ble_eq_true rfl⟩ (fun x20 h H locs S w => ?_)
  refine W.cs (cells' := 0) (slots' := 0) rfl rfl ?_
  refine lv_if_eq (tgt := 10) C.1.1 C.1.2.1 dX12_renderClause_5 (by decide) (fun c9 => ?_) (fun c9 => ?_)
  · replace w := ql_if w c9
    refine ql_aload_n (r := (some a0)) C dX12_renderClause_10 rfl (lv_at hl 0 rfl) ?_
    refine lv_iload_n C.1.1 C.1.2.1 dX12_renderClause_11 rfl (lv_at hl 1 rfl) ?_
    refine ql_VI (As := [.int xp1]) (rest := []) C S htab hlocks hl qy_X12_placeOf qi_X12_placeOf qs_X12_placeOf gw_1772 (ci := 13) rfl w (fun b w => qm_X12_placeOf l hl9 D _ b xp1 _ _ w) rfl ⟨Nat.le_of_ble_eq_true rfl, Nat.le_of_ble_eq_true rfl⟩ ⟨rfl, rfl⟩ (by exact Nat.le_of_ble_eq_true rfl) (fun b e9 => by cases e9; rfl) dX12_renderClause_12 ⟨Nat.le_of_ble_eq_true rfl, Nat.le_of_ble_eq_true rfl⟩ ⟨Nat.le_of_ble_eq_true rfl, Nat.le_of_ble_eq_true rfl⟩ (fun x22 h H locs S w => ?_)
    refine W.cs (cells' := 0) (slots' := 0) rfl rfl ?_
    refine lv_istore_n (lv' := [(2, .int x22), (0, .ref a0), (1, .int xp1)]) C.1.1 C.1.2.1 dX12_renderClause_15 rfl hl (by decide) rfl (fun ls hl => ?_)
    refine ql_aload_n (r := (some a0)) C dX12_renderClause_16 rfl (lv_at hl 1 rfl) ?_
    refine lv_iconst (v := (0 : Int32)) C.1.1 C.1.2.1 dX12_renderClause_17 (by decide) ?_
    refine ql_putV C S qf_13_13 gw_1681 (tyX12) tyX12_ok nmX12 rfl dX12_renderClause_18 (v := .int (0 : Int32)) rfl rfl w (fun h H locs S w => ?_)
    refine ql_aload_n (r := (some a0)) C dX12_renderClause_21 rfl (lv_at hl 1 rfl) ?_
    refine ql_aload_n (r := (some a0)) C dX12_renderClause_22 rfl (lv_at hl 1 rfl) ?_
    refine lv_iload_n C.1.1 C.1.2.1 dX12_renderClause_23 rfl (lv_at hl 0 rfl) ?_
    refine lv_iconst (v := (1 : Int32)) C.1.1 C.1.2.1 dX12_renderClause_24 (by decide) ?_
    refine ql_VI (As := [.int x22, .int (1 : Int32)]) (rest := [.ref a0]) C S htab hlocks hl qy_X12_of qi_X12_of qs_X12_of gw_1745 (ci := 13) rfl w (fun b w => qm_X12_of l hl9 D _ b x22 (1 : Int32) _ _ w) rfl ⟨Nat.le_of_ble_eq_true rfl, Nat.le_of_ble_eq_true rfl⟩ ⟨rfl, rfl⟩ (by exact Nat.le_of_ble_eq_true rfl) (fun b e9 => by cases e9; rfl) dX12_renderClause_25 ⟨Nat.le_of_ble_eq_true rfl, Nat.le_of_ble_eq_true rfl⟩ ⟨Nat.le_of_ble_eq_true rfl, Nat.le_of_ble_eq_true rfl⟩ (fun x24 h H locs S w => ?_)
    refine W.cs (cells' := 0) (slots' := 0) rfl rfl ?_
    refine ql_VV (As := [.int x24]) (rest := []) C S htab hlocks hl qy_X12_writesNumber qi_X12_writesNumber qs_X12_writesNumber gw_2047 (ci := 13) rfl w (fun b w => qm_X12_writesNumber_d9 l hl9 D _ b x24 _ _ w) rfl ⟨Nat.le_of_ble_eq_true rfl, Nat.le_of_ble_eq_true rfl⟩ ⟨rfl, rfl⟩ (by exact Nat.le_of_ble_eq_true rfl) (fun b e9 => by cases e9; rfl) dX12_renderClause_28 ⟨Nat.le_of_ble_eq_true rfl, Nat.le_of_ble_eq_true rfl⟩ ⟨Nat.le_of_ble_eq_true rfl, Nat.le_of_ble_eq_true rfl⟩ (fun h H locs S w => ?_)
    refine W.cs (cells' := 0) (slots' := 0) rfl rfl ?_
    refine ql_aload_n (r := (some a0)) C dX12_renderClause_31 rfl (lv_at hl 1 rfl) ?_
    refine lv_bipush (v := (58 : Int32)) C.1.1 C.1.2.1 dX12_renderClause_32 (by decide) ?_
    refine ql_VV (As := [.int (58 : Int32)]) (rest := []) C S htab hlocks hl qy_X12_writes qi_X12_writes qs_X12_writes gw_2051 (ci := 13) rfl w (fun b w => qm_X12_writes l hl9 D _ b (58 : Int32) _ _ w) rfl ⟨Nat.le_of_ble_eq_true rfl, Nat.le_of_ble_eq_true rfl⟩ ⟨rfl, rfl⟩ (by exact Nat.le_of_ble_eq_true rfl) (fun b e9 => by cases e9; rfl) dX12_renderClause_34 ⟨Nat.le_of_ble_eq_true rfl, Nat.le_of_ble_eq_true rfl⟩ ⟨Nat.le_of_ble_eq_true rfl, Nat.le_of_ble_eq_true rfl⟩ (fun h H locs S w => ?_)
    refine W.cs (cells' := 0) (slots' := 0) rfl rfl ?_
    refine lv_iconst (v := (0 : Int32)) C.1.1 C.1.2.1 dX12_renderClause_37 (by decide) ?_
    refine lv_istore_n (lv' := [(3, .int (0 : Int32)), (2, .int x22), (0, .ref a0), (1, .int xp1)]) C.1.1 C.1.2.1 dX12_renderClause_38 rfl hl (by decide) rfl (fun ls hl => ?_)
    exact hB39 ql_FU x22 (0 : Int32) _ _ _ _ S (lv_sub hl [2, 1, 0] rfl) w
  · replace w := ql_ifn w c9
    refine lv_iconst (v := (0 : Int32)) C.1.1 C.1.2.1 dX12_renderClause_8 (by decide) ?_
    exact ql_iret C S hr hlocks dX12_renderClause_9 ⟨Nat.le_of_ble_eq_true rfl, Nat.le_of_ble_eq_true rfl⟩ w
def qw_X12_outputAt_20 (a0 : Nat) (Q : Int32 → ql_H → Prop) (xl1 : Int32) (rs0 : Option Nat) (xs1 : Int32) (h : ql_H) : Prop :=
ql_rv h rs0 13 fun b1 => qw_X12_fails b1 xs1 h (fun x1 h =>
if x1 = 0 then (ql_gR h (some a0) 13 12 fun r3 =>
ql_lI h r3 2 xl1 fun x4 =>
ql_nz .char x4 ∧ Q x4 h) else (ql_nz .char (32 : Int32) ∧ Q (32 : Int32) h))
def qw_X12_outputAt (a0 : Nat) (xp1 : Int32) (h : ql_H) (Q : Int32 → ql_H → Prop) : Prop :=
ql_gI h (some a0) 13 13 fun x5 =>
qw_X12_in xp1 (0 : Int32) (x5 - (1 : Int32)) h (fun x6 h =>
if x6 = 0 then (qw_X12_outputAt_20 a0 Q xp1 (some a0) (1 : Int32) h) else (qw_X12_outputAt_20 a0 Q xp1 (some a0) (0 : Int32) h))
set_option maxHeartbeats 4000000 in
set_option maxRecDepth 100000 in
theorem qm_X12_outputAt (l : Launch) (hl9 : l.stackTraces = false) (D : ql_D) (h0 : ql_H) (a0 : Nat) (xp1 : Int32) (Q : Int32 → ql_H → Prop) (X : String → ql_H → Prop) (w : qw_X12_outputAt a0 xp1 h0 Q) : ql_M D l yX12_outputAt cX12_outputAt 2 (some .char) ({ frames := 4, cells := 0, slots := 0, locals := 78 } : Room) h0 [.ref a0, .int xp1] (ql_rI Q) X 0 0 := by
  refine ql_ofW (by decide) (Nat.le_of_ble_eq_true rfl) ?_
  intro p e s m below meth c ls C hr hlocks hnm htab S hl
  have hl : lv_has ls 2 [(0, .ref a0), (1, .int xp1)] := hl
  have hB20 : ∀ (xl1 : Int32) (rs0 : Option Nat) (xs1 : Int32) (h : ql_H) (H : Heap) (locs : List Loc) (ls : Array Slot), ql_S D h0 s H locs h → lv_has ls 2 [(0, .ref a0), (1, .int xl1)] → qw_X12_outputAt_20 a0 Q xl1 rs0 xs1 h → W p l e ({ frames := 4, cells := 0, slots := 0, locals := 78 } : Room) s m ([.ref a0, .int xp1] : List Value).toArray below meth c H locs 0 0 (vx_MQ below (ql_Q D h0 (ql_rI Q)) (ql_X D h0 X) ([.ref a0, .int xp1] : List Value).toArray s 0 0 (ql_A h0)) (F0 m 20 ls [.int xs1, va_rf rs0]) := by
    intro xl1 rs0 xs1 h H locs ls S hl w
    unfold qw_X12_outputAt_20 at w
    refine ql_VI (As := [.int xs1]) (rest := []) C S htab hlocks hl qy_X12_fails qi_X12_fails qs_X12_fails gw_1749 (ci := 13) rfl w (fun b w => qm_X12_fails l hl9 D _ b xs1 _ _ w) rfl ⟨Nat.le_of_ble_eq_true rfl, Nat.le_of_ble_eq_true rfl⟩ ⟨rfl, rfl⟩ (by exact Nat.le_of_ble_eq_true rfl) (fun b e9 => by cases e9; rfl) dX12_outputAt_20 ⟨Nat.le_of_ble_eq_true rfl, Nat.le_of_ble_eq_true rfl⟩ ⟨Nat.le_of_ble_eq_true rfl, Nat.le_of_ble_eq_true rfl⟩ (fun x1 h H locs S w => ?_)
    refine W.cs (cells' := 0) (slots' := 0) rfl rfl ?_
    refine lv_if_eq (tgt := 31) C.1.1 C.1.2.1 dX12_outputAt_23 (by decide) (fun c9 => ?_) (fun c9 => ?_)
    · replace w := ql_if w c9
      refine ql_aload_n (r := (some a0)) C dX12_outputAt_31 rfl (lv_at hl 0 rfl) ?_
      refine ql_getR C S qf_13_12 gw_1680 dX12_outputAt_32 w (fun r3 w => ?_)
      refine lv_iload_n C.1.1 C.1.2.1 dX12_outputAt_35 rfl (lv_at hl 1 rfl) ?_
      refine ql_cald C S dX12_outputAt_36 w (fun x4 w => ?_)
      exact ql_zret C S hr hlocks dX12_outputAt_37 ⟨Nat.le_of_ble_eq_true rfl, Nat.le_of_ble_eq_true rfl⟩ w
    · replace w := ql_ifn w c9
      refine lv_bipush (v := (32 : Int32)) C.1.1 C.1.2.1 dX12_outputAt_26 (by decide) ?_
      refine lv_goto (tgt := 37) C.1.1 C.1.2.1 dX12_outputAt_28 (by decide) ?_
      exact ql_zret C S hr hlocks dX12_outputAt_37 ⟨Nat.le_of_ble_eq_true rfl, Nat.le_of_ble_eq_true rfl⟩ w
  unfold qw_X12_outputAt at w
  refine ql_aload_n (r := (some a0)) C dX12_outputAt_0 rfl (lv_at hl 0 rfl) ?_
  refine lv_iload_n C.1.1 C.1.2.1 dX12_outputAt_1 rfl (lv_at hl 1 rfl) ?_
  refine lv_iconst (v := (0 : Int32)) C.1.1 C.1.2.1 dX12_outputAt_2 (by decide) ?_
  refine ql_aload_n (r := (some a0)) C dX12_outputAt_3 rfl (lv_at hl 0 rfl) ?_
  refine ql_getI C S qf_13_13 gw_1681 dX12_outputAt_4 w (fun x5 w => ?_)
  refine lv_iconst (v := (1 : Int32)) C.1.1 C.1.2.1 dX12_outputAt_7 (by decide) ?_
  refine lv_isub C.1.1 C.1.2.1 dX12_outputAt_8 ?_
  refine ql_SI (As := [.int xp1, .int (0 : Int32), .int (x5 - (1 : Int32))]) (rest := [.ref a0]) C S htab hlocks hl qy_X12_in qi_X12_in gw_1735 (qm_X12_in l hl9 D _ xp1 (0 : Int32) (x5 - (1 : Int32)) _ _ w) rfl ⟨Nat.le_of_ble_eq_true rfl, Nat.le_of_ble_eq_true rfl⟩ ⟨rfl, rfl⟩ (by exact Nat.le_of_ble_eq_true rfl) rfl dX12_outputAt_9 ⟨Nat.le_of_ble_eq_true rfl, Nat.le_of_ble_eq_true rfl⟩ ⟨Nat.le_of_ble_eq_true rfl, Nat.le_of_ble_eq_true rfl⟩ (fun x6 h H locs S w => ?_)
  refine W.cs (cells' := 0) (slots' := 0) rfl rfl ?_
  refine lv_if_eq (tgt := 19) C.1.1 C.1.2.1 dX12_outputAt_12 (by decide) (fun c9 => ?_) (fun c9 => ?_)
  · replace w := ql_if w c9
    refine lv_iconst (v := (1 : Int32)) C.1.1 C.1.2.1 dX12_outputAt_19 (by decide) ?_
    exact hB20 xp1 (some a0) (1 : Int32) _ _ _ _ S (lv_sub hl [0, 1] rfl) w
  · replace w := ql_ifn w c9
    refine lv_iconst (v := (0 : Int32)) C.1.1 C.1.2.1 dX12_outputAt_15 (by decide) ?_
    refine lv_goto (tgt := 20) C.1.1 C.1.2.1 dX12_outputAt_16 (by decide) ?_
    exact hB20 xp1 (some a0) (0 : Int32) _ _ _ _ S (lv_sub hl [0, 1] rfl) w
def qw_X12_type_30 (a0 : Nat) (Q : Int32 → ql_H → Prop) (xl1 : Int32) (rs0 : Option Nat) (xs1 : Int32) (h : ql_H) : Prop :=
ql_rv h rs0 13 fun b1 => qw_X12_fails b1 xs1 h (fun x1 h =>
if x1 = 0 then (ql_gR h (some a0) 13 8 fun r3 =>
ql_gI h (some a0) 13 9 fun x4 =>
ql_sI h r3 0 x4 xl1 fun h =>
ql_gI h (some a0) 13 9 fun x5 =>
ql_pV h (some a0) 13 9 (.int (x5 + (1 : Int32))) fun h =>
ql_gI h (some a0) 13 9 fun x6 =>
Q x6 h) else (Q (0 : Int32) h))
def qw_X12_type (a0 : Nat) (xp1 : Int32) (h : ql_H) (Q : Int32 → ql_H → Prop) : Prop :=
qw_X12_in xp1 (32 : Int32) (126 : Int32) h (fun x7 h =>
if x7 = 0 then (qw_X12_type_30 a0 Q xp1 (some a0) (1 : Int32) h) else (ql_gI h (some a0) 13 9 fun x8 =>
if x8 = (60 : Int32) then (qw_X12_type_30 a0 Q xp1 (some a0) (2 : Int32) h) else (qw_X12_type_30 a0 Q xp1 (some a0) (0 : Int32) h)))
set_option maxHeartbeats 4000000 in
set_option maxRecDepth 100000 in
theorem qm_X12_type (l : Launch) (hl9 : l.stackTraces = false) (D : ql_D) (h0 : ql_H) (a0 : Nat) (xp1 : Int32) (Q : Int32 → ql_H → Prop) (X : String → ql_H → Prop) (w : qw_X12_type a0 xp1 h0 Q) : ql_M D l yX12_type cX12_type 2 (some .int) ({ frames := 4, cells := 0, slots := 0, locals := 78 } : Room) h0 [.ref a0, .int xp1] (ql_rI Q) X 0 0 := by
  refine ql_ofW (by decide) (Nat.le_of_ble_eq_true rfl) ?_
  intro p e s m below meth c ls C hr hlocks hnm htab S hl
  have hl : lv_has ls 2 [(0, .ref a0), (1, .int xp1)] := hl
  have hB30 : ∀ (xl1 : Int32) (rs0 : Option Nat) (xs1 : Int32) (h : ql_H) (H : Heap) (locs : List Loc) (ls : Array Slot), ql_S D h0 s H locs h → lv_has ls 2 [(0, .ref a0), (1, .int xl1)] → qw_X12_type_30 a0 Q xl1 rs0 xs1 h → W p l e ({ frames := 4, cells := 0, slots := 0, locals := 78 } : Room) s m ([.ref a0, .int xp1] : List Value).toArray below meth c H locs 0 0 (vx_MQ below (ql_Q D h0 (ql_rI Q)) (ql_X D h0 X) ([.ref a0, .int xp1] : List Value).toArray s 0 0 (ql_A h0)) (F0 m 30 ls [.int xs1, va_rf rs0]) := by
    intro xl1 rs0 xs1 h H locs ls S hl w
    unfold qw_X12_type_30 at w
    refine ql_VI (As := [.int xs1]) (rest := []) C S htab hlocks hl qy_X12_fails qi_X12_fails qs_X12_fails gw_1749 (ci := 13) rfl w (fun b w => qm_X12_fails l hl9 D _ b xs1 _ _ w) rfl ⟨Nat.le_of_ble_eq_true rfl, Nat.le_of_ble_eq_true rfl⟩ ⟨rfl, rfl⟩ (by exact Nat.le_of_ble_eq_true rfl) (fun b e9 => by cases e9; rfl) dX12_type_30 ⟨Nat.le_of_ble_eq_true rfl, Nat.le_of_ble_eq_true rfl⟩ ⟨Nat.le_of_ble_eq_true rfl, Nat.le_of_ble_eq_true rfl⟩ (fun x1 h H locs S w => ?_)
    refine W.cs (cells' := 0) (slots' := 0) rfl rfl ?_
    refine lv_if_eq (tgt := 38) C.1.1 C.1.2.1 dX12_type_33 (by decide) (fun c9 => ?_) (fun c9 => ?_)
    · replace w := ql_if w c9
      refine ql_aload_n (r := (some a0)) C dX12_type_38 rfl (lv_at hl 0 rfl) ?_
      refine ql_getR C S qf_13_8 gw_1676 dX12_type_39 w (fun r3 w => ?_)
      refine ql_aload_n (r := (some a0)) C dX12_type_42 rfl (lv_at hl 0 rfl) ?_
      refine ql_getI C S qf_13_9 gw_1677 dX12_type_43 w (fun x4 w => ?_)
      refine lv_iload_n C.1.1 C.1.2.1 dX12_type_46 rfl (lv_at hl 1 rfl) ?_
      refine ql_iast C S dX12_type_47 w (fun h H locs S w => ?_)
      refine ql_aload_n (r := (some a0)) C dX12_type_48 rfl (lv_at hl 0 rfl) ?_
      refine lv_dup C.1.1 C.1.2.1 dX12_type_49 (ql_catR _) ?_
      refine ql_getI C S qf_13_9 gw_1677 dX12_type_50 w (fun x5 w => ?_)
      refine lv_iconst (v := (1 : Int32)) C.1.1 C.1.2.1 dX12_type_53 (by decide) ?_
      refine lv_iadd C.1.1 C.1.2.1 dX12_type_54 ?_
      refine ql_putV C S qf_13_9 gw_1677 (tyX12) tyX12_ok nmX12 rfl dX12_type_55 (v := .int (x5 + (1 : Int32))) rfl rfl w (fun h H locs S w => ?_)
      refine ql_aload_n (r := (some a0)) C dX12_type_58 rfl (lv_at hl 0 rfl) ?_
      refine ql_getI C S qf_13_9 gw_1677 dX12_type_59 w (fun x6 w => ?_)
      exact ql_iret C S hr hlocks dX12_type_62 ⟨Nat.le_of_ble_eq_true rfl, Nat.le_of_ble_eq_true rfl⟩ w
    · replace w := ql_ifn w c9
      refine lv_iconst (v := (0 : Int32)) C.1.1 C.1.2.1 dX12_type_36 (by decide) ?_
      exact ql_iret C S hr hlocks dX12_type_37 ⟨Nat.le_of_ble_eq_true rfl, Nat.le_of_ble_eq_true rfl⟩ w
  unfold qw_X12_type at w
  refine ql_aload_n (r := (some a0)) C dX12_type_0 rfl (lv_at hl 0 rfl) ?_
  refine lv_iload_n C.1.1 C.1.2.1 dX12_type_1 rfl (lv_at hl 1 rfl) ?_
  refine lv_bipush (v := (32 : Int32)) C.1.1 C.1.2.1 dX12_type_2 (by decide) ?_
  refine lv_bipush (v := (126 : Int32)) C.1.1 C.1.2.1 dX12_type_4 (by decide) ?_
  refine ql_SI (As := [.int xp1, .int (32 : Int32), .int (126 : Int32)]) (rest := [.ref a0]) C S htab hlocks hl qy_X12_in qi_X12_in gw_1735 (qm_X12_in l hl9 D _ xp1 (32 : Int32) (126 : Int32) _ _ w) rfl ⟨Nat.le_of_ble_eq_true rfl, Nat.le_of_ble_eq_true rfl⟩ ⟨rfl, rfl⟩ (by exact Nat.le_of_ble_eq_true rfl) rfl dX12_type_6 ⟨Nat.le_of_ble_eq_true rfl, Nat.le_of_ble_eq_true rfl⟩ ⟨Nat.le_of_ble_eq_true rfl, Nat.le_of_ble_eq_true rfl⟩ (fun x7 h H locs S w => ?_)
  refine W.cs (cells' := 0) (slots' := 0) rfl rfl ?_
  refine lv_if_ne (tgt := 16) C.1.1 C.1.2.1 dX12_type_9 (by decide) (fun c9 => ?_) (fun c9 => ?_)
  · replace w := ql_ifn w c9
    refine ql_aload_n (r := (some a0)) C dX12_type_16 rfl (lv_at hl 0 rfl) ?_
    refine ql_getI C S qf_13_9 gw_1677 dX12_type_17 w (fun x8 w => ?_)
    refine lv_bipush (v := (60 : Int32)) C.1.1 C.1.2.1 dX12_type_20 (by decide) ?_
    refine lv_icmp_ne (tgt := 29) C.1.1 C.1.2.1 dX12_type_22 (by decide) (fun c9 => ?_) (fun c9 => ?_)
    · replace w := ql_ifn w c9
      refine lv_iconst (v := (0 : Int32)) C.1.1 C.1.2.1 dX12_type_29 (by decide) ?_
      exact hB30 xp1 (some a0) (0 : Int32) _ _ _ _ S (lv_sub hl [0, 1] rfl) w
    · replace w := ql_if w c9
      refine lv_iconst (v := (2 : Int32)) C.1.1 C.1.2.1 dX12_type_25 (by decide) ?_
      refine lv_goto (tgt := 30) C.1.1 C.1.2.1 dX12_type_26 (by decide) ?_
      exact hB30 xp1 (some a0) (2 : Int32) _ _ _ _ S (lv_sub hl [0, 1] rfl) w
  · replace w := ql_if w c9
    refine lv_iconst (v := (1 : Int32)) C.1.1 C.1.2.1 dX12_type_12 (by decide) ?_
    refine lv_goto (tgt := 30) C.1.1 C.1.2.1 dX12_type_13 (by decide) ?_
    exact hB30 xp1 (some a0) (1 : Int32) _ _ _ _ S (lv_sub hl [0, 1] rfl) w
def qw_X12_here (a0 : Nat) (h : ql_H) (Q : Int32 → ql_H → Prop) : Prop :=
ql_gI h (some a0) 13 16 fun x1 =>
ql_gI h (some a0) 13 9 fun x2 =>
if x2 ≤ x1 then (Q (-1 : Int32) h) else (ql_gR h (some a0) 13 8 fun r3 =>
ql_gI h (some a0) 13 16 fun x4 =>
ql_lI h r3 0 x4 fun x5 =>
Q x5 h)
set_option maxHeartbeats 4000000 in
set_option maxRecDepth 100000 in
theorem qm_X12_here (l : Launch) (hl9 : l.stackTraces = false) (D : ql_D) (h0 : ql_H) (a0 : Nat) (Q : Int32 → ql_H → Prop) (X : String → ql_H → Prop) (w : qw_X12_here a0 h0 Q) : ql_M D l yX12_here cX12_here 1 (some .int) ({ frames := 2, cells := 0, slots := 0, locals := 48 } : Room) h0 [.ref a0] (ql_rI Q) X 0 0 := by
  refine ql_ofW (by decide) (Nat.le_of_ble_eq_true rfl) ?_
  intro p e s m below meth c ls C hr hlocks hnm htab S hl
  have hl : lv_has ls 1 [(0, .ref a0)] := hl
  unfold qw_X12_here at w
  refine ql_aload_n (r := (some a0)) C dX12_here_0 rfl (lv_at hl 0 rfl) ?_
  refine ql_getI C S qf_13_16 gw_1684 dX12_here_1 w (fun x1 w => ?_)
  refine ql_aload_n (r := (some a0)) C dX12_here_4 rfl (lv_at hl 0 rfl) ?_
  refine ql_getI C S qf_13_9 gw_1677 dX12_here_5 w (fun x2 w => ?_)
  refine lv_icmp_ge (tgt := 23) C.1.1 C.1.2.1 dX12_here_8 (by decide) (fun c9 => ?_) (fun c9 => ?_)
  · replace w := ql_if w c9
    refine lv_iconst (v := (-1 : Int32)) C.1.1 C.1.2.1 dX12_here_23 (by decide) ?_
    exact ql_iret C S hr hlocks dX12_here_24 ⟨Nat.le_of_ble_eq_true rfl, Nat.le_of_ble_eq_true rfl⟩ w
  · replace w := ql_ifn w c9
    refine ql_aload_n (r := (some a0)) C dX12_here_11 rfl (lv_at hl 0 rfl) ?_
    refine ql_getR C S qf_13_8 gw_1676 dX12_here_12 w (fun r3 w => ?_)
    refine ql_aload_n (r := (some a0)) C dX12_here_15 rfl (lv_at hl 0 rfl) ?_
    refine ql_getI C S qf_13_16 gw_1684 dX12_here_16 w (fun x4 w => ?_)
    refine ql_iald C S dX12_here_19 w (fun x5 w => ?_)
    refine lv_goto (tgt := 24) C.1.1 C.1.2.1 dX12_here_20 (by decide) ?_
    exact ql_iret C S hr hlocks dX12_here_24 ⟨Nat.le_of_ble_eq_true rfl, Nat.le_of_ble_eq_true rfl⟩ w
def qw_X12_skips (a0 : Nat) (xp1 : Int32) (h : ql_H) (Q : Int32 → ql_H → Prop) : Prop :=
ql_rv h (some a0) 13 fun b1 => qw_X12_here b1  h (fun x1 h =>
if x1 = xp1 then (ql_gI h (some a0) 13 16 fun x3 =>
ql_pV h (some a0) 13 16 (.int (x3 + (1 : Int32))) fun h =>
ql_nz .boolean (1 : Int32) ∧ Q (1 : Int32) h) else (ql_nz .boolean (0 : Int32) ∧ Q (0 : Int32) h))
set_option maxHeartbeats 4000000 in
set_option maxRecDepth 100000 in
theorem qm_X12_skips (l : Launch) (hl9 : l.stackTraces = false) (D : ql_D) (h0 : ql_H) (a0 : Nat) (xp1 : Int32) (Q : Int32 → ql_H → Prop) (X : String → ql_H → Prop) (w : qw_X12_skips a0 xp1 h0 Q) : ql_M D l yX12_skips cX12_skips 2 (some .boolean) ({ frames := 4, cells := 0, slots := 0, locals := 76 } : Room) h0 [.ref a0, .int xp1] (ql_rI Q) X 0 0 := by
  refine ql_ofW (by decide) (Nat.le_of_ble_eq_true rfl) ?_
  intro p e s m below meth c ls C hr hlocks hnm htab S hl
  have hl : lv_has ls 2 [(0, .ref a0), (1, .int xp1)] := hl
  unfold qw_X12_skips at w
  refine ql_aload_n (r := (some a0)) C dX12_skips_0 rfl (lv_at hl 0 rfl) ?_
  refine ql_VI (As := []) (rest := []) C S htab hlocks hl qy_X12_here qi_X12_here qs_X12_here gw_2079 (ci := 13) rfl w (fun b w => qm_X12_here l hl9 D _ b _ _ w) rfl ⟨Nat.le_of_ble_eq_true rfl, Nat.le_of_ble_eq_true rfl⟩ ⟨rfl, rfl⟩ (by exact Nat.le_of_ble_eq_true rfl) (fun b e9 => by cases e9; rfl) dX12_skips_1 ⟨Nat.le_of_ble_eq_true rfl, Nat.le_of_ble_eq_true rfl⟩ ⟨Nat.le_of_ble_eq_true rfl, Nat.le_of_ble_eq_true rfl⟩ (fun x1 h H locs S w => ?_)
  refine W.cs (cells' := 0) (slots' := 0) rfl rfl ?_
  refine lv_iload_n C.1.1 C.1.2.1 dX12_skips_4 rfl (lv_at hl 1 rfl) ?_
  refine lv_icmp_eq (tgt := 10) C.1.1 C.1.2.1 dX12_skips_5 (by decide) (fun c9 => ?_) (fun c9 => ?_)
  · replace w := ql_if w c9
    refine ql_aload_n (r := (some a0)) C dX12_skips_10 rfl (lv_at hl 0 rfl) ?_
    refine lv_dup C.1.1 C.1.2.1 dX12_skips_11 (ql_catR _) ?_
    refine ql_getI C S qf_13_16 gw_1684 dX12_skips_12 w (fun x3 w => ?_)
    refine lv_iconst (v := (1 : Int32)) C.1.1 C.1.2.1 dX12_skips_15 (by decide) ?_
    refine lv_iadd C.1.1 C.1.2.1 dX12_skips_16 ?_
    refine ql_putV C S qf_13_16 gw_1684 (tyX12) tyX12_ok nmX12 rfl dX12_skips_17 (v := .int (x3 + (1 : Int32))) rfl rfl w (fun h H locs S w => ?_)
    refine lv_iconst (v := (1 : Int32)) C.1.1 C.1.2.1 dX12_skips_20 (by decide) ?_
    exact ql_zret C S hr hlocks dX12_skips_21 ⟨Nat.le_of_ble_eq_true rfl, Nat.le_of_ble_eq_true rfl⟩ w
  · replace w := ql_ifn w c9
    refine lv_iconst (v := (0 : Int32)) C.1.1 C.1.2.1 dX12_skips_8 (by decide) ?_
    exact ql_zret C S hr hlocks dX12_skips_9 ⟨Nat.le_of_ble_eq_true rfl, Nat.le_of_ble_eq_true rfl⟩ w
def qw_X12_isWord_14 (σ : Nat → Nat) (a0 : Nat) (Q : Int32 → ql_H → Prop) : Nat → Option Nat → Int32 → ql_H → Prop
  | 0, _, _, _ => False
  | n + 1, rl2, xl3, h =>
    ql_st σ rl2 fun b1 => qw_J0_length_8abf5 σ (σ (200 + b1))  h (fun x1 h =>
    if x1 ≤ xl3 then (ql_nz .boolean (1 : Int32) ∧ Q (1 : Int32) h) else (ql_st σ rl2 fun b3 => qw_J0_charAt_5068e σ (σ (200 + b3)) xl3 h (fun x3 h =>
    ql_rv h (some a0) 13 fun b5 => qw_X12_skips b5 x3 h (fun x5 h =>
    if x5 = 0 then (ql_nz .boolean (0 : Int32) ∧ Q (0 : Int32) h) else (qw_X12_isWord_14 σ a0 Q n rl2 (xl3 + (1 : Int32)) h)))))
def qw_X12_isWord (σ : Nat → Nat) (a0 : Nat) (xp1 : Int32) (rp2 : Option Nat) (h : ql_H) (Q : Int32 → ql_H → Prop) : Prop :=
ql_gR h (some a0) 13 17 fun r7 =>
ql_gI h (some a0) 13 18 fun x8 =>
ql_sI h r7 0 ((4 : Int32) * x8) xp1 fun h =>
qw_X12_isWord_14 σ a0 Q ql_FU rp2 (0 : Int32) h
set_option maxHeartbeats 4000000 in
set_option maxRecDepth 100000 in
theorem qm_X12_isWord (l : Launch) (hl9 : l.stackTraces = false) (D : ql_D) (h0 : ql_H) (a0 : Nat) (xp1 : Int32) (rp2 : Option Nat) (Q : Int32 → ql_H → Prop) (X : String → ql_H → Prop) (w : qw_X12_isWord D.2 a0 xp1 rp2 h0 Q) : ql_M D l yX12_isWord cX12_isWord 4 (some .boolean) ({ frames := 10, cells := 0, slots := 0, locals := 165 } : Room) h0 [.ref a0, .int xp1, va_rf rp2] (ql_rI Q) X 0 0 := by
  refine ql_ofW (by decide) (by cases rp2 <;> exact Nat.le_of_ble_eq_true rfl) ?_
  intro p e s m below meth c ls C hr hlocks hnm htab S hl
  rw [show lv_args 0 [.ref a0, .int xp1, va_rf rp2] = [(0, .ref a0), (1, .int xp1), (2, va_rf rp2)] from by cases rp2 <;> rfl] at hl
  have hB14 : ∀ n : Nat, ∀ (rl2 : Option Nat) (xl3 : Int32) (h : ql_H) (H : Heap) (locs : List Loc) (ls : Array Slot), ql_S D h0 s H locs h → lv_has ls 4 [(0, .ref a0), (2, va_rf rl2), (3, .int xl3)] → qw_X12_isWord_14 D.2 a0 Q n rl2 xl3 h → W p l e ({ frames := 10, cells := 0, slots := 0, locals := 165 } : Room) s m ([.ref a0, .int xp1, va_rf rp2] : List Value).toArray below meth c H locs 0 0 (vx_MQ below (ql_Q D h0 (ql_rI Q)) (ql_X D h0 X) ([.ref a0, .int xp1, va_rf rp2] : List Value).toArray s 0 0 (ql_A h0)) (F0 m 14 ls []) := by
    intro n
    induction n with
    | zero => intro rl2 xl3 h H locs ls S hl w; rw [qw_X12_isWord_14] at w; exact w.elim
    | succ n ih =>
      intro rl2 xl3 h H locs ls S hl w
      rw [qw_X12_isWord_14] at w
      refine lv_iload_n C.1.1 C.1.2.1 dX12_isWord_14 rfl (lv_at hl 2 rfl) ?_
      refine ql_aload_n (r := rl2) C dX12_isWord_15 rfl (lv_at hl 1 rfl) ?_
      refine ql_TI (As := []) (rest := [.int xl3]) C S htab hlocks hl qy_J0_length_8abf5 qi_J0_length_8abf5 gw_1296 gw_2088 w (fun k hk9 w => qm_J0_length_8abf5 l hl9 D _ (D.2 (200 + k)) _ _ w) rfl ⟨Nat.le_of_ble_eq_true rfl, Nat.le_of_ble_eq_true rfl⟩ ⟨rfl, rfl⟩ (by exact Nat.le_of_ble_eq_true rfl) (fun b e9 => by cases e9; rfl) dX12_isWord_16 ⟨Nat.le_of_ble_eq_true rfl, Nat.le_of_ble_eq_true rfl⟩ ⟨Nat.le_of_ble_eq_true rfl, Nat.le_of_ble_eq_true rfl⟩ (fun x1 h H locs S w => ?_)
      refine W.cs (cells' := 0) (slots' := 0) rfl rfl ?_
      refine lv_icmp_ge (tgt := 42) C.1.1 C.1.2.1 dX12_isWord_19 (by decide) (fun c9 => ?_) (fun c9 => ?_)
      · replace w := ql_if w c9
        refine lv_iconst (v := (1 : Int32)) C.1.1 C.1.2.1 dX12_isWord_42 (by decide) ?_
        exact ql_zret C S hr hlocks dX12_isWord_43 ⟨Nat.le_of_ble_eq_true rfl, Nat.le_of_ble_eq_true rfl⟩ w
      · replace w := ql_ifn w c9
        refine ql_aload_n (r := (some a0)) C dX12_isWord_22 rfl (lv_at hl 0 rfl) ?_
        refine ql_aload_n (r := rl2) C dX12_isWord_23 rfl (lv_at hl 1 rfl) ?_
        refine lv_iload_n C.1.1 C.1.2.1 dX12_isWord_24 rfl (lv_at hl 2 rfl) ?_
        refine ql_TI (As := [.int xl3]) (rest := [.ref a0]) C S htab hlocks hl qy_J0_charAt_5068e qi_J0_charAt_5068e gw_1548 gw_2089 w (fun k hk9 w => qm_J0_charAt_5068e l hl9 D _ (D.2 (200 + k)) xl3 _ _ w) rfl ⟨Nat.le_of_ble_eq_true rfl, Nat.le_of_ble_eq_true rfl⟩ ⟨rfl, rfl⟩ (by exact Nat.le_of_ble_eq_true rfl) (fun b e9 => by cases e9; rfl) dX12_isWord_25 ⟨Nat.le_of_ble_eq_true rfl, Nat.le_of_ble_eq_true rfl⟩ ⟨Nat.le_of_ble_eq_true rfl, Nat.le_of_ble_eq_true rfl⟩ (fun x3 h H locs S w => ?_)
        refine W.cs (cells' := 0) (slots' := 0) rfl rfl ?_
        refine ql_VI (As := [.int x3]) (rest := []) C S htab hlocks hl qy_X12_skips qi_X12_skips qs_X12_skips gw_2075 (ci := 13) rfl w (fun b w => qm_X12_skips l hl9 D _ b x3 _ _ w) rfl ⟨Nat.le_of_ble_eq_true rfl, Nat.le_of_ble_eq_true rfl⟩ ⟨rfl, rfl⟩ (by exact Nat.le_of_ble_eq_true rfl) (fun b e9 => by cases e9; rfl) dX12_isWord_28 ⟨Nat.le_of_ble_eq_true rfl, Nat.le_of_ble_eq_true rfl⟩ ⟨Nat.le_of_ble_eq_true rfl, Nat.le_of_ble_eq_true rfl⟩ (fun x5 h H locs S w => ?_)
        refine W.cs (cells' := 0) (slots' := 0) rfl rfl ?_
        refine lv_if_ne (tgt := 36) C.1.1 C.1.2.1 dX12_isWord_31 (by decide) (fun c9 => ?_) (fun c9 => ?_)
        · replace w := ql_ifn w c9
          refine lv_iinc (v := (xl3 + (1 : Int32))) (lv' := [(3, .int (xl3 + (1 : Int32))), (0, .ref a0), (2, va_rf rl2)]) C.1.1 C.1.2.1 dX12_isWord_36 hl (k := 2) rfl rfl (by decide) (by generalize rl2 = z9; cases z9 <;> rfl) (fun ls hl => ?_)
          refine lv_goto (tgt := 14) C.1.1 C.1.2.1 dX12_isWord_39 (by decide) ?_
          exact ih rl2 (xl3 + (1 : Int32)) _ _ _ _ S (lv_sub hl [1, 2, 0] rfl) w
        · replace w := ql_if w c9
          refine lv_iconst (v := (0 : Int32)) C.1.1 C.1.2.1 dX12_isWord_34 (by decide) ?_
          exact ql_zret C S hr hlocks dX12_isWord_35 ⟨Nat.le_of_ble_eq_true rfl, Nat.le_of_ble_eq_true rfl⟩ w
  unfold qw_X12_isWord at w
  refine ql_aload_n (r := (some a0)) C dX12_isWord_0 rfl (lv_at hl 0 rfl) ?_
  refine ql_getR C S qf_13_17 gw_1685 dX12_isWord_1 w (fun r7 w => ?_)
  refine lv_iconst (v := (4 : Int32)) C.1.1 C.1.2.1 dX12_isWord_4 (by decide) ?_
  refine ql_aload_n (r := (some a0)) C dX12_isWord_5 rfl (lv_at hl 0 rfl) ?_
  refine ql_getI C S qf_13_18 gw_1686 dX12_isWord_6 w (fun x8 w => ?_)
  refine lv_imul C.1.1 C.1.2.1 dX12_isWord_9 ?_
  refine lv_iload_n C.1.1 C.1.2.1 dX12_isWord_10 rfl (lv_at hl 1 rfl) ?_
  refine ql_iast C S dX12_isWord_11 w (fun h H locs S w => ?_)
  refine lv_iconst (v := (0 : Int32)) C.1.1 C.1.2.1 dX12_isWord_12 (by decide) ?_
  refine lv_istore_n (lv' := [(3, .int (0 : Int32)), (0, .ref a0), (1, .int xp1), (2, va_rf rp2)]) C.1.1 C.1.2.1 dX12_isWord_13 rfl hl (by decide) (by generalize rp2 = z9; cases z9 <;> rfl) (fun ls hl => ?_)
  exact hB14 ql_FU rp2 (0 : Int32) _ _ _ _ S (lv_sub hl [1, 3, 0] rfl) w
def qw_X12_figures_34 (a0 : Nat) (Q : Int32 → ql_H → Prop) : Nat → Int32 → Int32 → ql_H → Prop
  | 0, _, _, _ => False
  | n + 1, xl1, xl2, h =>
    if (3 : Int32) ≤ xl2 then (ql_nz .boolean (1 : Int32) ∧ Q (1 : Int32) h) else (ql_rv h (some a0) 13 fun b1 => qw_X12_here b1  h (fun x1 h =>
    qw_X12_in x1 (48 : Int32) (57 : Int32) h (fun x3 h =>
    if x3 = 0 then (ql_nz .boolean (1 : Int32) ∧ Q (1 : Int32) h) else (ql_gR h (some a0) 13 17 fun r4 =>
    ql_gR h (some a0) 13 17 fun r5 =>
    ql_lI h r5 0 xl1 fun x6 =>
    ql_rv h (some a0) 13 fun b7 => qw_X12_here b7  h (fun x7 h =>
    ql_sI h r4 0 xl1 ((((10 : Int32) * x6) + x7) - (48 : Int32)) fun h =>
    ql_gI h (some a0) 13 16 fun x9 =>
    ql_pV h (some a0) 13 16 (.int (x9 + (1 : Int32))) fun h =>
    qw_X12_figures_34 a0 Q n xl1 (xl2 + (1 : Int32)) h)))))
def qw_X12_figures (a0 : Nat) (xp1 : Int32) (h : ql_H) (Q : Int32 → ql_H → Prop) : Prop :=
ql_rv h (some a0) 13 fun b10 => qw_X12_skips b10 (32 : Int32) h (fun x10 h =>
if x10 = 0 then (ql_nz .boolean (0 : Int32) ∧ Q (0 : Int32) h) else (ql_rv h (some a0) 13 fun b12 => qw_X12_here b12  h (fun x12 h =>
qw_X12_in x12 (48 : Int32) (57 : Int32) h (fun x14 h =>
if x14 = 0 then (ql_nz .boolean (0 : Int32) ∧ Q (0 : Int32) h) else (ql_gR h (some a0) 13 17 fun r15 =>
ql_sI h r15 0 xp1 (0 : Int32) fun h =>
qw_X12_figures_34 a0 Q ql_FU xp1 (0 : Int32) h)))))
set_option maxHeartbeats 4000000 in
set_option maxRecDepth 100000 in
theorem qm_X12_figures (l : Launch) (hl9 : l.stackTraces = false) (D : ql_D) (h0 : ql_H) (a0 : Nat) (xp1 : Int32) (Q : Int32 → ql_H → Prop) (X : String → ql_H → Prop) (w : qw_X12_figures a0 xp1 h0 Q) : ql_M D l yX12_figures cX12_figures 3 (some .boolean) ({ frames := 6, cells := 0, slots := 0, locals := 105 } : Room) h0 [.ref a0, .int xp1] (ql_rI Q) X 0 0 := by
  refine ql_ofW (by decide) (Nat.le_of_ble_eq_true rfl) ?_
  intro p e s m below meth c ls C hr hlocks hnm htab S hl
  have hl : lv_has ls 3 [(0, .ref a0), (1, .int xp1)] := hl
  have hB34 : ∀ n : Nat, ∀ (xl1 : Int32) (xl2 : Int32) (h : ql_H) (H : Heap) (locs : List Loc) (ls : Array Slot), ql_S D h0 s H locs h → lv_has ls 3 [(0, .ref a0), (1, .int xl1), (2, .int xl2)] → qw_X12_figures_34 a0 Q n xl1 xl2 h → W p l e ({ frames := 6, cells := 0, slots := 0, locals := 105 } : Room) s m ([.ref a0, .int xp1] : List Value).toArray below meth c H locs 0 0 (vx_MQ below (ql_Q D h0 (ql_rI Q)) (ql_X D h0 X) ([.ref a0, .int xp1] : List Value).toArray s 0 0 (ql_A h0)) (F0 m 34 ls []) := by
    intro n
    induction n with
    | zero => intro xl1 xl2 h H locs ls S hl w; rw [qw_X12_figures_34] at w; exact w.elim
    | succ n ih =>
      intro xl1 xl2 h H locs ls S hl w
      rw [qw_X12_figures_34] at w
      refine lv_iload_n C.1.1 C.1.2.1 dX12_figures_34 rfl (lv_at hl 2 rfl) ?_
      refine lv_iconst (v := (3 : Int32)) C.1.1 C.1.2.1 dX12_figures_35 (by decide) ?_
      refine lv_icmp_ge (tgt := 92) C.1.1 C.1.2.1 dX12_figures_36 (by decide) (fun c9 => ?_) (fun c9 => ?_)
      · replace w := ql_if w c9
        refine lv_iconst (v := (1 : Int32)) C.1.1 C.1.2.1 dX12_figures_92 (by decide) ?_
        exact ql_zret C S hr hlocks dX12_figures_93 ⟨Nat.le_of_ble_eq_true rfl, Nat.le_of_ble_eq_true rfl⟩ w
      · replace w := ql_ifn w c9
        refine ql_aload_n (r := (some a0)) C dX12_figures_39 rfl (lv_at hl 0 rfl) ?_
        refine ql_VI (As := []) (rest := []) C S htab hlocks hl qy_X12_here qi_X12_here qs_X12_here gw_2079 (ci := 13) rfl w (fun b w => qm_X12_here l hl9 D _ b _ _ w) rfl ⟨Nat.le_of_ble_eq_true rfl, Nat.le_of_ble_eq_true rfl⟩ ⟨rfl, rfl⟩ (by exact Nat.le_of_ble_eq_true rfl) (fun b e9 => by cases e9; rfl) dX12_figures_40 ⟨Nat.le_of_ble_eq_true rfl, Nat.le_of_ble_eq_true rfl⟩ ⟨Nat.le_of_ble_eq_true rfl, Nat.le_of_ble_eq_true rfl⟩ (fun x1 h H locs S w => ?_)
        refine W.cs (cells' := 0) (slots' := 0) rfl rfl ?_
        refine lv_bipush (v := (48 : Int32)) C.1.1 C.1.2.1 dX12_figures_43 (by decide) ?_
        refine lv_bipush (v := (57 : Int32)) C.1.1 C.1.2.1 dX12_figures_45 (by decide) ?_
        refine ql_SI (As := [.int x1, .int (48 : Int32), .int (57 : Int32)]) (rest := []) C S htab hlocks hl qy_X12_in qi_X12_in gw_1735 (qm_X12_in l hl9 D _ x1 (48 : Int32) (57 : Int32) _ _ w) rfl ⟨Nat.le_of_ble_eq_true rfl, Nat.le_of_ble_eq_true rfl⟩ ⟨rfl, rfl⟩ (by exact Nat.le_of_ble_eq_true rfl) rfl dX12_figures_47 ⟨Nat.le_of_ble_eq_true rfl, Nat.le_of_ble_eq_true rfl⟩ ⟨Nat.le_of_ble_eq_true rfl, Nat.le_of_ble_eq_true rfl⟩ (fun x3 h H locs S w => ?_)
        refine W.cs (cells' := 0) (slots' := 0) rfl rfl ?_
        refine lv_if_eq (tgt := 92) C.1.1 C.1.2.1 dX12_figures_50 (by decide) (fun c9 => ?_) (fun c9 => ?_)
        · replace w := ql_if w c9
          refine lv_iconst (v := (1 : Int32)) C.1.1 C.1.2.1 dX12_figures_92 (by decide) ?_
          exact ql_zret C S hr hlocks dX12_figures_93 ⟨Nat.le_of_ble_eq_true rfl, Nat.le_of_ble_eq_true rfl⟩ w
        · replace w := ql_ifn w c9
          refine ql_aload_n (r := (some a0)) C dX12_figures_53 rfl (lv_at hl 0 rfl) ?_
          refine ql_getR C S qf_13_17 gw_1685 dX12_figures_54 w (fun r4 w => ?_)
          refine lv_iload_n C.1.1 C.1.2.1 dX12_figures_57 rfl (lv_at hl 1 rfl) ?_
          refine lv_bipush (v := (10 : Int32)) C.1.1 C.1.2.1 dX12_figures_58 (by decide) ?_
          refine ql_aload_n (r := (some a0)) C dX12_figures_60 rfl (lv_at hl 0 rfl) ?_
          refine ql_getR C S qf_13_17 gw_1685 dX12_figures_61 w (fun r5 w => ?_)
          refine lv_iload_n C.1.1 C.1.2.1 dX12_figures_64 rfl (lv_at hl 1 rfl) ?_
          refine ql_iald C S dX12_figures_65 w (fun x6 w => ?_)
          refine lv_imul C.1.1 C.1.2.1 dX12_figures_66 ?_
          refine ql_aload_n (r := (some a0)) C dX12_figures_67 rfl (lv_at hl 0 rfl) ?_
          refine ql_VI (As := []) (rest := [.int ((10 : Int32) * x6), .int xl1, va_rf r4]) C S htab hlocks hl qy_X12_here qi_X12_here qs_X12_here gw_2079 (ci := 13) rfl w (fun b w => qm_X12_here l hl9 D _ b _ _ w) rfl ⟨Nat.le_of_ble_eq_true rfl, Nat.le_of_ble_eq_true rfl⟩ ⟨rfl, rfl⟩ (by generalize r4 = z0; cases z0 <;> exact Nat.le_of_ble_eq_true rfl) (fun b e9 => by cases e9; rfl) dX12_figures_68 ⟨Nat.le_of_ble_eq_true rfl, Nat.le_of_ble_eq_true rfl⟩ ⟨Nat.le_of_ble_eq_true rfl, Nat.le_of_ble_eq_true rfl⟩ (fun x7 h H locs S w => ?_)
          refine W.cs (cells' := 0) (slots' := 0) rfl rfl ?_
          refine lv_iadd C.1.1 C.1.2.1 dX12_figures_71 ?_
          refine lv_bipush (v := (48 : Int32)) C.1.1 C.1.2.1 dX12_figures_72 (by decide) ?_
          refine lv_isub C.1.1 C.1.2.1 dX12_figures_74 ?_
          refine ql_iast C S dX12_figures_75 w (fun h H locs S w => ?_)
          refine ql_aload_n (r := (some a0)) C dX12_figures_76 rfl (lv_at hl 0 rfl) ?_
          refine lv_dup C.1.1 C.1.2.1 dX12_figures_77 (ql_catR _) ?_
          refine ql_getI C S qf_13_16 gw_1684 dX12_figures_78 w (fun x9 w => ?_)
          refine lv_iconst (v := (1 : Int32)) C.1.1 C.1.2.1 dX12_figures_81 (by decide) ?_
          refine lv_iadd C.1.1 C.1.2.1 dX12_figures_82 ?_
          refine ql_putV C S qf_13_16 gw_1684 (tyX12) tyX12_ok nmX12 rfl dX12_figures_83 (v := .int (x9 + (1 : Int32))) rfl rfl w (fun h H locs S w => ?_)
          refine lv_iinc (v := (xl2 + (1 : Int32))) (lv' := [(2, .int (xl2 + (1 : Int32))), (0, .ref a0), (1, .int xl1)]) C.1.1 C.1.2.1 dX12_figures_86 hl (k := 2) rfl rfl (by decide) rfl (fun ls hl => ?_)
          refine lv_goto (tgt := 34) C.1.1 C.1.2.1 dX12_figures_89 (by decide) ?_
          exact ih xl1 (xl2 + (1 : Int32)) _ _ _ _ S (lv_sub hl [1, 2, 0] rfl) w
  unfold qw_X12_figures at w
  refine ql_aload_n (r := (some a0)) C dX12_figures_0 rfl (lv_at hl 0 rfl) ?_
  refine lv_bipush (v := (32 : Int32)) C.1.1 C.1.2.1 dX12_figures_1 (by decide) ?_
  refine ql_VI (As := [.int (32 : Int32)]) (rest := []) C S htab hlocks hl qy_X12_skips qi_X12_skips qs_X12_skips gw_2075 (ci := 13) rfl w (fun b w => qm_X12_skips l hl9 D _ b (32 : Int32) _ _ w) rfl ⟨Nat.le_of_ble_eq_true rfl, Nat.le_of_ble_eq_true rfl⟩ ⟨rfl, rfl⟩ (by exact Nat.le_of_ble_eq_true rfl) (fun b e9 => by cases e9; rfl) dX12_figures_3 ⟨Nat.le_of_ble_eq_true rfl, Nat.le_of_ble_eq_true rfl⟩ ⟨Nat.le_of_ble_eq_true rfl, Nat.le_of_ble_eq_true rfl⟩ (fun x10 h H locs S w => ?_)
  refine W.cs (cells' := 0) (slots' := 0) rfl rfl ?_
  refine lv_if_eq (tgt := 23) C.1.1 C.1.2.1 dX12_figures_6 (by decide) (fun c9 => ?_) (fun c9 => ?_)
  · replace w := ql_if w c9
    refine lv_iconst (v := (0 : Int32)) C.1.1 C.1.2.1 dX12_figures_23 (by decide) ?_
    exact ql_zret C S hr hlocks dX12_figures_24 ⟨Nat.le_of_ble_eq_true rfl, Nat.le_of_ble_eq_true rfl⟩ w
  · replace w := ql_ifn w c9
    refine ql_aload_n (r := (some a0)) C dX12_figures_9 rfl (lv_at hl 0 rfl) ?_
    refine ql_VI (As := []) (rest := []) C S htab hlocks hl qy_X12_here qi_X12_here qs_X12_here gw_2079 (ci := 13) rfl w (fun b w => qm_X12_here l hl9 D _ b _ _ w) rfl ⟨Nat.le_of_ble_eq_true rfl, Nat.le_of_ble_eq_true rfl⟩ ⟨rfl, rfl⟩ (by exact Nat.le_of_ble_eq_true rfl) (fun b e9 => by cases e9; rfl) dX12_figures_10 ⟨Nat.le_of_ble_eq_true rfl, Nat.le_of_ble_eq_true rfl⟩ ⟨Nat.le_of_ble_eq_true rfl, Nat.le_of_ble_eq_true rfl⟩ (fun x12 h H locs S w => ?_)
    refine W.cs (cells' := 0) (slots' := 0) rfl rfl ?_
    refine lv_bipush (v := (48 : Int32)) C.1.1 C.1.2.1 dX12_figures_13 (by decide) ?_
    refine lv_bipush (v := (57 : Int32)) C.1.1 C.1.2.1 dX12_figures_15 (by decide) ?_
    refine ql_SI (As := [.int x12, .int (48 : Int32), .int (57 : Int32)]) (rest := []) C S htab hlocks hl qy_X12_in qi_X12_in gw_1735 (qm_X12_in l hl9 D _ x12 (48 : Int32) (57 : Int32) _ _ w) rfl ⟨Nat.le_of_ble_eq_true rfl, Nat.le_of_ble_eq_true rfl⟩ ⟨rfl, rfl⟩ (by exact Nat.le_of_ble_eq_true rfl) rfl dX12_figures_17 ⟨Nat.le_of_ble_eq_true rfl, Nat.le_of_ble_eq_true rfl⟩ ⟨Nat.le_of_ble_eq_true rfl, Nat.le_of_ble_eq_true rfl⟩ (fun x14 h H locs S w => ?_)
    refine W.cs (cells' := 0) (slots' := 0) rfl rfl ?_
    refine lv_if_ne (tgt := 25) C.1.1 C.1.2.1 dX12_figures_20 (by decide) (fun c9 => ?_) (fun c9 => ?_)
    · replace w := ql_ifn w c9
      refine ql_aload_n (r := (some a0)) C dX12_figures_25 rfl (lv_at hl 0 rfl) ?_
      refine ql_getR C S qf_13_17 gw_1685 dX12_figures_26 w (fun r15 w => ?_)
      refine lv_iload_n C.1.1 C.1.2.1 dX12_figures_29 rfl (lv_at hl 1 rfl) ?_
      refine lv_iconst (v := (0 : Int32)) C.1.1 C.1.2.1 dX12_figures_30 (by decide) ?_
      refine ql_iast C S dX12_figures_31 w (fun h H locs S w => ?_)
      refine lv_iconst (v := (0 : Int32)) C.1.1 C.1.2.1 dX12_figures_32 (by decide) ?_
      refine lv_istore_n (lv' := [(2, .int (0 : Int32)), (0, .ref a0), (1, .int xp1)]) C.1.1 C.1.2.1 dX12_figures_33 rfl hl (by decide) rfl (fun ls hl => ?_)
      exact hB34 ql_FU xp1 (0 : Int32) _ _ _ _ S (lv_sub hl [1, 2, 0] rfl) w
    · replace w := ql_if w c9
      refine lv_iconst (v := (0 : Int32)) C.1.1 C.1.2.1 dX12_figures_23 (by decide) ?_
      exact ql_zret C S hr hlocks dX12_figures_24 ⟨Nat.le_of_ble_eq_true rfl, Nat.le_of_ble_eq_true rfl⟩ w
def qw_X12_noteHere (a0 : Nat) (xp1 : Int32) (h : ql_H) (Q : Int32 → ql_H → Prop) : Prop :=
ql_rv h (some a0) 13 fun b1 => qw_X12_here b1  h (fun x1 h =>
qw_X12_isNote x1 h (fun x3 h =>
if x3 = 0 then (ql_nz .boolean (0 : Int32) ∧ Q (0 : Int32) h) else (ql_gR h (some a0) 13 17 fun r4 =>
ql_rv h (some a0) 13 fun b5 => qw_X12_here b5  h (fun x5 h =>
ql_sI h r4 0 xp1 x5 fun h =>
ql_gI h (some a0) 13 16 fun x7 =>
ql_pV h (some a0) 13 16 (.int (x7 + (1 : Int32))) fun h =>
ql_nz .boolean (1 : Int32) ∧ Q (1 : Int32) h))))
set_option maxHeartbeats 4000000 in
set_option maxRecDepth 100000 in
theorem qm_X12_noteHere (l : Launch) (hl9 : l.stackTraces = false) (D : ql_D) (h0 : ql_H) (a0 : Nat) (xp1 : Int32) (Q : Int32 → ql_H → Prop) (X : String → ql_H → Prop) (w : qw_X12_noteHere a0 xp1 h0 Q) : ql_M D l yX12_noteHere cX12_noteHere 2 (some .boolean) ({ frames := 6, cells := 0, slots := 0, locals := 106 } : Room) h0 [.ref a0, .int xp1] (ql_rI Q) X 0 0 := by
  refine ql_ofW (by decide) (Nat.le_of_ble_eq_true rfl) ?_
  intro p e s m below meth c ls C hr hlocks hnm htab S hl
  have hl : lv_has ls 2 [(0, .ref a0), (1, .int xp1)] := hl
  unfold qw_X12_noteHere at w
  refine ql_aload_n (r := (some a0)) C dX12_noteHere_0 rfl (lv_at hl 0 rfl) ?_
  refine ql_VI (As := []) (rest := []) C S htab hlocks hl qy_X12_here qi_X12_here qs_X12_here gw_2079 (ci := 13) rfl w (fun b w => qm_X12_here l hl9 D _ b _ _ w) rfl ⟨Nat.le_of_ble_eq_true rfl, Nat.le_of_ble_eq_true rfl⟩ ⟨rfl, rfl⟩ (by exact Nat.le_of_ble_eq_true rfl) (fun b e9 => by cases e9; rfl) dX12_noteHere_1 ⟨Nat.le_of_ble_eq_true rfl, Nat.le_of_ble_eq_true rfl⟩ ⟨Nat.le_of_ble_eq_true rfl, Nat.le_of_ble_eq_true rfl⟩ (fun x1 h H locs S w => ?_)
  refine W.cs (cells' := 0) (slots' := 0) rfl rfl ?_
  refine ql_SI (As := [.int x1]) (rest := []) C S htab hlocks hl qy_X12_isNote qi_X12_isNote gw_1738 (qm_X12_isNote l hl9 D _ x1 _ _ w) rfl ⟨Nat.le_of_ble_eq_true rfl, Nat.le_of_ble_eq_true rfl⟩ ⟨rfl, rfl⟩ (by exact Nat.le_of_ble_eq_true rfl) rfl dX12_noteHere_4 ⟨Nat.le_of_ble_eq_true rfl, Nat.le_of_ble_eq_true rfl⟩ ⟨Nat.le_of_ble_eq_true rfl, Nat.le_of_ble_eq_true rfl⟩ (fun x3 h H locs S w => ?_)
  refine W.cs (cells' := 0) (slots' := 0) rfl rfl ?_
  refine lv_if_ne (tgt := 12) C.1.1 C.1.2.1 dX12_noteHere_7 (by decide) (fun c9 => ?_) (fun c9 => ?_)
  · replace w := ql_ifn w c9
    refine ql_aload_n (r := (some a0)) C dX12_noteHere_12 rfl (lv_at hl 0 rfl) ?_
    refine ql_getR C S qf_13_17 gw_1685 dX12_noteHere_13 w (fun r4 w => ?_)
    refine lv_iload_n C.1.1 C.1.2.1 dX12_noteHere_16 rfl (lv_at hl 1 rfl) ?_
    refine ql_aload_n (r := (some a0)) C dX12_noteHere_17 rfl (lv_at hl 0 rfl) ?_
    refine ql_VI (As := []) (rest := [.int xp1, va_rf r4]) C S htab hlocks hl qy_X12_here qi_X12_here qs_X12_here gw_2079 (ci := 13) rfl w (fun b w => qm_X12_here l hl9 D _ b _ _ w) rfl ⟨Nat.le_of_ble_eq_true rfl, Nat.le_of_ble_eq_true rfl⟩ ⟨rfl, rfl⟩ (by generalize r4 = z0; cases z0 <;> exact Nat.le_of_ble_eq_true rfl) (fun b e9 => by cases e9; rfl) dX12_noteHere_18 ⟨Nat.le_of_ble_eq_true rfl, Nat.le_of_ble_eq_true rfl⟩ ⟨Nat.le_of_ble_eq_true rfl, Nat.le_of_ble_eq_true rfl⟩ (fun x5 h H locs S w => ?_)
    refine W.cs (cells' := 0) (slots' := 0) rfl rfl ?_
    refine ql_iast C S dX12_noteHere_21 w (fun h H locs S w => ?_)
    refine ql_aload_n (r := (some a0)) C dX12_noteHere_22 rfl (lv_at hl 0 rfl) ?_
    refine lv_dup C.1.1 C.1.2.1 dX12_noteHere_23 (ql_catR _) ?_
    refine ql_getI C S qf_13_16 gw_1684 dX12_noteHere_24 w (fun x7 w => ?_)
    refine lv_iconst (v := (1 : Int32)) C.1.1 C.1.2.1 dX12_noteHere_27 (by decide) ?_
    refine lv_iadd C.1.1 C.1.2.1 dX12_noteHere_28 ?_
    refine ql_putV C S qf_13_16 gw_1684 (tyX12) tyX12_ok nmX12 rfl dX12_noteHere_29 (v := .int (x7 + (1 : Int32))) rfl rfl w (fun h H locs S w => ?_)
    refine lv_iconst (v := (1 : Int32)) C.1.1 C.1.2.1 dX12_noteHere_32 (by decide) ?_
    exact ql_zret C S hr hlocks dX12_noteHere_33 ⟨Nat.le_of_ble_eq_true rfl, Nat.le_of_ble_eq_true rfl⟩ w
  · replace w := ql_if w c9
    refine lv_iconst (v := (0 : Int32)) C.1.1 C.1.2.1 dX12_noteHere_10 (by decide) ?_
    exact ql_zret C S hr hlocks dX12_noteHere_11 ⟨Nat.le_of_ble_eq_true rfl, Nat.le_of_ble_eq_true rfl⟩ w
def qw_X12_bothHere (a0 : Nat) (xp1 : Int32) (h : ql_H) (Q : Int32 → ql_H → Prop) : Prop :=
ql_rv h (some a0) 13 fun b1 => qw_X12_figures b1 xp1 h (fun x1 h =>
if x1 = 0 then (ql_nz .boolean (0 : Int32) ∧ Q (0 : Int32) h) else (ql_rv h (some a0) 13 fun b3 => qw_X12_figures b3 (xp1 + (1 : Int32)) h (fun x3 h =>
if x3 = 0 then (ql_nz .boolean (0 : Int32) ∧ Q (0 : Int32) h) else (ql_nz .boolean (1 : Int32) ∧ Q (1 : Int32) h))))
set_option maxHeartbeats 4000000 in
set_option maxRecDepth 100000 in
theorem qm_X12_bothHere (l : Launch) (hl9 : l.stackTraces = false) (D : ql_D) (h0 : ql_H) (a0 : Nat) (xp1 : Int32) (Q : Int32 → ql_H → Prop) (X : String → ql_H → Prop) (w : qw_X12_bothHere a0 xp1 h0 Q) : ql_M D l yX12_bothHere cX12_bothHere 2 (some .boolean) ({ frames := 8, cells := 0, slots := 0, locals := 135 } : Room) h0 [.ref a0, .int xp1] (ql_rI Q) X 0 0 := by
  refine ql_ofW (by decide) (Nat.le_of_ble_eq_true rfl) ?_
  intro p e s m below meth c ls C hr hlocks hnm htab S hl
  have hl : lv_has ls 2 [(0, .ref a0), (1, .int xp1)] := hl
  unfold qw_X12_bothHere at w
  refine ql_aload_n (r := (some a0)) C dX12_bothHere_0 rfl (lv_at hl 0 rfl) ?_
  refine lv_iload_n C.1.1 C.1.2.1 dX12_bothHere_1 rfl (lv_at hl 1 rfl) ?_
  refine ql_VI (As := [.int xp1]) (rest := []) C S htab hlocks hl qy_X12_figures qi_X12_figures qs_X12_figures gw_2090 (ci := 13) rfl w (fun b w => qm_X12_figures l hl9 D _ b xp1 _ _ w) rfl ⟨Nat.le_of_ble_eq_true rfl, Nat.le_of_ble_eq_true rfl⟩ ⟨rfl, rfl⟩ (by exact Nat.le_of_ble_eq_true rfl) (fun b e9 => by cases e9; rfl) dX12_bothHere_2 ⟨Nat.le_of_ble_eq_true rfl, Nat.le_of_ble_eq_true rfl⟩ ⟨Nat.le_of_ble_eq_true rfl, Nat.le_of_ble_eq_true rfl⟩ (fun x1 h H locs S w => ?_)
  refine W.cs (cells' := 0) (slots' := 0) rfl rfl ?_
  refine lv_if_eq (tgt := 22) C.1.1 C.1.2.1 dX12_bothHere_5 (by decide) (fun c9 => ?_) (fun c9 => ?_)
  · replace w := ql_if w c9
    refine lv_iconst (v := (0 : Int32)) C.1.1 C.1.2.1 dX12_bothHere_22 (by decide) ?_
    exact ql_zret C S hr hlocks dX12_bothHere_23 ⟨Nat.le_of_ble_eq_true rfl, Nat.le_of_ble_eq_true rfl⟩ w
  · replace w := ql_ifn w c9
    refine ql_aload_n (r := (some a0)) C dX12_bothHere_8 rfl (lv_at hl 0 rfl) ?_
    refine lv_iload_n C.1.1 C.1.2.1 dX12_bothHere_9 rfl (lv_at hl 1 rfl) ?_
    refine lv_iconst (v := (1 : Int32)) C.1.1 C.1.2.1 dX12_bothHere_10 (by decide) ?_
    refine lv_iadd C.1.1 C.1.2.1 dX12_bothHere_11 ?_
    refine ql_VI (As := [.int (xp1 + (1 : Int32))]) (rest := []) C S htab hlocks hl qy_X12_figures qi_X12_figures qs_X12_figures gw_2090 (ci := 13) rfl w (fun b w => qm_X12_figures l hl9 D _ b (xp1 + (1 : Int32)) _ _ w) rfl ⟨Nat.le_of_ble_eq_true rfl, Nat.le_of_ble_eq_true rfl⟩ ⟨rfl, rfl⟩ (by exact Nat.le_of_ble_eq_true rfl) (fun b e9 => by cases e9; rfl) dX12_bothHere_12 ⟨Nat.le_of_ble_eq_true rfl, Nat.le_of_ble_eq_true rfl⟩ ⟨Nat.le_of_ble_eq_true rfl, Nat.le_of_ble_eq_true rfl⟩ (fun x3 h H locs S w => ?_)
    refine W.cs (cells' := 0) (slots' := 0) rfl rfl ?_
    refine lv_if_eq (tgt := 22) C.1.1 C.1.2.1 dX12_bothHere_15 (by decide) (fun c9 => ?_) (fun c9 => ?_)
    · replace w := ql_if w c9
      refine lv_iconst (v := (0 : Int32)) C.1.1 C.1.2.1 dX12_bothHere_22 (by decide) ?_
      exact ql_zret C S hr hlocks dX12_bothHere_23 ⟨Nat.le_of_ble_eq_true rfl, Nat.le_of_ble_eq_true rfl⟩ w
    · replace w := ql_ifn w c9
      refine lv_iconst (v := (1 : Int32)) C.1.1 C.1.2.1 dX12_bothHere_18 (by decide) ?_
      refine lv_goto (tgt := 23) C.1.1 C.1.2.1 dX12_bothHere_19 (by decide) ?_
      exact ql_zret C S hr hlocks dX12_bothHere_23 ⟨Nat.le_of_ble_eq_true rfl, Nat.le_of_ble_eq_true rfl⟩ w
def qw_X12_commandHere_222 (σ : Nat → Nat) (a0 : Nat) (Q : Int32 → ql_H → Prop) (h : ql_H) : Prop :=
ql_nz .boolean (0 : Int32) ∧ Q (0 : Int32) h
def qw_X12_commandHere_144 (σ : Nat → Nat) (a0 : Nat) (Q : Int32 → ql_H → Prop) (h : ql_H) : Prop :=
ql_nz .boolean (0 : Int32) ∧ Q (0 : Int32) h
def qw_X12_commandHere (σ : Nat → Nat) (a0 : Nat) (h : ql_H) (Q : Int32 → ql_H → Prop) : Prop :=
ql_gI h (some a0) 13 18 fun x1 =>
ql_rv h (some a0) 13 fun b2 => qw_X12_skips b2 (97 : Int32) h (fun x2 h =>
if x2 = 0 then (ql_rv h (some a0) 13 fun b4 => qw_X12_skips b4 (112 : Int32) h (fun x4 h =>
if x4 = 0 then (ql_rv h (some a0) 13 fun b6 => qw_X12_skips b6 (115 : Int32) h (fun x6 h =>
if x6 = 0 then (ql_rv h (some a0) 13 fun b8 => qw_X12_skips b8 (99 : Int32) h (fun x8 h =>
if x8 = 0 then (ql_rv h (some a0) 13 fun b10 => qw_X12_skips b10 (117 : Int32) h (fun x10 h =>
if x10 = 0 then (ql_rv h (some a0) 13 fun b12 => qw_X12_skips b12 (114 : Int32) h (fun x12 h =>
if x12 = 0 then (ql_rv h (some a0) 13 fun b14 => qw_X12_skips b14 (101 : Int32) h (fun x14 h =>
if x14 = 0 then (ql_rv h (some a0) 13 fun b16 => qw_X12_skips b16 (119 : Int32) h (fun x16 h =>
if x16 = 0 then (ql_nz .boolean (0 : Int32) ∧ Q (0 : Int32) h) else (ql_rv h (some a0) 13 fun b18 => qw_X12_isWord σ b18 (9 : Int32) (some (σ (200 + 9))) h (fun x18 h =>
if x18 = 0 then (ql_nz .boolean (0 : Int32) ∧ Q (0 : Int32) h) else (ql_rv h (some a0) 13 fun b20 => qw_X12_figures b20 (((4 : Int32) * x1) + (1 : Int32)) h (fun x20 h =>
if x20 = 0 then (ql_nz .boolean (0 : Int32) ∧ Q (0 : Int32) h) else (ql_nz .boolean (1 : Int32) ∧ Q (1 : Int32) h))))))) else (ql_rv h (some a0) 13 fun b22 => qw_X12_isWord σ b22 (8 : Int32) (some (σ (200 + 8))) h (fun x22 h =>
ql_nz .boolean x22 ∧ Q x22 h)))) else (ql_rv h (some a0) 13 fun b24 => qw_X12_isWord σ b24 (7 : Int32) (some (σ (200 + 7))) h (fun x24 h =>
if x24 = 0 then (ql_nz .boolean (0 : Int32) ∧ Q (0 : Int32) h) else (ql_rv h (some a0) 13 fun b26 => qw_X12_figures b26 (((4 : Int32) * x1) + (1 : Int32)) h (fun x26 h =>
if x26 = 0 then (ql_nz .boolean (0 : Int32) ∧ Q (0 : Int32) h) else (ql_nz .boolean (1 : Int32) ∧ Q (1 : Int32) h))))))) else (ql_rv h (some a0) 13 fun b28 => qw_X12_isWord σ b28 (6 : Int32) (some (σ (200 + 6))) h (fun x28 h =>
if x28 = 0 then (ql_nz .boolean (0 : Int32) ∧ Q (0 : Int32) h) else (ql_rv h (some a0) 13 fun b30 => qw_X12_bothHere b30 (((4 : Int32) * x1) + (1 : Int32)) h (fun x30 h =>
if x30 = 0 then (ql_nz .boolean (0 : Int32) ∧ Q (0 : Int32) h) else (ql_nz .boolean (1 : Int32) ∧ Q (1 : Int32) h))))))) else (ql_rv h (some a0) 13 fun b32 => qw_X12_skips b32 (117 : Int32) h (fun x32 h =>
if x32 = 0 then (ql_rv h (some a0) 13 fun b34 => qw_X12_isWord σ b34 (5 : Int32) (some (σ (200 + 5))) h (fun x34 h =>
if x34 = 0 then (ql_nz .boolean (0 : Int32) ∧ Q (0 : Int32) h) else (ql_rv h (some a0) 13 fun b36 => qw_X12_bothHere b36 (((4 : Int32) * x1) + (1 : Int32)) h (fun x36 h =>
if x36 = 0 then (ql_nz .boolean (0 : Int32) ∧ Q (0 : Int32) h) else (ql_nz .boolean (1 : Int32) ∧ Q (1 : Int32) h))))) else (ql_rv h (some a0) 13 fun b38 => qw_X12_isWord σ b38 (3 : Int32) (some (σ (200 + 4))) h (fun x38 h =>
if x38 = 0 then (qw_X12_commandHere_222 σ a0 Q  h) else (ql_rv h (some a0) 13 fun b40 => qw_X12_bothHere b40 (((4 : Int32) * x1) + (1 : Int32)) h (fun x40 h =>
if x40 = 0 then (qw_X12_commandHere_222 σ a0 Q  h) else (ql_nz .boolean (1 : Int32) ∧ Q (1 : Int32) h))))))))) else (ql_rv h (some a0) 13 fun b42 => qw_X12_skips b42 (117 : Int32) h (fun x42 h =>
if x42 = 0 then (ql_rv h (some a0) 13 fun b44 => qw_X12_isWord σ b44 (2 : Int32) (some (σ (200 + 3))) h (fun x44 h =>
if x44 = 0 then (ql_nz .boolean (0 : Int32) ∧ Q (0 : Int32) h) else (ql_rv h (some a0) 13 fun b46 => qw_X12_bothHere b46 (((4 : Int32) * x1) + (1 : Int32)) h (fun x46 h =>
if x46 = 0 then (ql_nz .boolean (0 : Int32) ∧ Q (0 : Int32) h) else (ql_rv h (some a0) 13 fun b48 => qw_X12_noteHere b48 ((((4 : Int32) * x1) + (1 : Int32)) + (2 : Int32)) h (fun x48 h =>
if x48 = 0 then (ql_nz .boolean (0 : Int32) ∧ Q (0 : Int32) h) else (ql_nz .boolean (1 : Int32) ∧ Q (1 : Int32) h))))))) else (ql_rv h (some a0) 13 fun b50 => qw_X12_isWord σ b50 (4 : Int32) (some (σ (200 + 2))) h (fun x50 h =>
if x50 = 0 then (qw_X12_commandHere_144 σ a0 Q  h) else (ql_rv h (some a0) 13 fun b52 => qw_X12_bothHere b52 (((4 : Int32) * x1) + (1 : Int32)) h (fun x52 h =>
if x52 = 0 then (qw_X12_commandHere_144 σ a0 Q  h) else (ql_nz .boolean (1 : Int32) ∧ Q (1 : Int32) h))))))))) else (ql_rv h (some a0) 13 fun b54 => qw_X12_isWord σ b54 (1 : Int32) (some (σ (200 + 1))) h (fun x54 h =>
if x54 = 0 then (ql_nz .boolean (0 : Int32) ∧ Q (0 : Int32) h) else (ql_rv h (some a0) 13 fun b56 => qw_X12_bothHere b56 (((4 : Int32) * x1) + (1 : Int32)) h (fun x56 h =>
if x56 = 0 then (ql_nz .boolean (0 : Int32) ∧ Q (0 : Int32) h) else (ql_rv h (some a0) 13 fun b58 => qw_X12_noteHere b58 ((((4 : Int32) * x1) + (1 : Int32)) + (2 : Int32)) h (fun x58 h =>
if x58 = 0 then (ql_nz .boolean (0 : Int32) ∧ Q (0 : Int32) h) else (ql_nz .boolean (1 : Int32) ∧ Q (1 : Int32) h))))))))) else (ql_rv h (some a0) 13 fun b60 => qw_X12_isWord σ b60 (0 : Int32) (some (σ (200 + 0))) h (fun x60 h =>
if x60 = 0 then (ql_nz .boolean (0 : Int32) ∧ Q (0 : Int32) h) else (ql_rv h (some a0) 13 fun b62 => qw_X12_figures b62 (((4 : Int32) * x1) + (1 : Int32)) h (fun x62 h =>
if x62 = 0 then (ql_nz .boolean (0 : Int32) ∧ Q (0 : Int32) h) else (ql_rv h (some a0) 13 fun b64 => qw_X12_skips b64 (32 : Int32) h (fun x64 h =>
if x64 = 0 then (ql_nz .boolean (0 : Int32) ∧ Q (0 : Int32) h) else (ql_rv h (some a0) 13 fun b66 => qw_X12_noteHere b66 ((((4 : Int32) * x1) + (1 : Int32)) + (2 : Int32)) h (fun x66 h =>
if x66 = 0 then (ql_nz .boolean (0 : Int32) ∧ Q (0 : Int32) h) else (ql_nz .boolean (1 : Int32) ∧ Q (1 : Int32) h))))))))))
set_option maxHeartbeats 4000000 in
set_option maxRecDepth 100000 in
theorem qm_X12_commandHere (l : Launch) (hl9 : l.stackTraces = false) (D : ql_D) (h0 : ql_H) (a0 : Nat) (Q : Int32 → ql_H → Prop) (X : String → ql_H → Prop) (w : qw_X12_commandHere D.2 a0 h0 Q) : ql_M D l yX12_commandHere cX12_commandHere 2 (some .boolean) ({ frames := 12, cells := 0, slots := 0, locals := 196 } : Room) h0 [.ref a0] (ql_rI Q) X 0 0 := by
  refine ql_ofW (by decide) (Nat.le_of_ble_eq_true rfl) ?_
  intro p e s m below meth c ls C hr hlocks hnm htab S hl
  have hl : lv_has ls 2 [(0, .ref a0)] := hl
  have hB222 : ∀ (h : ql_H) (H : Heap) (locs : List Loc) (ls : Array Slot), ql_S D h0 s H locs h → lv_has ls 2 [] → qw_X12_commandHere_222 D.2 a0 Q h → W p l e ({ frames := 12, cells := 0, slots := 0, locals := 196 } : Room) s m ([.ref a0] : List Value).toArray below meth c H locs 0 0 (vx_MQ below (ql_Q D h0 (ql_rI Q)) (ql_X D h0 X) ([.ref a0] : List Value).toArray s 0 0 (ql_A h0)) (F0 m 222 ls []) := by
    intro h H locs ls S hl w
    unfold qw_X12_commandHere_222 at w
    refine lv_iconst (v := (0 : Int32)) C.1.1 C.1.2.1 dX12_commandHere_222 (by decide) ?_
    refine lv_goto (tgt := 249) C.1.1 C.1.2.1 dX12_commandHere_223 (by decide) ?_
    exact ql_zret C S hr hlocks dX12_commandHere_249 ⟨Nat.le_of_ble_eq_true rfl, Nat.le_of_ble_eq_true rfl⟩ w
  have hB144 : ∀ (h : ql_H) (H : Heap) (locs : List Loc) (ls : Array Slot), ql_S D h0 s H locs h → lv_has ls 2 [] → qw_X12_commandHere_144 D.2 a0 Q h → W p l e ({ frames := 12, cells := 0, slots := 0, locals := 196 } : Room) s m ([.ref a0] : List Value).toArray below meth c H locs 0 0 (vx_MQ below (ql_Q D h0 (ql_rI Q)) (ql_X D h0 X) ([.ref a0] : List Value).toArray s 0 0 (ql_A h0)) (F0 m 144 ls []) := by
    intro h H locs ls S hl w
    unfold qw_X12_commandHere_144 at w
    refine lv_iconst (v := (0 : Int32)) C.1.1 C.1.2.1 dX12_commandHere_144 (by decide) ?_
    refine lv_goto (tgt := 181) C.1.1 C.1.2.1 dX12_commandHere_145 (by decide) ?_
    exact ql_zret C S hr hlocks dX12_commandHere_181 ⟨Nat.le_of_ble_eq_true rfl, Nat.le_of_ble_eq_true rfl⟩ w
  unfold qw_X12_commandHere at w
  refine lv_iconst (v := (4 : Int32)) C.1.1 C.1.2.1 dX12_commandHere_0 (by decide) ?_
  refine ql_aload_n (r := (some a0)) C dX12_commandHere_1 rfl (lv_at hl 0 rfl) ?_
  refine ql_getI C S qf_13_18 gw_1686 dX12_commandHere_2 w (fun x1 w => ?_)
  refine lv_imul C.1.1 C.1.2.1 dX12_commandHere_5 ?_
  refine lv_iconst (v := (1 : Int32)) C.1.1 C.1.2.1 dX12_commandHere_6 (by decide) ?_
  refine lv_iadd C.1.1 C.1.2.1 dX12_commandHere_7 ?_
  refine lv_istore_n (lv' := [(1, .int (((4 : Int32) * x1) + (1 : Int32))), (0, .ref a0)]) C.1.1 C.1.2.1 dX12_commandHere_8 rfl hl (by decide) rfl (fun ls hl => ?_)
  refine ql_aload_n (r := (some a0)) C dX12_commandHere_9 rfl (lv_at hl 1 rfl) ?_
  refine lv_bipush (v := (97 : Int32)) C.1.1 C.1.2.1 dX12_commandHere_10 (by decide) ?_
  refine ql_VI (As := [.int (97 : Int32)]) (rest := []) C S htab hlocks hl qy_X12_skips qi_X12_skips qs_X12_skips gw_2075 (ci := 13) rfl w (fun b w => qm_X12_skips l hl9 D _ b (97 : Int32) _ _ w) rfl ⟨Nat.le_of_ble_eq_true rfl, Nat.le_of_ble_eq_true rfl⟩ ⟨rfl, rfl⟩ (by exact Nat.le_of_ble_eq_true rfl) (fun b e9 => by cases e9; rfl) dX12_commandHere_12 ⟨Nat.le_of_ble_eq_true rfl, Nat.le_of_ble_eq_true rfl⟩ ⟨Nat.le_of_ble_eq_true rfl, Nat.le_of_ble_eq_true rfl⟩ (fun x2 h H locs S w => ?_)
  refine W.cs (cells' := 0) (slots' := 0) rfl rfl ?_
  refine lv_if_eq (tgt := 61) C.1.1 C.1.2.1 dX12_commandHere_15 (by decide) (fun c9 => ?_) (fun c9 => ?_)
  · replace w := ql_if w c9
    refine ql_aload_n (r := (some a0)) C dX12_commandHere_61 rfl (lv_at hl 1 rfl) ?_
    refine lv_bipush (v := (112 : Int32)) C.1.1 C.1.2.1 dX12_commandHere_62 (by decide) ?_
    refine ql_VI (As := [.int (112 : Int32)]) (rest := []) C S htab hlocks hl qy_X12_skips qi_X12_skips qs_X12_skips gw_2075 (ci := 13) rfl w (fun b w => qm_X12_skips l hl9 D _ b (112 : Int32) _ _ w) rfl ⟨Nat.le_of_ble_eq_true rfl, Nat.le_of_ble_eq_true rfl⟩ ⟨rfl, rfl⟩ (by exact Nat.le_of_ble_eq_true rfl) (fun b e9 => by cases e9; rfl) dX12_commandHere_64 ⟨Nat.le_of_ble_eq_true rfl, Nat.le_of_ble_eq_true rfl⟩ ⟨Nat.le_of_ble_eq_true rfl, Nat.le_of_ble_eq_true rfl⟩ (fun x4 h H locs S w => ?_)
    refine W.cs (cells' := 0) (slots' := 0) rfl rfl ?_
    refine lv_if_eq (tgt := 104) C.1.1 C.1.2.1 dX12_commandHere_67 (by decide) (fun c9 => ?_) (fun c9 => ?_)
    · replace w := ql_if w c9
      refine ql_aload_n (r := (some a0)) C dX12_commandHere_104 rfl (lv_at hl 1 rfl) ?_
      refine lv_bipush (v := (115 : Int32)) C.1.1 C.1.2.1 dX12_commandHere_105 (by decide) ?_
      refine ql_VI (As := [.int (115 : Int32)]) (rest := []) C S htab hlocks hl qy_X12_skips qi_X12_skips qs_X12_skips gw_2075 (ci := 13) rfl w (fun b w => qm_X12_skips l hl9 D _ b (115 : Int32) _ _ w) rfl ⟨Nat.le_of_ble_eq_true rfl, Nat.le_of_ble_eq_true rfl⟩ ⟨rfl, rfl⟩ (by exact Nat.le_of_ble_eq_true rfl) (fun b e9 => by cases e9; rfl) dX12_commandHere_107 ⟨Nat.le_of_ble_eq_true rfl, Nat.le_of_ble_eq_true rfl⟩ ⟨Nat.le_of_ble_eq_true rfl, Nat.le_of_ble_eq_true rfl⟩ (fun x6 h H locs S w => ?_)
      refine W.cs (cells' := 0) (slots' := 0) rfl rfl ?_
      refine lv_if_eq (tgt := 182) C.1.1 C.1.2.1 dX12_commandHere_110 (by decide) (fun c9 => ?_) (fun c9 => ?_)
      · replace w := ql_if w c9
        refine ql_aload_n (r := (some a0)) C dX12_commandHere_182 rfl (lv_at hl 1 rfl) ?_
        refine lv_bipush (v := (99 : Int32)) C.1.1 C.1.2.1 dX12_commandHere_183 (by decide) ?_
        refine ql_VI (As := [.int (99 : Int32)]) (rest := []) C S htab hlocks hl qy_X12_skips qi_X12_skips qs_X12_skips gw_2075 (ci := 13) rfl w (fun b w => qm_X12_skips l hl9 D _ b (99 : Int32) _ _ w) rfl ⟨Nat.le_of_ble_eq_true rfl, Nat.le_of_ble_eq_true rfl⟩ ⟨rfl, rfl⟩ (by exact Nat.le_of_ble_eq_true rfl) (fun b e9 => by cases e9; rfl) dX12_commandHere_185 ⟨Nat.le_of_ble_eq_true rfl, Nat.le_of_ble_eq_true rfl⟩ ⟨Nat.le_of_ble_eq_true rfl, Nat.le_of_ble_eq_true rfl⟩ (fun x8 h H locs S w => ?_)
        refine W.cs (cells' := 0) (slots' := 0) rfl rfl ?_
        refine lv_if_eq (tgt := 250) C.1.1 C.1.2.1 dX12_commandHere_188 (by decide) (fun c9 => ?_) (fun c9 => ?_)
        · replace w := ql_if w c9
          refine ql_aload_n (r := (some a0)) C dX12_commandHere_250 rfl (lv_at hl 1 rfl) ?_
          refine lv_bipush (v := (117 : Int32)) C.1.1 C.1.2.1 dX12_commandHere_251 (by decide) ?_
          refine ql_VI (As := [.int (117 : Int32)]) (rest := []) C S htab hlocks hl qy_X12_skips qi_X12_skips qs_X12_skips gw_2075 (ci := 13) rfl w (fun b w => qm_X12_skips l hl9 D _ b (117 : Int32) _ _ w) rfl ⟨Nat.le_of_ble_eq_true rfl, Nat.le_of_ble_eq_true rfl⟩ ⟨rfl, rfl⟩ (by exact Nat.le_of_ble_eq_true rfl) (fun b e9 => by cases e9; rfl) dX12_commandHere_253 ⟨Nat.le_of_ble_eq_true rfl, Nat.le_of_ble_eq_true rfl⟩ ⟨Nat.le_of_ble_eq_true rfl, Nat.le_of_ble_eq_true rfl⟩ (fun x10 h H locs S w => ?_)
          refine W.cs (cells' := 0) (slots' := 0) rfl rfl ?_
          refine lv_if_eq (tgt := 284) C.1.1 C.1.2.1 dX12_commandHere_256 (by decide) (fun c9 => ?_) (fun c9 => ?_)
          · replace w := ql_if w c9
            refine ql_aload_n (r := (some a0)) C dX12_commandHere_284 rfl (lv_at hl 1 rfl) ?_
            refine lv_bipush (v := (114 : Int32)) C.1.1 C.1.2.1 dX12_commandHere_285 (by decide) ?_
            refine ql_VI (As := [.int (114 : Int32)]) (rest := []) C S htab hlocks hl qy_X12_skips qi_X12_skips qs_X12_skips gw_2075 (ci := 13) rfl w (fun b w => qm_X12_skips l hl9 D _ b (114 : Int32) _ _ w) rfl ⟨Nat.le_of_ble_eq_true rfl, Nat.le_of_ble_eq_true rfl⟩ ⟨rfl, rfl⟩ (by exact Nat.le_of_ble_eq_true rfl) (fun b e9 => by cases e9; rfl) dX12_commandHere_287 ⟨Nat.le_of_ble_eq_true rfl, Nat.le_of_ble_eq_true rfl⟩ ⟨Nat.le_of_ble_eq_true rfl, Nat.le_of_ble_eq_true rfl⟩ (fun x12 h H locs S w => ?_)
            refine W.cs (cells' := 0) (slots' := 0) rfl rfl ?_
            refine lv_if_eq (tgt := 318) C.1.1 C.1.2.1 dX12_commandHere_290 (by decide) (fun c9 => ?_) (fun c9 => ?_)
            · replace w := ql_if w c9
              refine ql_aload_n (r := (some a0)) C dX12_commandHere_318 rfl (lv_at hl 1 rfl) ?_
              refine lv_bipush (v := (101 : Int32)) C.1.1 C.1.2.1 dX12_commandHere_319 (by decide) ?_
              refine ql_VI (As := [.int (101 : Int32)]) (rest := []) C S htab hlocks hl qy_X12_skips qi_X12_skips qs_X12_skips gw_2075 (ci := 13) rfl w (fun b w => qm_X12_skips l hl9 D _ b (101 : Int32) _ _ w) rfl ⟨Nat.le_of_ble_eq_true rfl, Nat.le_of_ble_eq_true rfl⟩ ⟨rfl, rfl⟩ (by exact Nat.le_of_ble_eq_true rfl) (fun b e9 => by cases e9; rfl) dX12_commandHere_321 ⟨Nat.le_of_ble_eq_true rfl, Nat.le_of_ble_eq_true rfl⟩ ⟨Nat.le_of_ble_eq_true rfl, Nat.le_of_ble_eq_true rfl⟩ (fun x14 h H locs S w => ?_)
              refine W.cs (cells' := 0) (slots' := 0) rfl rfl ?_
              refine lv_if_eq (tgt := 336) C.1.1 C.1.2.1 dX12_commandHere_324 (by decide) (fun c9 => ?_) (fun c9 => ?_)
              · replace w := ql_if w c9
                refine ql_aload_n (r := (some a0)) C dX12_commandHere_336 rfl (lv_at hl 1 rfl) ?_
                refine lv_bipush (v := (119 : Int32)) C.1.1 C.1.2.1 dX12_commandHere_337 (by decide) ?_
                refine ql_VI (As := [.int (119 : Int32)]) (rest := []) C S htab hlocks hl qy_X12_skips qi_X12_skips qs_X12_skips gw_2075 (ci := 13) rfl w (fun b w => qm_X12_skips l hl9 D _ b (119 : Int32) _ _ w) rfl ⟨Nat.le_of_ble_eq_true rfl, Nat.le_of_ble_eq_true rfl⟩ ⟨rfl, rfl⟩ (by exact Nat.le_of_ble_eq_true rfl) (fun b e9 => by cases e9; rfl) dX12_commandHere_339 ⟨Nat.le_of_ble_eq_true rfl, Nat.le_of_ble_eq_true rfl⟩ ⟨Nat.le_of_ble_eq_true rfl, Nat.le_of_ble_eq_true rfl⟩ (fun x16 h H locs S w => ?_)
                refine W.cs (cells' := 0) (slots' := 0) rfl rfl ?_
                refine lv_if_eq (tgt := 368) C.1.1 C.1.2.1 dX12_commandHere_342 (by decide) (fun c9 => ?_) (fun c9 => ?_)
                · replace w := ql_if w c9
                  refine lv_iconst (v := (0 : Int32)) C.1.1 C.1.2.1 dX12_commandHere_368 (by decide) ?_
                  exact ql_zret C S hr hlocks dX12_commandHere_369 ⟨Nat.le_of_ble_eq_true rfl, Nat.le_of_ble_eq_true rfl⟩ w
                · replace w := ql_ifn w c9
                  refine ql_aload_n (r := (some a0)) C dX12_commandHere_345 rfl (lv_at hl 1 rfl) ?_
                  refine lv_bipush (v := (9 : Int32)) C.1.1 C.1.2.1 dX12_commandHere_346 (by decide) ?_
                  refine ql_ldcs (tx := "ait") (k := 9) C (by decide +kernel) dX12_commandHere_348 ?_
                  refine ql_VI (As := [.int (9 : Int32), va_rf (some (D.2 (200 + 9)))]) (rest := []) C S htab hlocks hl qy_X12_isWord qi_X12_isWord qs_X12_isWord gw_2084 (ci := 13) rfl w (fun b w => qm_X12_isWord l hl9 D _ b (9 : Int32) (some (D.2 (200 + 9))) _ _ w) rfl ⟨Nat.le_of_ble_eq_true rfl, Nat.le_of_ble_eq_true rfl⟩ ⟨rfl, rfl⟩ (by exact Nat.le_of_ble_eq_true rfl) (fun b e9 => by cases e9; rfl) dX12_commandHere_350 ⟨Nat.le_of_ble_eq_true rfl, Nat.le_of_ble_eq_true rfl⟩ ⟨Nat.le_of_ble_eq_true rfl, Nat.le_of_ble_eq_true rfl⟩ (fun x18 h H locs S w => ?_)
                  refine W.cs (cells' := 0) (slots' := 0) rfl rfl ?_
                  refine lv_if_eq (tgt := 368) C.1.1 C.1.2.1 dX12_commandHere_353 (by decide) (fun c9 => ?_) (fun c9 => ?_)
                  · replace w := ql_if w c9
                    refine lv_iconst (v := (0 : Int32)) C.1.1 C.1.2.1 dX12_commandHere_368 (by decide) ?_
                    exact ql_zret C S hr hlocks dX12_commandHere_369 ⟨Nat.le_of_ble_eq_true rfl, Nat.le_of_ble_eq_true rfl⟩ w
                  · replace w := ql_ifn w c9
                    refine ql_aload_n (r := (some a0)) C dX12_commandHere_356 rfl (lv_at hl 1 rfl) ?_
                    refine lv_iload_n C.1.1 C.1.2.1 dX12_commandHere_357 rfl (lv_at hl 0 rfl) ?_
                    refine ql_VI (As := [.int (((4 : Int32) * x1) + (1 : Int32))]) (rest := []) C S htab hlocks hl qy_X12_figures qi_X12_figures qs_X12_figures gw_2090 (ci := 13) rfl w (fun b w => qm_X12_figures l hl9 D _ b (((4 : Int32) * x1) + (1 : Int32)) _ _ w) rfl ⟨Nat.le_of_ble_eq_true rfl, Nat.le_of_ble_eq_true rfl⟩ ⟨rfl, rfl⟩ (by exact Nat.le_of_ble_eq_true rfl) (fun b e9 => by cases e9; rfl) dX12_commandHere_358 ⟨Nat.le_of_ble_eq_true rfl, Nat.le_of_ble_eq_true rfl⟩ ⟨Nat.le_of_ble_eq_true rfl, Nat.le_of_ble_eq_true rfl⟩ (fun x20 h H locs S w => ?_)
                    refine W.cs (cells' := 0) (slots' := 0) rfl rfl ?_
                    refine lv_if_eq (tgt := 368) C.1.1 C.1.2.1 dX12_commandHere_361 (by decide) (fun c9 => ?_) (fun c9 => ?_)
                    · replace w := ql_if w c9
                      refine lv_iconst (v := (0 : Int32)) C.1.1 C.1.2.1 dX12_commandHere_368 (by decide) ?_
                      exact ql_zret C S hr hlocks dX12_commandHere_369 ⟨Nat.le_of_ble_eq_true rfl, Nat.le_of_ble_eq_true rfl⟩ w
                    · replace w := ql_ifn w c9
                      refine lv_iconst (v := (1 : Int32)) C.1.1 C.1.2.1 dX12_commandHere_364 (by decide) ?_
                      refine lv_goto (tgt := 369) C.1.1 C.1.2.1 dX12_commandHere_365 (by decide) ?_
                      exact ql_zret C S hr hlocks dX12_commandHere_369 ⟨Nat.le_of_ble_eq_true rfl, Nat.le_of_ble_eq_true rfl⟩ w
              · replace w := ql_ifn w c9
                refine ql_aload_n (r := (some a0)) C dX12_commandHere_327 rfl (lv_at hl 1 rfl) ?_
                refine lv_bipush (v := (8 : Int32)) C.1.1 C.1.2.1 dX12_commandHere_328 (by decide) ?_
                refine ql_ldcs (tx := "dit") (k := 8) C (by decide +kernel) dX12_commandHere_330 ?_
                refine ql_VI (As := [.int (8 : Int32), va_rf (some (D.2 (200 + 8)))]) (rest := []) C S htab hlocks hl qy_X12_isWord qi_X12_isWord qs_X12_isWord gw_2084 (ci := 13) rfl w (fun b w => qm_X12_isWord l hl9 D _ b (8 : Int32) (some (D.2 (200 + 8))) _ _ w) rfl ⟨Nat.le_of_ble_eq_true rfl, Nat.le_of_ble_eq_true rfl⟩ ⟨rfl, rfl⟩ (by exact Nat.le_of_ble_eq_true rfl) (fun b e9 => by cases e9; rfl) dX12_commandHere_332 ⟨Nat.le_of_ble_eq_true rfl, Nat.le_of_ble_eq_true rfl⟩ ⟨Nat.le_of_ble_eq_true rfl, Nat.le_of_ble_eq_true rfl⟩ (fun x22 h H locs S w => ?_)
                refine W.cs (cells' := 0) (slots' := 0) rfl rfl ?_
                exact ql_zret C S hr hlocks dX12_commandHere_335 ⟨Nat.le_of_ble_eq_true rfl, Nat.le_of_ble_eq_true rfl⟩ w
            · replace w := ql_ifn w c9
              refine ql_aload_n (r := (some a0)) C dX12_commandHere_293 rfl (lv_at hl 1 rfl) ?_
              refine lv_bipush (v := (7 : Int32)) C.1.1 C.1.2.1 dX12_commandHere_294 (by decide) ?_
              refine ql_ldcs (tx := "epeal") (k := 7) C (by decide +kernel) dX12_commandHere_296 ?_
              refine ql_VI (As := [.int (7 : Int32), va_rf (some (D.2 (200 + 7)))]) (rest := []) C S htab hlocks hl qy_X12_isWord qi_X12_isWord qs_X12_isWord gw_2084 (ci := 13) rfl w (fun b w => qm_X12_isWord l hl9 D _ b (7 : Int32) (some (D.2 (200 + 7))) _ _ w) rfl ⟨Nat.le_of_ble_eq_true rfl, Nat.le_of_ble_eq_true rfl⟩ ⟨rfl, rfl⟩ (by exact Nat.le_of_ble_eq_true rfl) (fun b e9 => by cases e9; rfl) dX12_commandHere_298 ⟨Nat.le_of_ble_eq_true rfl, Nat.le_of_ble_eq_true rfl⟩ ⟨Nat.le_of_ble_eq_true rfl, Nat.le_of_ble_eq_true rfl⟩ (fun x24 h H locs S w => ?_)
              refine W.cs (cells' := 0) (slots' := 0) rfl rfl ?_
              refine lv_if_eq (tgt := 316) C.1.1 C.1.2.1 dX12_commandHere_301 (by decide) (fun c9 => ?_) (fun c9 => ?_)
              · replace w := ql_if w c9
                refine lv_iconst (v := (0 : Int32)) C.1.1 C.1.2.1 dX12_commandHere_316 (by decide) ?_
                exact ql_zret C S hr hlocks dX12_commandHere_317 ⟨Nat.le_of_ble_eq_true rfl, Nat.le_of_ble_eq_true rfl⟩ w
              · replace w := ql_ifn w c9
                refine ql_aload_n (r := (some a0)) C dX12_commandHere_304 rfl (lv_at hl 1 rfl) ?_
                refine lv_iload_n C.1.1 C.1.2.1 dX12_commandHere_305 rfl (lv_at hl 0 rfl) ?_
                refine ql_VI (As := [.int (((4 : Int32) * x1) + (1 : Int32))]) (rest := []) C S htab hlocks hl qy_X12_figures qi_X12_figures qs_X12_figures gw_2090 (ci := 13) rfl w (fun b w => qm_X12_figures l hl9 D _ b (((4 : Int32) * x1) + (1 : Int32)) _ _ w) rfl ⟨Nat.le_of_ble_eq_true rfl, Nat.le_of_ble_eq_true rfl⟩ ⟨rfl, rfl⟩ (by exact Nat.le_of_ble_eq_true rfl) (fun b e9 => by cases e9; rfl) dX12_commandHere_306 ⟨Nat.le_of_ble_eq_true rfl, Nat.le_of_ble_eq_true rfl⟩ ⟨Nat.le_of_ble_eq_true rfl, Nat.le_of_ble_eq_true rfl⟩ (fun x26 h H locs S w => ?_)
                refine W.cs (cells' := 0) (slots' := 0) rfl rfl ?_
                refine lv_if_eq (tgt := 316) C.1.1 C.1.2.1 dX12_commandHere_309 (by decide) (fun c9 => ?_) (fun c9 => ?_)
                · replace w := ql_if w c9
                  refine lv_iconst (v := (0 : Int32)) C.1.1 C.1.2.1 dX12_commandHere_316 (by decide) ?_
                  exact ql_zret C S hr hlocks dX12_commandHere_317 ⟨Nat.le_of_ble_eq_true rfl, Nat.le_of_ble_eq_true rfl⟩ w
                · replace w := ql_ifn w c9
                  refine lv_iconst (v := (1 : Int32)) C.1.1 C.1.2.1 dX12_commandHere_312 (by decide) ?_
                  refine lv_goto (tgt := 317) C.1.1 C.1.2.1 dX12_commandHere_313 (by decide) ?_
                  exact ql_zret C S hr hlocks dX12_commandHere_317 ⟨Nat.le_of_ble_eq_true rfl, Nat.le_of_ble_eq_true rfl⟩ w
          · replace w := ql_ifn w c9
            refine ql_aload_n (r := (some a0)) C dX12_commandHere_259 rfl (lv_at hl 1 rfl) ?_
            refine lv_bipush (v := (6 : Int32)) C.1.1 C.1.2.1 dX12_commandHere_260 (by decide) ?_
            refine ql_ldcs (tx := "ncite") (k := 6) C (by decide +kernel) dX12_commandHere_262 ?_
            refine ql_VI (As := [.int (6 : Int32), va_rf (some (D.2 (200 + 6)))]) (rest := []) C S htab hlocks hl qy_X12_isWord qi_X12_isWord qs_X12_isWord gw_2084 (ci := 13) rfl w (fun b w => qm_X12_isWord l hl9 D _ b (6 : Int32) (some (D.2 (200 + 6))) _ _ w) rfl ⟨Nat.le_of_ble_eq_true rfl, Nat.le_of_ble_eq_true rfl⟩ ⟨rfl, rfl⟩ (by exact Nat.le_of_ble_eq_true rfl) (fun b e9 => by cases e9; rfl) dX12_commandHere_264 ⟨Nat.le_of_ble_eq_true rfl, Nat.le_of_ble_eq_true rfl⟩ ⟨Nat.le_of_ble_eq_true rfl, Nat.le_of_ble_eq_true rfl⟩ (fun x28 h H locs S w => ?_)
            refine W.cs (cells' := 0) (slots' := 0) rfl rfl ?_
            refine lv_if_eq (tgt := 282) C.1.1 C.1.2.1 dX12_commandHere_267 (by decide) (fun c9 => ?_) (fun c9 => ?_)
            · replace w := ql_if w c9
              refine lv_iconst (v := (0 : Int32)) C.1.1 C.1.2.1 dX12_commandHere_282 (by decide) ?_
              exact ql_zret C S hr hlocks dX12_commandHere_283 ⟨Nat.le_of_ble_eq_true rfl, Nat.le_of_ble_eq_true rfl⟩ w
            · replace w := ql_ifn w c9
              refine ql_aload_n (r := (some a0)) C dX12_commandHere_270 rfl (lv_at hl 1 rfl) ?_
              refine lv_iload_n C.1.1 C.1.2.1 dX12_commandHere_271 rfl (lv_at hl 0 rfl) ?_
              refine ql_VI (As := [.int (((4 : Int32) * x1) + (1 : Int32))]) (rest := []) C S htab hlocks hl qy_X12_bothHere qi_X12_bothHere qs_X12_bothHere gw_2099 (ci := 13) rfl w (fun b w => qm_X12_bothHere l hl9 D _ b (((4 : Int32) * x1) + (1 : Int32)) _ _ w) rfl ⟨Nat.le_of_ble_eq_true rfl, Nat.le_of_ble_eq_true rfl⟩ ⟨rfl, rfl⟩ (by exact Nat.le_of_ble_eq_true rfl) (fun b e9 => by cases e9; rfl) dX12_commandHere_272 ⟨Nat.le_of_ble_eq_true rfl, Nat.le_of_ble_eq_true rfl⟩ ⟨Nat.le_of_ble_eq_true rfl, Nat.le_of_ble_eq_true rfl⟩ (fun x30 h H locs S w => ?_)
              refine W.cs (cells' := 0) (slots' := 0) rfl rfl ?_
              refine lv_if_eq (tgt := 282) C.1.1 C.1.2.1 dX12_commandHere_275 (by decide) (fun c9 => ?_) (fun c9 => ?_)
              · replace w := ql_if w c9
                refine lv_iconst (v := (0 : Int32)) C.1.1 C.1.2.1 dX12_commandHere_282 (by decide) ?_
                exact ql_zret C S hr hlocks dX12_commandHere_283 ⟨Nat.le_of_ble_eq_true rfl, Nat.le_of_ble_eq_true rfl⟩ w
              · replace w := ql_ifn w c9
                refine lv_iconst (v := (1 : Int32)) C.1.1 C.1.2.1 dX12_commandHere_278 (by decide) ?_
                refine lv_goto (tgt := 283) C.1.1 C.1.2.1 dX12_commandHere_279 (by decide) ?_
                exact ql_zret C S hr hlocks dX12_commandHere_283 ⟨Nat.le_of_ble_eq_true rfl, Nat.le_of_ble_eq_true rfl⟩ w
        · replace w := ql_ifn w c9
          refine ql_aload_n (r := (some a0)) C dX12_commandHere_191 rfl (lv_at hl 1 rfl) ?_
          refine lv_bipush (v := (117 : Int32)) C.1.1 C.1.2.1 dX12_commandHere_192 (by decide) ?_
          refine ql_VI (As := [.int (117 : Int32)]) (rest := []) C S htab hlocks hl qy_X12_skips qi_X12_skips qs_X12_skips gw_2075 (ci := 13) rfl w (fun b w => qm_X12_skips l hl9 D _ b (117 : Int32) _ _ w) rfl ⟨Nat.le_of_ble_eq_true rfl, Nat.le_of_ble_eq_true rfl⟩ ⟨rfl, rfl⟩ (by exact Nat.le_of_ble_eq_true rfl) (fun b e9 => by cases e9; rfl) dX12_commandHere_194 ⟨Nat.le_of_ble_eq_true rfl, Nat.le_of_ble_eq_true rfl⟩ ⟨Nat.le_of_ble_eq_true rfl, Nat.le_of_ble_eq_true rfl⟩ (fun x32 h H locs S w => ?_)
          refine W.cs (cells' := 0) (slots' := 0) rfl rfl ?_
          refine lv_if_eq (tgt := 226) C.1.1 C.1.2.1 dX12_commandHere_197 (by decide) (fun c9 => ?_) (fun c9 => ?_)
          · replace w := ql_if w c9
            refine ql_aload_n (r := (some a0)) C dX12_commandHere_226 rfl (lv_at hl 1 rfl) ?_
            refine lv_iconst (v := (5 : Int32)) C.1.1 C.1.2.1 dX12_commandHere_227 (by decide) ?_
            refine ql_ldcs (tx := "ite") (k := 5) C (by decide +kernel) dX12_commandHere_228 ?_
            refine ql_VI (As := [.int (5 : Int32), va_rf (some (D.2 (200 + 5)))]) (rest := []) C S htab hlocks hl qy_X12_isWord qi_X12_isWord qs_X12_isWord gw_2084 (ci := 13) rfl w (fun b w => qm_X12_isWord l hl9 D _ b (5 : Int32) (some (D.2 (200 + 5))) _ _ w) rfl ⟨Nat.le_of_ble_eq_true rfl, Nat.le_of_ble_eq_true rfl⟩ ⟨rfl, rfl⟩ (by exact Nat.le_of_ble_eq_true rfl) (fun b e9 => by cases e9; rfl) dX12_commandHere_230 ⟨Nat.le_of_ble_eq_true rfl, Nat.le_of_ble_eq_true rfl⟩ ⟨Nat.le_of_ble_eq_true rfl, Nat.le_of_ble_eq_true rfl⟩ (fun x34 h H locs S w => ?_)
            refine W.cs (cells' := 0) (slots' := 0) rfl rfl ?_
            refine lv_if_eq (tgt := 248) C.1.1 C.1.2.1 dX12_commandHere_233 (by decide) (fun c9 => ?_) (fun c9 => ?_)
            · replace w := ql_if w c9
              refine lv_iconst (v := (0 : Int32)) C.1.1 C.1.2.1 dX12_commandHere_248 (by decide) ?_
              exact ql_zret C S hr hlocks dX12_commandHere_249 ⟨Nat.le_of_ble_eq_true rfl, Nat.le_of_ble_eq_true rfl⟩ w
            · replace w := ql_ifn w c9
              refine ql_aload_n (r := (some a0)) C dX12_commandHere_236 rfl (lv_at hl 1 rfl) ?_
              refine lv_iload_n C.1.1 C.1.2.1 dX12_commandHere_237 rfl (lv_at hl 0 rfl) ?_
              refine ql_VI (As := [.int (((4 : Int32) * x1) + (1 : Int32))]) (rest := []) C S htab hlocks hl qy_X12_bothHere qi_X12_bothHere qs_X12_bothHere gw_2099 (ci := 13) rfl w (fun b w => qm_X12_bothHere l hl9 D _ b (((4 : Int32) * x1) + (1 : Int32)) _ _ w) rfl ⟨Nat.le_of_ble_eq_true rfl, Nat.le_of_ble_eq_true rfl⟩ ⟨rfl, rfl⟩ (by exact Nat.le_of_ble_eq_true rfl) (fun b e9 => by cases e9; rfl) dX12_commandHere_238 ⟨Nat.le_of_ble_eq_true rfl, Nat.le_of_ble_eq_true rfl⟩ ⟨Nat.le_of_ble_eq_true rfl, Nat.le_of_ble_eq_true rfl⟩ (fun x36 h H locs S w => ?_)
              refine W.cs (cells' := 0) (slots' := 0) rfl rfl ?_
              refine lv_if_eq (tgt := 248) C.1.1 C.1.2.1 dX12_commandHere_241 (by decide) (fun c9 => ?_) (fun c9 => ?_)
              · replace w := ql_if w c9
                refine lv_iconst (v := (0 : Int32)) C.1.1 C.1.2.1 dX12_commandHere_248 (by decide) ?_
                exact ql_zret C S hr hlocks dX12_commandHere_249 ⟨Nat.le_of_ble_eq_true rfl, Nat.le_of_ble_eq_true rfl⟩ w
              · replace w := ql_ifn w c9
                refine lv_iconst (v := (1 : Int32)) C.1.1 C.1.2.1 dX12_commandHere_244 (by decide) ?_
                refine lv_goto (tgt := 249) C.1.1 C.1.2.1 dX12_commandHere_245 (by decide) ?_
                exact ql_zret C S hr hlocks dX12_commandHere_249 ⟨Nat.le_of_ble_eq_true rfl, Nat.le_of_ble_eq_true rfl⟩ w
          · replace w := ql_ifn w c9
            refine ql_aload_n (r := (some a0)) C dX12_commandHere_200 rfl (lv_at hl 1 rfl) ?_
            refine lv_iconst (v := (3 : Int32)) C.1.1 C.1.2.1 dX12_commandHere_201 (by decide) ?_
            refine ql_ldcs (tx := "t") (k := 4) C (by decide +kernel) dX12_commandHere_202 ?_
            refine ql_VI (As := [.int (3 : Int32), va_rf (some (D.2 (200 + 4)))]) (rest := []) C S htab hlocks hl qy_X12_isWord qi_X12_isWord qs_X12_isWord gw_2084 (ci := 13) rfl w (fun b w => qm_X12_isWord l hl9 D _ b (3 : Int32) (some (D.2 (200 + 4))) _ _ w) rfl ⟨Nat.le_of_ble_eq_true rfl, Nat.le_of_ble_eq_true rfl⟩ ⟨rfl, rfl⟩ (by exact Nat.le_of_ble_eq_true rfl) (fun b e9 => by cases e9; rfl) dX12_commandHere_204 ⟨Nat.le_of_ble_eq_true rfl, Nat.le_of_ble_eq_true rfl⟩ ⟨Nat.le_of_ble_eq_true rfl, Nat.le_of_ble_eq_true rfl⟩ (fun x38 h H locs S w => ?_)
            refine W.cs (cells' := 0) (slots' := 0) rfl rfl ?_
            refine lv_if_eq (tgt := 222) C.1.1 C.1.2.1 dX12_commandHere_207 (by decide) (fun c9 => ?_) (fun c9 => ?_)
            · replace w := ql_if w c9
              exact hB222  _ _ _ _ S (lv_sub hl [] rfl) w
            · replace w := ql_ifn w c9
              refine ql_aload_n (r := (some a0)) C dX12_commandHere_210 rfl (lv_at hl 1 rfl) ?_
              refine lv_iload_n C.1.1 C.1.2.1 dX12_commandHere_211 rfl (lv_at hl 0 rfl) ?_
              refine ql_VI (As := [.int (((4 : Int32) * x1) + (1 : Int32))]) (rest := []) C S htab hlocks hl qy_X12_bothHere qi_X12_bothHere qs_X12_bothHere gw_2099 (ci := 13) rfl w (fun b w => qm_X12_bothHere l hl9 D _ b (((4 : Int32) * x1) + (1 : Int32)) _ _ w) rfl ⟨Nat.le_of_ble_eq_true rfl, Nat.le_of_ble_eq_true rfl⟩ ⟨rfl, rfl⟩ (by exact Nat.le_of_ble_eq_true rfl) (fun b e9 => by cases e9; rfl) dX12_commandHere_212 ⟨Nat.le_of_ble_eq_true rfl, Nat.le_of_ble_eq_true rfl⟩ ⟨Nat.le_of_ble_eq_true rfl, Nat.le_of_ble_eq_true rfl⟩ (fun x40 h H locs S w => ?_)
              refine W.cs (cells' := 0) (slots' := 0) rfl rfl ?_
              refine lv_if_eq (tgt := 222) C.1.1 C.1.2.1 dX12_commandHere_215 (by decide) (fun c9 => ?_) (fun c9 => ?_)
              · replace w := ql_if w c9
                exact hB222  _ _ _ _ S (lv_sub hl [] rfl) w
              · replace w := ql_ifn w c9
                refine lv_iconst (v := (1 : Int32)) C.1.1 C.1.2.1 dX12_commandHere_218 (by decide) ?_
                refine lv_goto (tgt := 249) C.1.1 C.1.2.1 dX12_commandHere_219 (by decide) ?_
                exact ql_zret C S hr hlocks dX12_commandHere_249 ⟨Nat.le_of_ble_eq_true rfl, Nat.le_of_ble_eq_true rfl⟩ w
      · replace w := ql_ifn w c9
        refine ql_aload_n (r := (some a0)) C dX12_commandHere_113 rfl (lv_at hl 1 rfl) ?_
        refine lv_bipush (v := (117 : Int32)) C.1.1 C.1.2.1 dX12_commandHere_114 (by decide) ?_
        refine ql_VI (As := [.int (117 : Int32)]) (rest := []) C S htab hlocks hl qy_X12_skips qi_X12_skips qs_X12_skips gw_2075 (ci := 13) rfl w (fun b w => qm_X12_skips l hl9 D _ b (117 : Int32) _ _ w) rfl ⟨Nat.le_of_ble_eq_true rfl, Nat.le_of_ble_eq_true rfl⟩ ⟨rfl, rfl⟩ (by exact Nat.le_of_ble_eq_true rfl) (fun b e9 => by cases e9; rfl) dX12_commandHere_116 ⟨Nat.le_of_ble_eq_true rfl, Nat.le_of_ble_eq_true rfl⟩ ⟨Nat.le_of_ble_eq_true rfl, Nat.le_of_ble_eq_true rfl⟩ (fun x42 h H locs S w => ?_)
        refine W.cs (cells' := 0) (slots' := 0) rfl rfl ?_
        refine lv_if_eq (tgt := 148) C.1.1 C.1.2.1 dX12_commandHere_119 (by decide) (fun c9 => ?_) (fun c9 => ?_)
        · replace w := ql_if w c9
          refine ql_aload_n (r := (some a0)) C dX12_commandHere_148 rfl (lv_at hl 1 rfl) ?_
          refine lv_iconst (v := (2 : Int32)) C.1.1 C.1.2.1 dX12_commandHere_149 (by decide) ?_
          refine ql_ldcs (tx := "et") (k := 3) C (by decide +kernel) dX12_commandHere_150 ?_
          refine ql_VI (As := [.int (2 : Int32), va_rf (some (D.2 (200 + 3)))]) (rest := []) C S htab hlocks hl qy_X12_isWord qi_X12_isWord qs_X12_isWord gw_2084 (ci := 13) rfl w (fun b w => qm_X12_isWord l hl9 D _ b (2 : Int32) (some (D.2 (200 + 3))) _ _ w) rfl ⟨Nat.le_of_ble_eq_true rfl, Nat.le_of_ble_eq_true rfl⟩ ⟨rfl, rfl⟩ (by exact Nat.le_of_ble_eq_true rfl) (fun b e9 => by cases e9; rfl) dX12_commandHere_152 ⟨Nat.le_of_ble_eq_true rfl, Nat.le_of_ble_eq_true rfl⟩ ⟨Nat.le_of_ble_eq_true rfl, Nat.le_of_ble_eq_true rfl⟩ (fun x44 h H locs S w => ?_)
          refine W.cs (cells' := 0) (slots' := 0) rfl rfl ?_
          refine lv_if_eq (tgt := 180) C.1.1 C.1.2.1 dX12_commandHere_155 (by decide) (fun c9 => ?_) (fun c9 => ?_)
          · replace w := ql_if w c9
            refine lv_iconst (v := (0 : Int32)) C.1.1 C.1.2.1 dX12_commandHere_180 (by decide) ?_
            exact ql_zret C S hr hlocks dX12_commandHere_181 ⟨Nat.le_of_ble_eq_true rfl, Nat.le_of_ble_eq_true rfl⟩ w
          · replace w := ql_ifn w c9
            refine ql_aload_n (r := (some a0)) C dX12_commandHere_158 rfl (lv_at hl 1 rfl) ?_
            refine lv_iload_n C.1.1 C.1.2.1 dX12_commandHere_159 rfl (lv_at hl 0 rfl) ?_
            refine ql_VI (As := [.int (((4 : Int32) * x1) + (1 : Int32))]) (rest := []) C S htab hlocks hl qy_X12_bothHere qi_X12_bothHere qs_X12_bothHere gw_2099 (ci := 13) rfl w (fun b w => qm_X12_bothHere l hl9 D _ b (((4 : Int32) * x1) + (1 : Int32)) _ _ w) rfl ⟨Nat.le_of_ble_eq_true rfl, Nat.le_of_ble_eq_true rfl⟩ ⟨rfl, rfl⟩ (by exact Nat.le_of_ble_eq_true rfl) (fun b e9 => by cases e9; rfl) dX12_commandHere_160 ⟨Nat.le_of_ble_eq_true rfl, Nat.le_of_ble_eq_true rfl⟩ ⟨Nat.le_of_ble_eq_true rfl, Nat.le_of_ble_eq_true rfl⟩ (fun x46 h H locs S w => ?_)
            refine W.cs (cells' := 0) (slots' := 0) rfl rfl ?_
            refine lv_if_eq (tgt := 180) C.1.1 C.1.2.1 dX12_commandHere_163 (by decide) (fun c9 => ?_) (fun c9 => ?_)
            · replace w := ql_if w c9
              refine lv_iconst (v := (0 : Int32)) C.1.1 C.1.2.1 dX12_commandHere_180 (by decide) ?_
              exact ql_zret C S hr hlocks dX12_commandHere_181 ⟨Nat.le_of_ble_eq_true rfl, Nat.le_of_ble_eq_true rfl⟩ w
            · replace w := ql_ifn w c9
              refine ql_aload_n (r := (some a0)) C dX12_commandHere_166 rfl (lv_at hl 1 rfl) ?_
              refine lv_iload_n C.1.1 C.1.2.1 dX12_commandHere_167 rfl (lv_at hl 0 rfl) ?_
              refine lv_iconst (v := (2 : Int32)) C.1.1 C.1.2.1 dX12_commandHere_168 (by decide) ?_
              refine lv_iadd C.1.1 C.1.2.1 dX12_commandHere_169 ?_
              refine ql_VI (As := [.int ((((4 : Int32) * x1) + (1 : Int32)) + (2 : Int32))]) (rest := []) C S htab hlocks hl qy_X12_noteHere qi_X12_noteHere qs_X12_noteHere gw_2094 (ci := 13) rfl w (fun b w => qm_X12_noteHere l hl9 D _ b ((((4 : Int32) * x1) + (1 : Int32)) + (2 : Int32)) _ _ w) rfl ⟨Nat.le_of_ble_eq_true rfl, Nat.le_of_ble_eq_true rfl⟩ ⟨rfl, rfl⟩ (by exact Nat.le_of_ble_eq_true rfl) (fun b e9 => by cases e9; rfl) dX12_commandHere_170 ⟨Nat.le_of_ble_eq_true rfl, Nat.le_of_ble_eq_true rfl⟩ ⟨Nat.le_of_ble_eq_true rfl, Nat.le_of_ble_eq_true rfl⟩ (fun x48 h H locs S w => ?_)
              refine W.cs (cells' := 0) (slots' := 0) rfl rfl ?_
              refine lv_if_eq (tgt := 180) C.1.1 C.1.2.1 dX12_commandHere_173 (by decide) (fun c9 => ?_) (fun c9 => ?_)
              · replace w := ql_if w c9
                refine lv_iconst (v := (0 : Int32)) C.1.1 C.1.2.1 dX12_commandHere_180 (by decide) ?_
                exact ql_zret C S hr hlocks dX12_commandHere_181 ⟨Nat.le_of_ble_eq_true rfl, Nat.le_of_ble_eq_true rfl⟩ w
              · replace w := ql_ifn w c9
                refine lv_iconst (v := (1 : Int32)) C.1.1 C.1.2.1 dX12_commandHere_176 (by decide) ?_
                refine lv_goto (tgt := 181) C.1.1 C.1.2.1 dX12_commandHere_177 (by decide) ?_
                exact ql_zret C S hr hlocks dX12_commandHere_181 ⟨Nat.le_of_ble_eq_true rfl, Nat.le_of_ble_eq_true rfl⟩ w
        · replace w := ql_ifn w c9
          refine ql_aload_n (r := (some a0)) C dX12_commandHere_122 rfl (lv_at hl 1 rfl) ?_
          refine lv_iconst (v := (4 : Int32)) C.1.1 C.1.2.1 dX12_commandHere_123 (by decide) ?_
          refine ql_ldcs (tx := "nset") (k := 2) C (by decide +kernel) dX12_commandHere_124 ?_
          refine ql_VI (As := [.int (4 : Int32), va_rf (some (D.2 (200 + 2)))]) (rest := []) C S htab hlocks hl qy_X12_isWord qi_X12_isWord qs_X12_isWord gw_2084 (ci := 13) rfl w (fun b w => qm_X12_isWord l hl9 D _ b (4 : Int32) (some (D.2 (200 + 2))) _ _ w) rfl ⟨Nat.le_of_ble_eq_true rfl, Nat.le_of_ble_eq_true rfl⟩ ⟨rfl, rfl⟩ (by exact Nat.le_of_ble_eq_true rfl) (fun b e9 => by cases e9; rfl) dX12_commandHere_126 ⟨Nat.le_of_ble_eq_true rfl, Nat.le_of_ble_eq_true rfl⟩ ⟨Nat.le_of_ble_eq_true rfl, Nat.le_of_ble_eq_true rfl⟩ (fun x50 h H locs S w => ?_)
          refine W.cs (cells' := 0) (slots' := 0) rfl rfl ?_
          refine lv_if_eq (tgt := 144) C.1.1 C.1.2.1 dX12_commandHere_129 (by decide) (fun c9 => ?_) (fun c9 => ?_)
          · replace w := ql_if w c9
            exact hB144  _ _ _ _ S (lv_sub hl [] rfl) w
          · replace w := ql_ifn w c9
            refine ql_aload_n (r := (some a0)) C dX12_commandHere_132 rfl (lv_at hl 1 rfl) ?_
            refine lv_iload_n C.1.1 C.1.2.1 dX12_commandHere_133 rfl (lv_at hl 0 rfl) ?_
            refine ql_VI (As := [.int (((4 : Int32) * x1) + (1 : Int32))]) (rest := []) C S htab hlocks hl qy_X12_bothHere qi_X12_bothHere qs_X12_bothHere gw_2099 (ci := 13) rfl w (fun b w => qm_X12_bothHere l hl9 D _ b (((4 : Int32) * x1) + (1 : Int32)) _ _ w) rfl ⟨Nat.le_of_ble_eq_true rfl, Nat.le_of_ble_eq_true rfl⟩ ⟨rfl, rfl⟩ (by exact Nat.le_of_ble_eq_true rfl) (fun b e9 => by cases e9; rfl) dX12_commandHere_134 ⟨Nat.le_of_ble_eq_true rfl, Nat.le_of_ble_eq_true rfl⟩ ⟨Nat.le_of_ble_eq_true rfl, Nat.le_of_ble_eq_true rfl⟩ (fun x52 h H locs S w => ?_)
            refine W.cs (cells' := 0) (slots' := 0) rfl rfl ?_
            refine lv_if_eq (tgt := 144) C.1.1 C.1.2.1 dX12_commandHere_137 (by decide) (fun c9 => ?_) (fun c9 => ?_)
            · replace w := ql_if w c9
              exact hB144  _ _ _ _ S (lv_sub hl [] rfl) w
            · replace w := ql_ifn w c9
              refine lv_iconst (v := (1 : Int32)) C.1.1 C.1.2.1 dX12_commandHere_140 (by decide) ?_
              refine lv_goto (tgt := 181) C.1.1 C.1.2.1 dX12_commandHere_141 (by decide) ?_
              exact ql_zret C S hr hlocks dX12_commandHere_181 ⟨Nat.le_of_ble_eq_true rfl, Nat.le_of_ble_eq_true rfl⟩ w
    · replace w := ql_ifn w c9
      refine ql_aload_n (r := (some a0)) C dX12_commandHere_70 rfl (lv_at hl 1 rfl) ?_
      refine lv_iconst (v := (1 : Int32)) C.1.1 C.1.2.1 dX12_commandHere_71 (by decide) ?_
      refine ql_ldcs (tx := "ut") (k := 1) C (by decide +kernel) dX12_commandHere_72 ?_
      refine ql_VI (As := [.int (1 : Int32), va_rf (some (D.2 (200 + 1)))]) (rest := []) C S htab hlocks hl qy_X12_isWord qi_X12_isWord qs_X12_isWord gw_2084 (ci := 13) rfl w (fun b w => qm_X12_isWord l hl9 D _ b (1 : Int32) (some (D.2 (200 + 1))) _ _ w) rfl ⟨Nat.le_of_ble_eq_true rfl, Nat.le_of_ble_eq_true rfl⟩ ⟨rfl, rfl⟩ (by exact Nat.le_of_ble_eq_true rfl) (fun b e9 => by cases e9; rfl) dX12_commandHere_74 ⟨Nat.le_of_ble_eq_true rfl, Nat.le_of_ble_eq_true rfl⟩ ⟨Nat.le_of_ble_eq_true rfl, Nat.le_of_ble_eq_true rfl⟩ (fun x54 h H locs S w => ?_)
      refine W.cs (cells' := 0) (slots' := 0) rfl rfl ?_
      refine lv_if_eq (tgt := 102) C.1.1 C.1.2.1 dX12_commandHere_77 (by decide) (fun c9 => ?_) (fun c9 => ?_)
      · replace w := ql_if w c9
        refine lv_iconst (v := (0 : Int32)) C.1.1 C.1.2.1 dX12_commandHere_102 (by decide) ?_
        exact ql_zret C S hr hlocks dX12_commandHere_103 ⟨Nat.le_of_ble_eq_true rfl, Nat.le_of_ble_eq_true rfl⟩ w
      · replace w := ql_ifn w c9
        refine ql_aload_n (r := (some a0)) C dX12_commandHere_80 rfl (lv_at hl 1 rfl) ?_
        refine lv_iload_n C.1.1 C.1.2.1 dX12_commandHere_81 rfl (lv_at hl 0 rfl) ?_
        refine ql_VI (As := [.int (((4 : Int32) * x1) + (1 : Int32))]) (rest := []) C S htab hlocks hl qy_X12_bothHere qi_X12_bothHere qs_X12_bothHere gw_2099 (ci := 13) rfl w (fun b w => qm_X12_bothHere l hl9 D _ b (((4 : Int32) * x1) + (1 : Int32)) _ _ w) rfl ⟨Nat.le_of_ble_eq_true rfl, Nat.le_of_ble_eq_true rfl⟩ ⟨rfl, rfl⟩ (by exact Nat.le_of_ble_eq_true rfl) (fun b e9 => by cases e9; rfl) dX12_commandHere_82 ⟨Nat.le_of_ble_eq_true rfl, Nat.le_of_ble_eq_true rfl⟩ ⟨Nat.le_of_ble_eq_true rfl, Nat.le_of_ble_eq_true rfl⟩ (fun x56 h H locs S w => ?_)
        refine W.cs (cells' := 0) (slots' := 0) rfl rfl ?_
        refine lv_if_eq (tgt := 102) C.1.1 C.1.2.1 dX12_commandHere_85 (by decide) (fun c9 => ?_) (fun c9 => ?_)
        · replace w := ql_if w c9
          refine lv_iconst (v := (0 : Int32)) C.1.1 C.1.2.1 dX12_commandHere_102 (by decide) ?_
          exact ql_zret C S hr hlocks dX12_commandHere_103 ⟨Nat.le_of_ble_eq_true rfl, Nat.le_of_ble_eq_true rfl⟩ w
        · replace w := ql_ifn w c9
          refine ql_aload_n (r := (some a0)) C dX12_commandHere_88 rfl (lv_at hl 1 rfl) ?_
          refine lv_iload_n C.1.1 C.1.2.1 dX12_commandHere_89 rfl (lv_at hl 0 rfl) ?_
          refine lv_iconst (v := (2 : Int32)) C.1.1 C.1.2.1 dX12_commandHere_90 (by decide) ?_
          refine lv_iadd C.1.1 C.1.2.1 dX12_commandHere_91 ?_
          refine ql_VI (As := [.int ((((4 : Int32) * x1) + (1 : Int32)) + (2 : Int32))]) (rest := []) C S htab hlocks hl qy_X12_noteHere qi_X12_noteHere qs_X12_noteHere gw_2094 (ci := 13) rfl w (fun b w => qm_X12_noteHere l hl9 D _ b ((((4 : Int32) * x1) + (1 : Int32)) + (2 : Int32)) _ _ w) rfl ⟨Nat.le_of_ble_eq_true rfl, Nat.le_of_ble_eq_true rfl⟩ ⟨rfl, rfl⟩ (by exact Nat.le_of_ble_eq_true rfl) (fun b e9 => by cases e9; rfl) dX12_commandHere_92 ⟨Nat.le_of_ble_eq_true rfl, Nat.le_of_ble_eq_true rfl⟩ ⟨Nat.le_of_ble_eq_true rfl, Nat.le_of_ble_eq_true rfl⟩ (fun x58 h H locs S w => ?_)
          refine W.cs (cells' := 0) (slots' := 0) rfl rfl ?_
          refine lv_if_eq (tgt := 102) C.1.1 C.1.2.1 dX12_commandHere_95 (by decide) (fun c9 => ?_) (fun c9 => ?_)
          · replace w := ql_if w c9
            refine lv_iconst (v := (0 : Int32)) C.1.1 C.1.2.1 dX12_commandHere_102 (by decide) ?_
            exact ql_zret C S hr hlocks dX12_commandHere_103 ⟨Nat.le_of_ble_eq_true rfl, Nat.le_of_ble_eq_true rfl⟩ w
          · replace w := ql_ifn w c9
            refine lv_iconst (v := (1 : Int32)) C.1.1 C.1.2.1 dX12_commandHere_98 (by decide) ?_
            refine lv_goto (tgt := 103) C.1.1 C.1.2.1 dX12_commandHere_99 (by decide) ?_
            exact ql_zret C S hr hlocks dX12_commandHere_103 ⟨Nat.le_of_ble_eq_true rfl, Nat.le_of_ble_eq_true rfl⟩ w
  · replace w := ql_ifn w c9
    refine ql_aload_n (r := (some a0)) C dX12_commandHere_18 rfl (lv_at hl 1 rfl) ?_
    refine lv_iconst (v := (0 : Int32)) C.1.1 C.1.2.1 dX12_commandHere_19 (by decide) ?_
    refine ql_ldcs (tx := "dd") (k := 0) C (by decide +kernel) dX12_commandHere_20 ?_
    refine ql_VI (As := [.int (0 : Int32), va_rf (some (D.2 (200 + 0)))]) (rest := []) C S htab hlocks hl qy_X12_isWord qi_X12_isWord qs_X12_isWord gw_2084 (ci := 13) rfl w (fun b w => qm_X12_isWord l hl9 D _ b (0 : Int32) (some (D.2 (200 + 0))) _ _ w) rfl ⟨Nat.le_of_ble_eq_true rfl, Nat.le_of_ble_eq_true rfl⟩ ⟨rfl, rfl⟩ (by exact Nat.le_of_ble_eq_true rfl) (fun b e9 => by cases e9; rfl) dX12_commandHere_22 ⟨Nat.le_of_ble_eq_true rfl, Nat.le_of_ble_eq_true rfl⟩ ⟨Nat.le_of_ble_eq_true rfl, Nat.le_of_ble_eq_true rfl⟩ (fun x60 h H locs S w => ?_)
    refine W.cs (cells' := 0) (slots' := 0) rfl rfl ?_
    refine lv_if_eq (tgt := 59) C.1.1 C.1.2.1 dX12_commandHere_25 (by decide) (fun c9 => ?_) (fun c9 => ?_)
    · replace w := ql_if w c9
      refine lv_iconst (v := (0 : Int32)) C.1.1 C.1.2.1 dX12_commandHere_59 (by decide) ?_
      exact ql_zret C S hr hlocks dX12_commandHere_60 ⟨Nat.le_of_ble_eq_true rfl, Nat.le_of_ble_eq_true rfl⟩ w
    · replace w := ql_ifn w c9
      refine ql_aload_n (r := (some a0)) C dX12_commandHere_28 rfl (lv_at hl 1 rfl) ?_
      refine lv_iload_n C.1.1 C.1.2.1 dX12_commandHere_29 rfl (lv_at hl 0 rfl) ?_
      refine ql_VI (As := [.int (((4 : Int32) * x1) + (1 : Int32))]) (rest := []) C S htab hlocks hl qy_X12_figures qi_X12_figures qs_X12_figures gw_2090 (ci := 13) rfl w (fun b w => qm_X12_figures l hl9 D _ b (((4 : Int32) * x1) + (1 : Int32)) _ _ w) rfl ⟨Nat.le_of_ble_eq_true rfl, Nat.le_of_ble_eq_true rfl⟩ ⟨rfl, rfl⟩ (by exact Nat.le_of_ble_eq_true rfl) (fun b e9 => by cases e9; rfl) dX12_commandHere_30 ⟨Nat.le_of_ble_eq_true rfl, Nat.le_of_ble_eq_true rfl⟩ ⟨Nat.le_of_ble_eq_true rfl, Nat.le_of_ble_eq_true rfl⟩ (fun x62 h H locs S w => ?_)
      refine W.cs (cells' := 0) (slots' := 0) rfl rfl ?_
      refine lv_if_eq (tgt := 59) C.1.1 C.1.2.1 dX12_commandHere_33 (by decide) (fun c9 => ?_) (fun c9 => ?_)
      · replace w := ql_if w c9
        refine lv_iconst (v := (0 : Int32)) C.1.1 C.1.2.1 dX12_commandHere_59 (by decide) ?_
        exact ql_zret C S hr hlocks dX12_commandHere_60 ⟨Nat.le_of_ble_eq_true rfl, Nat.le_of_ble_eq_true rfl⟩ w
      · replace w := ql_ifn w c9
        refine ql_aload_n (r := (some a0)) C dX12_commandHere_36 rfl (lv_at hl 1 rfl) ?_
        refine lv_bipush (v := (32 : Int32)) C.1.1 C.1.2.1 dX12_commandHere_37 (by decide) ?_
        refine ql_VI (As := [.int (32 : Int32)]) (rest := []) C S htab hlocks hl qy_X12_skips qi_X12_skips qs_X12_skips gw_2075 (ci := 13) rfl w (fun b w => qm_X12_skips l hl9 D _ b (32 : Int32) _ _ w) rfl ⟨Nat.le_of_ble_eq_true rfl, Nat.le_of_ble_eq_true rfl⟩ ⟨rfl, rfl⟩ (by exact Nat.le_of_ble_eq_true rfl) (fun b e9 => by cases e9; rfl) dX12_commandHere_39 ⟨Nat.le_of_ble_eq_true rfl, Nat.le_of_ble_eq_true rfl⟩ ⟨Nat.le_of_ble_eq_true rfl, Nat.le_of_ble_eq_true rfl⟩ (fun x64 h H locs S w => ?_)
        refine W.cs (cells' := 0) (slots' := 0) rfl rfl ?_
        refine lv_if_eq (tgt := 59) C.1.1 C.1.2.1 dX12_commandHere_42 (by decide) (fun c9 => ?_) (fun c9 => ?_)
        · replace w := ql_if w c9
          refine lv_iconst (v := (0 : Int32)) C.1.1 C.1.2.1 dX12_commandHere_59 (by decide) ?_
          exact ql_zret C S hr hlocks dX12_commandHere_60 ⟨Nat.le_of_ble_eq_true rfl, Nat.le_of_ble_eq_true rfl⟩ w
        · replace w := ql_ifn w c9
          refine ql_aload_n (r := (some a0)) C dX12_commandHere_45 rfl (lv_at hl 1 rfl) ?_
          refine lv_iload_n C.1.1 C.1.2.1 dX12_commandHere_46 rfl (lv_at hl 0 rfl) ?_
          refine lv_iconst (v := (2 : Int32)) C.1.1 C.1.2.1 dX12_commandHere_47 (by decide) ?_
          refine lv_iadd C.1.1 C.1.2.1 dX12_commandHere_48 ?_
          refine ql_VI (As := [.int ((((4 : Int32) * x1) + (1 : Int32)) + (2 : Int32))]) (rest := []) C S htab hlocks hl qy_X12_noteHere qi_X12_noteHere qs_X12_noteHere gw_2094 (ci := 13) rfl w (fun b w => qm_X12_noteHere l hl9 D _ b ((((4 : Int32) * x1) + (1 : Int32)) + (2 : Int32)) _ _ w) rfl ⟨Nat.le_of_ble_eq_true rfl, Nat.le_of_ble_eq_true rfl⟩ ⟨rfl, rfl⟩ (by exact Nat.le_of_ble_eq_true rfl) (fun b e9 => by cases e9; rfl) dX12_commandHere_49 ⟨Nat.le_of_ble_eq_true rfl, Nat.le_of_ble_eq_true rfl⟩ ⟨Nat.le_of_ble_eq_true rfl, Nat.le_of_ble_eq_true rfl⟩ (fun x66 h H locs S w => ?_)
          refine W.cs (cells' := 0) (slots' := 0) rfl rfl ?_
          refine lv_if_eq (tgt := 59) C.1.1 C.1.2.1 dX12_commandHere_52 (by decide) (fun c9 => ?_) (fun c9 => ?_)
          · replace w := ql_if w c9
            refine lv_iconst (v := (0 : Int32)) C.1.1 C.1.2.1 dX12_commandHere_59 (by decide) ?_
            exact ql_zret C S hr hlocks dX12_commandHere_60 ⟨Nat.le_of_ble_eq_true rfl, Nat.le_of_ble_eq_true rfl⟩ w
          · replace w := ql_ifn w c9
            refine lv_iconst (v := (1 : Int32)) C.1.1 C.1.2.1 dX12_commandHere_55 (by decide) ?_
            refine lv_goto (tgt := 60) C.1.1 C.1.2.1 dX12_commandHere_56 (by decide) ?_
            exact ql_zret C S hr hlocks dX12_commandHere_60 ⟨Nat.le_of_ble_eq_true rfl, Nat.le_of_ble_eq_true rfl⟩ w
def qw_X12_isScript_10 (σ : Nat → Nat) (a0 : Nat) (Q : Int32 → ql_H → Prop) : Nat → ql_H → Prop
  | 0, _ => False
  | n + 1, h =>
    ql_rv h (some a0) 13 fun b1 => qw_X12_commandHere σ b1  h (fun x1 h =>
    if x1 = 0 then (ql_nz .boolean (0 : Int32) ∧ Q (0 : Int32) h) else (ql_gI h (some a0) 13 18 fun x3 =>
    ql_pV h (some a0) 13 18 (.int (x3 + (1 : Int32))) fun h =>
    ql_rv h (some a0) 13 fun b4 => qw_X12_skips b4 (59 : Int32) h (fun x4 h =>
    if x4 = 0 then (ql_gI h (some a0) 13 16 fun x6 =>
    ql_gI h (some a0) 13 9 fun x7 =>
    if x6 = x7 then (ql_nz .boolean (1 : Int32) ∧ Q (1 : Int32) h) else (ql_nz .boolean (0 : Int32) ∧ Q (0 : Int32) h)) else (qw_X12_isScript_10 σ a0 Q n  h))))
def qw_X12_isScript (σ : Nat → Nat) (a0 : Nat) (h : ql_H) (Q : Int32 → ql_H → Prop) : Prop :=
ql_pV h (some a0) 13 16 (.int (0 : Int32)) fun h =>
ql_pV h (some a0) 13 18 (.int (0 : Int32)) fun h =>
qw_X12_isScript_10 σ a0 Q ql_FU  h
set_option maxHeartbeats 4000000 in
set_option maxRecDepth 100000 in
theorem qm_X12_isScript (l : Launch) (hl9 : l.stackTraces = false) (D : ql_D) (h0 : ql_H) (a0 : Nat) (Q : Int32 → ql_H → Prop) (X : String → ql_H → Prop) (w : qw_X12_isScript D.2 a0 h0 Q) : ql_M D l yX12_isScript cX12_isScript 1 (some .boolean) ({ frames := 14, cells := 0, slots := 0, locals := 225 } : Room) h0 [.ref a0] (ql_rI Q) X 0 0 := by
  refine ql_ofW (by decide) (Nat.le_of_ble_eq_true rfl) ?_
  intro p e s m below meth c ls C hr hlocks hnm htab S hl
  have hl : lv_has ls 1 [(0, .ref a0)] := hl
  have hB10 : ∀ n : Nat, ∀ (h : ql_H) (H : Heap) (locs : List Loc) (ls : Array Slot), ql_S D h0 s H locs h → lv_has ls 1 [(0, .ref a0)] → qw_X12_isScript_10 D.2 a0 Q n h → W p l e ({ frames := 14, cells := 0, slots := 0, locals := 225 } : Room) s m ([.ref a0] : List Value).toArray below meth c H locs 0 0 (vx_MQ below (ql_Q D h0 (ql_rI Q)) (ql_X D h0 X) ([.ref a0] : List Value).toArray s 0 0 (ql_A h0)) (F0 m 10 ls []) := by
    intro n
    induction n with
    | zero => intro h H locs ls S hl w; rw [qw_X12_isScript_10] at w; exact w.elim
    | succ n ih =>
      intro h H locs ls S hl w
      rw [qw_X12_isScript_10] at w
      refine ql_aload_n (r := (some a0)) C dX12_isScript_10 rfl (lv_at hl 0 rfl) ?_
      refine ql_VI (As := []) (rest := []) C S htab hlocks hl qy_X12_commandHere qi_X12_commandHere qs_X12_commandHere gw_2071 (ci := 13) rfl w (fun b w => qm_X12_commandHere l hl9 D _ b _ _ w) rfl ⟨Nat.le_of_ble_eq_true rfl, Nat.le_of_ble_eq_true rfl⟩ ⟨rfl, rfl⟩ (by exact Nat.le_of_ble_eq_true rfl) (fun b e9 => by cases e9; rfl) dX12_isScript_11 ⟨Nat.le_of_ble_eq_true rfl, Nat.le_of_ble_eq_true rfl⟩ ⟨Nat.le_of_ble_eq_true rfl, Nat.le_of_ble_eq_true rfl⟩ (fun x1 h H locs S w => ?_)
      refine W.cs (cells' := 0) (slots' := 0) rfl rfl ?_
      refine lv_if_ne (tgt := 19) C.1.1 C.1.2.1 dX12_isScript_14 (by decide) (fun c9 => ?_) (fun c9 => ?_)
      · replace w := ql_ifn w c9
        refine ql_aload_n (r := (some a0)) C dX12_isScript_19 rfl (lv_at hl 0 rfl) ?_
        refine lv_dup C.1.1 C.1.2.1 dX12_isScript_20 (ql_catR _) ?_
        refine ql_getI C S qf_13_18 gw_1686 dX12_isScript_21 w (fun x3 w => ?_)
        refine lv_iconst (v := (1 : Int32)) C.1.1 C.1.2.1 dX12_isScript_24 (by decide) ?_
        refine lv_iadd C.1.1 C.1.2.1 dX12_isScript_25 ?_
        refine ql_putV C S qf_13_18 gw_1686 (tyX12) tyX12_ok nmX12 rfl dX12_isScript_26 (v := .int (x3 + (1 : Int32))) rfl rfl w (fun h H locs S w => ?_)
        refine ql_aload_n (r := (some a0)) C dX12_isScript_29 rfl (lv_at hl 0 rfl) ?_
        refine lv_bipush (v := (59 : Int32)) C.1.1 C.1.2.1 dX12_isScript_30 (by decide) ?_
        refine ql_VI (As := [.int (59 : Int32)]) (rest := []) C S htab hlocks hl qy_X12_skips qi_X12_skips qs_X12_skips gw_2075 (ci := 13) rfl w (fun b w => qm_X12_skips l hl9 D _ b (59 : Int32) _ _ w) rfl ⟨Nat.le_of_ble_eq_true rfl, Nat.le_of_ble_eq_true rfl⟩ ⟨rfl, rfl⟩ (by exact Nat.le_of_ble_eq_true rfl) (fun b e9 => by cases e9; rfl) dX12_isScript_32 ⟨Nat.le_of_ble_eq_true rfl, Nat.le_of_ble_eq_true rfl⟩ ⟨Nat.le_of_ble_eq_true rfl, Nat.le_of_ble_eq_true rfl⟩ (fun x4 h H locs S w => ?_)
        refine W.cs (cells' := 0) (slots' := 0) rfl rfl ?_
        refine lv_if_ne (tgt := 10) C.1.1 C.1.2.1 dX12_isScript_35 (by decide) (fun c9 => ?_) (fun c9 => ?_)
        · replace w := ql_ifn w c9
          exact ih  _ _ _ _ S (lv_sub hl [0] rfl) w
        · replace w := ql_if w c9
          refine ql_aload_n (r := (some a0)) C dX12_isScript_38 rfl (lv_at hl 0 rfl) ?_
          refine ql_getI C S qf_13_16 gw_1684 dX12_isScript_39 w (fun x6 w => ?_)
          refine ql_aload_n (r := (some a0)) C dX12_isScript_42 rfl (lv_at hl 0 rfl) ?_
          refine ql_getI C S qf_13_9 gw_1677 dX12_isScript_43 w (fun x7 w => ?_)
          refine lv_icmp_ne (tgt := 53) C.1.1 C.1.2.1 dX12_isScript_46 (by decide) (fun c9 => ?_) (fun c9 => ?_)
          · replace w := ql_ifn w c9
            refine lv_iconst (v := (0 : Int32)) C.1.1 C.1.2.1 dX12_isScript_53 (by decide) ?_
            exact ql_zret C S hr hlocks dX12_isScript_54 ⟨Nat.le_of_ble_eq_true rfl, Nat.le_of_ble_eq_true rfl⟩ w
          · replace w := ql_if w c9
            refine lv_iconst (v := (1 : Int32)) C.1.1 C.1.2.1 dX12_isScript_49 (by decide) ?_
            refine lv_goto (tgt := 54) C.1.1 C.1.2.1 dX12_isScript_50 (by decide) ?_
            exact ql_zret C S hr hlocks dX12_isScript_54 ⟨Nat.le_of_ble_eq_true rfl, Nat.le_of_ble_eq_true rfl⟩ w
      · replace w := ql_if w c9
        refine lv_iconst (v := (0 : Int32)) C.1.1 C.1.2.1 dX12_isScript_17 (by decide) ?_
        exact ql_zret C S hr hlocks dX12_isScript_18 ⟨Nat.le_of_ble_eq_true rfl, Nat.le_of_ble_eq_true rfl⟩ w
  unfold qw_X12_isScript at w
  refine ql_aload_n (r := (some a0)) C dX12_isScript_0 rfl (lv_at hl 0 rfl) ?_
  refine lv_iconst (v := (0 : Int32)) C.1.1 C.1.2.1 dX12_isScript_1 (by decide) ?_
  refine ql_putV C S qf_13_16 gw_1684 (tyX12) tyX12_ok nmX12 rfl dX12_isScript_2 (v := .int (0 : Int32)) rfl rfl w (fun h H locs S w => ?_)
  refine ql_aload_n (r := (some a0)) C dX12_isScript_5 rfl (lv_at hl 0 rfl) ?_
  refine lv_iconst (v := (0 : Int32)) C.1.1 C.1.2.1 dX12_isScript_6 (by decide) ?_
  refine ql_putV C S qf_13_18 gw_1686 (tyX12) tyX12_ok nmX12 rfl dX12_isScript_7 (v := .int (0 : Int32)) rfl rfl w (fun h H locs S w => ?_)
  exact hB10 ql_FU  _ _ _ _ S (lv_sub hl [0] rfl) w
