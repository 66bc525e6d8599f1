def qw_X12_figures_34 (a0 : Nat) (Q : Int32 → ql_H → Prop) : Nat → Int32 → Int32 → ql_H → Prop
  | 0, _, _, _ => False
  | n + 1, xl1, xl2, h =>
    if (3 : Int32) ≤ xl2 then (ql_nz .boolean (1 : Int32) ∧ Q (1 : Int32) h) else (ql_rv h (some a0) 13 fun b1 => qw_X12_here b1  h (fun x1 h =>
    qw_X12_in x1 (48 : Int32) (57 : Int32) h (fun x3 h =>
    if x3 = 0 then (ql_nz .boolean (1 : Int32) ∧ Q (1 : Int32) h) else (ql_gR h (some a0) 13 17 fun r4 =>
    ql_gR h (some a0) 13 17 fun r5 =>
    ql_lI h r5 0 xl1 fun x6 =>
    ql_rv h (some a0) 13 fun b7 => qw_X12_here b7  h (fun x7 h =>
    ql_sI h r4 0 xl1 ((((10 : Int32) * x6) + x7) - (48 : Int32)) fun h =>
    ql_gI h (some a0) 13 16 fun x9 =>
    ql_pV h (some a0) 13 16 (.int (x9 + (1 : Int32))) fun h =>
    qw_X12_figures_34 a0 Q n xl1 (xl2 + (1 : Int32)) h)))))
def qw_X12_figures (a0 : Nat) (xp1 : Int32) (h : ql_H) (Q : Int32 → ql_H → Prop) : Prop :=
ql_rv h (some a0) 13 fun b10 => qw_X12_skips b10 (32 : Int32) h (fun x10 h =>
if x10 = 0 then (ql_nz .boolean (0 : Int32) ∧ Q (0 : Int32) h) else (ql_rv h (some a0) 13 fun b12 => qw_X12_here b12  h (fun x12 h =>
qw_X12_in x12 (48 : Int32) (57 : Int32) h (fun x14 h =>
if x14 = 0 then (ql_nz .boolean (0 : Int32) ∧ Q (0 : Int32) h) else (ql_gR h (some a0) 13 17 fun r15 =>
ql_sI h r15 0 xp1 (0 : Int32) fun h =>
qw_X12_figures_34 a0 Q ql_FU xp1 (0 : Int32) h)))))
set_option maxHeartbeats 4000000 in
set_option maxRecDepth 100000 in
theorem qm_X12_figures (l : Launch) (hl9 : l.stackTraces = false) (D : ql_D) (h0 : ql_H) (a0 : Nat) (xp1 : Int32) (Q : Int32 → ql_H → Prop) (X : String → ql_H → Prop) (w : qw_X12_figures a0 xp1 h0 Q) : ql_M D l yX12_figures cX12_figures 3 (some .boolean) ({ frames := 6, cells := 0, slots := 0, locals := 105 } : Room) h0 [.ref a0, .int xp1] (ql_rI Q) X 0 0 := by
  refine ql_ofW (by decide) (Nat.le_of_ble_eq_true rfl) ?_
  intro p e s m below meth c ls C hr hlocks hnm htab S hl
  have hl : lv_has ls 3 [(0, .ref a0), (1, .int xp1)] := hl
  have hB34 : ∀ n : Nat, ∀ (xl1 : Int32) (xl2 : Int32) (h : ql_H) (H : Heap) (locs : List Loc) (ls : Array Slot), ql_S D h0 s H locs h → lv_has ls 3 [(0, .ref a0), (1, .int xl1), (2, .int xl2)] → qw_X12_figures_34 a0 Q n xl1 xl2 h → W p l e ({ frames := 6, cells := 0, slots := 0, locals := 105 } : Room) s m ([.ref a0, .int xp1] : List Value).toArray below meth c H locs 0 0 (vx_MQ below (ql_Q D h0 (ql_rI Q)) (ql_X D h0 X) ([.ref a0, .int xp1] : List Value).toArray s 0 0 (ql_A h0)) (F0 m 34 ls []) := by
    intro n
    induction n with
    | zero => intro xl1 xl2 h H locs ls S hl w; rw [qw_X12_figures_34] at w; exact w.elim
    | succ n ih =>
      intro xl1 xl2 h H locs ls S hl w
      rw [qw_X12_figures_34] at w
      refine lv_iload_n C.1.1 C.1.2.1 dX12_figures_34 rfl (lv_at hl 2 rfl) ?_
      refine lv_iconst (v := (3 : Int32)) C.1.1 C.1.2.1 dX12_figures_35 (by decide) ?_
      refine lv_icmp_ge (tgt := 92) C.1.1 C.1.2.1 dX12_figures_36 (by decide) (fun c9 => ?_) (fun c9 => ?_)
      · replace w := ql_if w c9
        refine lv_iconst (v := (1 : Int32)) C.1.1 C.1.2.1 dX12_figures_92 (by decide) ?_
        exact ql_zret C S hr hlocks dX12_figures_93 ⟨Nat.le_of_ble_eq_true rfl, Nat.le_of_ble_eq_true rfl⟩ w
      · replace w := ql_ifn w c9
        refine ql_aload_n (r := (some a0)) C dX12_figures_39 rfl (lv_at hl 0 rfl) ?_
        refine ql_VI (As := []) (rest := []) C S htab hlocks hl qy_X12_here qi_X12_here qs_X12_here gw_2079 (ci := 13) rfl w (fun b w => qm_X12_here l hl9 D _ b _ _ w) rfl ⟨Nat.le_of_ble_eq_true rfl, Nat.le_of_ble_eq_true rfl⟩ ⟨rfl, rfl⟩ (by exact Nat.le_of_ble_eq_true rfl) (fun b e9 => by cases e9; rfl) dX12_figures_40 ⟨Nat.le_of_ble_eq_true rfl, Nat.le_of_ble_eq_true rfl⟩ ⟨Nat.le_of_ble_eq_true rfl, Nat.le_of_ble_eq_true rfl⟩ (fun x1 h H locs S w => ?_)
        refine W.cs (cells' := 0) (slots' := 0) rfl rfl ?_
        refine lv_bipush (v := (48 : Int32)) C.1.1 C.1.2.1 dX12_figures_43 (by decide) ?_
        refine lv_bipush (v := (57 : Int32)) C.1.1 C.1.2.1 dX12_figures_45 (by decide) ?_
        refine ql_SI (As := [.int x1, .int (48 : Int32), .int (57 : Int32)]) (rest := []) C S htab hlocks hl qy_X12_in qi_X12_in gw_1735 (qm_X12_in l hl9 D _ x1 (48 : Int32) (57 : Int32) _ _ w) rfl ⟨Nat.le_of_ble_eq_true rfl, Nat.le_of_ble_eq_true rfl⟩ ⟨rfl, rfl⟩ (by exact Nat.le_of_ble_eq_true rfl) rfl dX12_figures_47 ⟨Nat.le_of_ble_eq_true rfl, Nat.le_of_ble_eq_true rfl⟩ ⟨Nat.le_of_ble_eq_true rfl, Nat.le_of_ble_eq_true rfl⟩ (fun x3 h H locs S w => ?_)
        refine W.cs (cells' := 0) (slots' := 0) rfl rfl ?_
        refine lv_if_eq (tgt := 92) C.1.1 C.1.2.1 dX12_figures_50 (by decide) (fun c9 => ?_) (fun c9 => ?_)
        · replace w := ql_if w c9
          refine lv_iconst (v := (1 : Int32)) C.1.1 C.1.2.1 dX12_figures_92 (by decide) ?_
          exact ql_zret C S hr hlocks dX12_figures_93 ⟨Nat.le_of_ble_eq_true rfl, Nat.le_of_ble_eq_true rfl⟩ w
        · replace w := ql_ifn w c9
          refine ql_aload_n (r := (some a0)) C dX12_figures_53 rfl (lv_at hl 0 rfl) ?_
          refine ql_getR C S qf_13_17 gw_1685 dX12_figures_54 w (fun r4 w => ?_)
          refine lv_iload_n C.1.1 C.1.2.1 dX12_figures_57 rfl (lv_at hl 1 rfl) ?_
          refine lv_bipush (v := (10 : Int32)) C.1.1 C.1.2.1 dX12_figures_58 (by decide) ?_
          refine ql_aload_n (r := (some a0)) C dX12_figures_60 rfl (lv_at hl 0 rfl) ?_
          refine ql_getR C S qf_13_17 gw_1685 dX12_figures_61 w (fun r5 w => ?_)
          refine lv_iload_n C.1.1 C.1.2.1 dX12_figures_64 rfl (lv_at hl 1 rfl) ?_
          refine ql_iald C S dX12_figures_65 w (fun x6 w => ?_)
          refine lv_imul C.1.1 C.1.2.1 dX12_figures_66 ?_
          refine ql_aload_n (r := (some a0)) C dX12_figures_67 rfl (lv_at hl 0 rfl) ?_
          refine ql_VI (As := []) (rest := [.int ((10 : Int32) * x6), .int xl1, va_rf r4]) C S htab hlocks hl qy_X12_here qi_X12_here qs_X12_here gw_2079 (ci := 13) rfl w (fun b w => qm_X12_here l hl9 D _ b _ _ w) rfl ⟨Nat.le_of_ble_eq_true rfl, Nat.le_of_ble_eq_true rfl⟩ ⟨rfl, rfl⟩ (by generalize r4 = z0; cases z0 <;> exact Nat.le_of_ble_eq_true rfl) (fun b e9 => by cases e9; rfl) dX12_figures_68 ⟨Nat.le_of_ble_eq_true rfl, Nat.le_of_ble_eq_true rfl⟩ ⟨Nat.le_of_ble_eq_true rfl, Nat.le_of_ble_eq_true rfl⟩ (fun x7 h H locs S w => ?_)
          refine W.cs (cells' := 0) (slots' := 0) rfl rfl ?_
          refine lv_iadd C.1.1 C.1.2.1 dX12_figures_71 ?_
          refine lv_bipush (v := (48 : Int32)) C.1.1 C.1.2.1 dX12_figures_72 (by decide) ?_
          refine lv_isub C.1.1 C.1.2.1 dX12_figures_74 ?_
          refine ql_iast C S dX12_figures_75 w (fun h H locs S w => ?_)
          refine ql_aload_n (r := (some a0)) C dX12_figures_76 rfl (lv_at hl 0 rfl) ?_
          refine lv_dup C.1.1 C.1.2.1 dX12_figures_77 (ql_catR _) ?_
          refine ql_getI C S qf_13_16 gw_1684 dX12_figures_78 w (fun x9 w => ?_)
          refine lv_iconst (v := (1 : Int32)) C.1.1 C.1.2.1 dX12_figures_81 (by decide) ?_
          refine lv_iadd C.1.1 C.1.2.1 dX12_figures_82 ?_
          refine ql_putV C S qf_13_16 gw_1684 (tyX12) tyX12_ok nmX12 rfl dX12_figures_83 (v := .int (x9 + (1 : Int32))) rfl rfl w (fun h H locs S w => ?_)
          refine lv_iinc (v := (xl2 + (1 : Int32))) (lv' := [(2, .int (xl2 + (1 : Int32))), (0, .ref a0), (1, .int xl1)]) C.1.1 C.1.2.1 dX12_figures_86 hl (k := 2) rfl rfl (by decide) rfl (fun ls hl => ?_)
          refine lv_goto (tgt := 34) C.1.1 C.1.2.1 dX12_figures_89 (by decide) ?_
          exact ih xl1 (xl2 + (1 : Int32)) _ _ _ _ S (lv_sub hl [1, 2, 0] rfl) w
  unfold qw_X12_figures at w
  refine ql_aload_n (r := (some a0)) C dX12_figures_0 rfl (lv_at hl 0 rfl) ?_
  refine lv_bipush (v := (32 : Int32)) C.1.1 C.1.2.1 dX12_figures_1 (by decide) ?_
  refine ql_VI (As := [.int (32 : Int32)]) (rest := []) C S htab hlocks hl qy_X12_skips qi_X12_skips qs_X12_skips gw_2075 (ci := 13) rfl w (fun b w => qm_X12_skips l hl9 D _ b (32 : Int32) _ _ w) rfl ⟨Nat.le_of_ble_eq_true rfl, Nat.le_of_ble_eq_true rfl⟩ ⟨rfl, rfl⟩ (by exact Nat.le_of_ble_eq_true rfl) (fun b e9 => by cases e9; rfl) dX12_figures_3 ⟨Nat.le_of_ble_eq_true rfl, Nat.le_of_ble_eq_true rfl⟩ ⟨Nat.le_of_ble_eq_true rfl, Nat.le_of_ble_eq_true rfl⟩ (fun x10 h H locs S w => ?_)
  refine W.cs (cells' := 0) (slots' := 0) rfl rfl ?_
  refine lv_if_eq (tgt := 23) C.1.1 C.1.2.1 dX12_figures_6 (by decide) (fun c9 => ?_) (fun c9 => ?_)
  · replace w := ql_if w c9
    refine lv_iconst (v := (0 : Int32)) C.1.1 C.1.2.1 dX12_figures_23 (by decide) ?_
    exact ql_zret C S hr hlocks dX12_figures_24 ⟨Nat.le_of_ble_eq_true rfl, Nat.le_of_ble_eq_true rfl⟩ w
  · replace w := ql_ifn w c9
    refine ql_aload_n (r := (some a0)) C dX12_figures_9 rfl (lv_at hl 0 rfl) ?_
    refine ql_VI (As := []) (rest := []) C S htab hlocks hl qy_X12_here qi_X12_here qs_X12_here gw_2079 (ci := 13) rfl w (fun b w => qm_X12_here l hl9 D _ b _ _ w) rfl ⟨Nat.le_of_ble_eq_true rfl, Nat.le_of_ble_eq_true rfl⟩ ⟨rfl, rfl⟩ (by exact Nat.le_of_ble_eq_true rfl) (fun b e9 => by cases e9; rfl) dX12_figures_10 ⟨Nat.le_of_ble_eq_true rfl, Nat.le_of_ble_eq_true rfl⟩ ⟨Nat.le_of_ble_eq_true rfl, Nat.le_of_ble_eq_true rfl⟩ (fun x12 h H locs S w => ?_)
    refine W.cs (cells' := 0) (slots' := 0) rfl rfl ?_
    refine lv_bipush (v := (48 : Int32)) C.1.1 C.1.2.1 dX12_figures_13 (by decide) ?_
    refine lv_bipush (v := (57 : Int32)) C.1.1 C.1.2.1 dX12_figures_15 (by decide) ?_
    refine ql_SI (As := [.int x12, .int (48 : Int32), .int (57 : Int32)]) (rest := []) C S htab hlocks hl qy_X12_in qi_X12_in gw_1735 (qm_X12_in l hl9 D _ x12 (48 : Int32) (57 : Int32) _ _ w) rfl ⟨Nat.le_of_ble_eq_true rfl, Nat.le_of_ble_eq_true rfl⟩ ⟨rfl, rfl⟩ (by exact Nat.le_of_ble_eq_true rfl) rfl dX12_figures_17 ⟨Nat.le_of_ble_eq_true rfl, Nat.le_of_ble_eq_true rfl⟩ ⟨Nat.le_of_ble_eq_true rfl, Nat.le_of_ble_eq_true rfl⟩ (fun x14 h H locs S w => ?_)
    refine W.cs (cells' := 0) (slots' := 0) rfl rfl ?_
    refine lv_if_ne (tgt := 25) C.1.1 C.1.2.1 dX12_figures_20 (by decide) (fun c9 => ?_) (fun c9 => ?_)
    · replace w := ql_ifn w c9
      refine ql_aload_n (r := (some a0)) C dX12_figures_25 rfl (lv_at hl 0 rfl) ?_
      refine ql_getR C S qf_13_17 gw_1685 dX12_figures_26 w (fun r15 w => ?_)
      refine lv_iload_n C.1.1 C.1.2.1 dX12_figures_29 rfl (lv_at hl 1 rfl) ?_
      refine lv_iconst (v := (0 : Int32)) C.1.1 C.1.2.1 dX12_figures_30 (by decide) ?_
      refine ql_iast C S dX12_figures_31 w (fun h H locs S w => ?_)
      refine lv_iconst (v := (0 : Int32)) C.1.1 C.1.2.1 dX12_figures_32 (by decide) ?_
      refine lv_istore_n (lv' := [(2, .int (0 : Int32)), (0, .ref a0), (1, .int xp1)]) C.1.1 C.1.2.1 dX12_figures_33 rfl hl (by decide) rfl (fun ls hl => ?_)
      exact hB34 ql_FU xp1 (0 : Int32) _ _ _ _ S (lv_sub hl [1, 2, 0] rfl) w
    · replace w := ql_if w c9
      refine lv_iconst (v := (0 : Int32)) C.1.1 C.1.2.1 dX12_figures_23 (by decide) ?_
      exact ql_zret C S hr hlocks dX12_figures_24 ⟨Nat.le_of_ble_eq_true rfl, Nat.le_of_ble_eq_true rfl⟩ w
def qw_X12_noteHere (a0 : Nat) (xp1 : Int32) (h : ql_H) (Q : Int32 → ql_H → Prop) : Prop :=
ql_rv h (some a0) 13 fun b1 => qw_X12_here b1  h (fun x1 h =>
qw_X12_isNote x1 h (fun x3 h =>
if x3 = 0 then (ql_nz .boolean (0 : Int32) ∧ Q (0 : Int32) h) else (ql_gR h (some a0) 13 17 fun r4 =>
ql_rv h (some a0) 13 fun b5 => qw_X12_here b5  h (fun x5 h =>
ql_sI h r4 0 xp1 x5 fun h =>
ql_gI h (some a0) 13 16 fun x7 =>
ql_pV h (some a0) 13 16 (.int (x7 + (1 : Int32))) fun h =>
ql_nz .boolean (1 : Int32) ∧ Q (1 : Int32) h))))
set_option maxHeartbeats 4000000 in
set_option maxRecDepth 100000 in
theorem qm_X12_noteHere (l : Launch) (hl9 : l.stackTraces = false) (D : ql_D) (h0 : ql_H) (a0 : Nat) (xp1 : Int32) (Q : Int32 → ql_H → Prop) (X : String → ql_H → Prop) (w : qw_X12_noteHere a0 xp1 h0 Q) : ql_M D l yX12_noteHere cX12_noteHere 2 (some .boolean) ({ frames := 6, cells := 0, slots := 0, locals := 106 } : Room) h0 [.ref a0, .int xp1] (ql_rI Q) X 0 0 := by
  refine ql_ofW (by decide) (Nat.le_of_ble_eq_true rfl) ?_
  intro p e s m below meth c ls C hr hlocks hnm htab S hl
  have hl : lv_has ls 2 [(0, .ref a0), (1, .int xp1)] := hl
  unfold qw_X12_noteHere at w
  refine ql_aload_n (r := (some a0)) C dX12_noteHere_0 rfl (lv_at hl 0 rfl) ?_
  refine ql_VI (As := []) (rest := []) C S htab hlocks hl qy_X12_here qi_X12_here qs_X12_here gw_2079 (ci := 13) rfl w (fun b w => qm_X12_here l hl9 D _ b _ _ w) rfl ⟨Nat.le_of_ble_eq_true rfl, Nat.le_of_ble_eq_true rfl⟩ ⟨rfl, rfl⟩ (by exact Nat.le_of_ble_eq_true rfl) (fun b e9 => by cases e9; rfl) dX12_noteHere_1 ⟨Nat.le_of_ble_eq_true rfl, Nat.le_of_ble_eq_true rfl⟩ ⟨Nat.le_of_ble_eq_true rfl, Nat.le_of_ble_eq_true rfl⟩ (fun x1 h H locs S w => ?_)
  refine W.cs (cells' := 0) (slots' := 0) rfl rfl ?_
  refine ql_SI (As := [.int x1]) (rest := []) C S htab hlocks hl qy_X12_isNote qi_X12_isNote gw_1738 (qm_X12_isNote l hl9 D _ x1 _ _ w) rfl ⟨Nat.le_of_ble_eq_true rfl, Nat.le_of_ble_eq_true rfl⟩ ⟨rfl, rfl⟩ (by exact Nat.le_of_ble_eq_true rfl) rfl dX12_noteHere_4 ⟨Nat.le_of_ble_eq_true rfl, Nat.le_of_ble_eq_true rfl⟩ ⟨Nat.le_of_ble_eq_true rfl, Nat.le_of_ble_eq_true rfl⟩ (fun x3 h H locs S w => ?_)
  refine W.cs (cells' := 0) (slots' := 0) rfl rfl ?_
  refine lv_if_ne (tgt := 12) C.1.1 C.1.2.1 dX12_noteHere_7 (by decide) (fun c9 => ?_) (fun c9 => ?_)
  · replace w := ql_ifn w c9
    refine ql_aload_n (r := (some a0)) C dX12_noteHere_12 rfl (lv_at hl 0 rfl) ?_
    refine ql_getR C S qf_13_17 gw_1685 dX12_noteHere_13 w (fun r4 w => ?_)
    refine lv_iload_n C.1.1 C.1.2.1 dX12_noteHere_16 rfl (lv_at hl 1 rfl) ?_
    refine ql_aload_n (r := (some a0)) C dX12_noteHere_17 rfl (lv_at hl 0 rfl) ?_
    refine ql_VI (As := []) (rest := [.int xp1, va_rf r4]) C S htab hlocks hl qy_X12_here qi_X12_here qs_X12_here gw_2079 (ci := 13) rfl w (fun b w => qm_X12_here l hl9 D _ b _ _ w) rfl ⟨Nat.le_of_ble_eq_true rfl, Nat.le_of_ble_eq_true rfl⟩ ⟨rfl, rfl⟩ (by generalize r4 = z0; cases z0 <;> exact Nat.le_of_ble_eq_true rfl) (fun b e9 => by cases e9; rfl) dX12_noteHere_18 ⟨Nat.le_of_ble_eq_true rfl, Nat.le_of_ble_eq_true rfl⟩ ⟨Nat.le_of_ble_eq_true rfl, Nat.le_of_ble_eq_true rfl⟩ (fun x5 h H locs S w => ?_)
    refine W.cs (cells' := 0) (slots' := 0) rfl rfl ?_
    refine ql_iast C S dX12_noteHere_21 w (fun h H locs S w => ?_)
    refine ql_aload_n (r := (some a0)) C dX12_noteHere_22 rfl (lv_at hl 0 rfl) ?_
    refine lv_dup C.1.1 C.1.2.1 dX12_noteHere_23 (ql_catR _) ?_
    refine ql_getI C S qf_13_16 gw_1684 dX12_noteHere_24 w (fun x7 w => ?_)
    refine lv_iconst (v := (1 : Int32)) C.1.1 C.1.2.1 dX12_noteHere_27 (by decide) ?_
    refine lv_iadd C.1.1 C.1.2.1 dX12_noteHere_28 ?_
    refine ql_putV C S qf_13_16 gw_1684 (tyX12) tyX12_ok nmX12 rfl dX12_noteHere_29 (v := .int (x7 + (1 : Int32))) rfl rfl w (fun h H locs S w => ?_)
    refine lv_iconst (v := (1 : Int32)) C.1.1 C.1.2.1 dX12_noteHere_32 (by decide) ?_
    exact ql_zret C S hr hlocks dX12_noteHere_33 ⟨Nat.le_of_ble_eq_true rfl, Nat.le_of_ble_eq_true rfl⟩ w
  · replace w := ql_if w c9
    refine lv_iconst (v := (0 : Int32)) C.1.1 C.1.2.1 dX12_noteHere_10 (by decide) ?_
    exact ql_zret C S hr hlocks dX12_noteHere_11 ⟨Nat.le_of_ble_eq_true rfl, Nat.le_of_ble_eq_true rfl⟩ w
def qw_X12_bothHere (a0 : Nat) (xp1 : Int32) (h : ql_H) (Q : Int32 → ql_H → Prop) : Prop :=
ql_rv h (some a0) 13 fun b1 => qw_X12_figures b1 xp1 h (fun x1 h =>
if x1 = 0 then (ql_nz .boolean (0 : Int32) ∧ Q (0 : Int32) h) else (ql_rv h (some a0) 13 fun b3 => qw_X12_figures b3 (xp1 + (1 : Int32)) h (fun x3 h =>
if x3 = 0 then (ql_nz .boolean (0 : Int32) ∧ Q (0 : Int32) h) else (ql_nz .boolean (1 : Int32) ∧ Q (1 : Int32) h))))
set_option maxHeartbeats 4000000 in
set_option maxRecDepth 100000 in
theorem qm_X12_bothHere (l : Launch) (hl9 : l.stackTraces = false) (D : ql_D) (h0 : ql_H) (a0 : Nat) (xp1 : Int32) (Q : Int32 → ql_H → Prop) (X : String → ql_H → Prop) (w : qw_X12_bothHere a0 xp1 h0 Q) : ql_M D l yX12_bothHere cX12_bothHere 2 (some .boolean) ({ frames := 8, cells := 0, slots := 0, locals := 135 } : Room) h0 [.ref a0, .int xp1] (ql_rI Q) X 0 0 := by
  refine ql_ofW (by decide) (Nat.le_of_ble_eq_true rfl) ?_
  intro p e s m below meth c ls C hr hlocks hnm htab S hl
  have hl : lv_has ls 2 [(0, .ref a0), (1, .int xp1)] := hl
  unfold qw_X12_bothHere at w
  refine ql_aload_n (r := (some a0)) C dX12_bothHere_0 rfl (lv_at hl 0 rfl) ?_
  refine lv_iload_n C.1.1 C.1.2.1 dX12_bothHere_1 rfl (lv_at hl 1 rfl) ?_
  refine ql_VI (As := [.int xp1]) (rest := []) C S htab hlocks hl qy_X12_figures qi_X12_figures qs_X12_figures gw_2090 (ci := 13) rfl w (fun b w => qm_X12_figures l hl9 D _ b xp1 _ _ w) rfl ⟨Nat.le_of_ble_eq_true rfl, Nat.le_of_ble_eq_true rfl⟩ ⟨rfl, rfl⟩ (by exact Nat.le_of_ble_eq_true rfl) (fun b e9 => by cases e9; rfl) dX12_bothHere_2 ⟨Nat.le_of_ble_eq_true rfl, Nat.le_of_ble_eq_true rfl⟩ ⟨Nat.le_of_ble_eq_true rfl, Nat.le_of_ble_eq_true rfl⟩ (fun x1 h H locs S w => ?_)
  refine W.cs (cells' := 0) (slots' := 0) rfl rfl ?_
  refine lv_if_eq (tgt := 22) C.1.1 C.1.2.1 dX12_bothHere_5 (by decide) (fun c9 => ?_) (fun c9 => ?_)
  · replace w := ql_if w c9
    refine lv_iconst (v := (0 : Int32)) C.1.1 C.1.2.1 dX12_bothHere_22 (by decide) ?_
    exact ql_zret C S hr hlocks dX12_bothHere_23 ⟨Nat.le_of_ble_eq_true rfl, Nat.le_of_ble_eq_true rfl⟩ w
  · replace w := ql_ifn w c9
    refine ql_aload_n (r := (some a0)) C dX12_bothHere_8 rfl (lv_at hl 0 rfl) ?_
    refine lv_iload_n C.1.1 C.1.2.1 dX12_bothHere_9 rfl (lv_at hl 1 rfl) ?_
    refine lv_iconst (v := (1 : Int32)) C.1.1 C.1.2.1 dX12_bothHere_10 (by decide) ?_
    refine lv_iadd C.1.1 C.1.2.1 dX12_bothHere_11 ?_
    refine ql_VI (As := [.int (xp1 + (1 : Int32))]) (rest := []) C S htab hlocks hl qy_X12_figures qi_X12_figures qs_X12_figures gw_2090 (ci := 13) rfl w (fun b w => qm_X12_figures l hl9 D _ b (xp1 + (1 : Int32)) _ _ w) rfl ⟨Nat.le_of_ble_eq_true rfl, Nat.le_of_ble_eq_true rfl⟩ ⟨rfl, rfl⟩ (by exact Nat.le_of_ble_eq_true rfl) (fun b e9 => by cases e9; rfl) dX12_bothHere_12 ⟨Nat.le_of_ble_eq_true rfl, Nat.le_of_ble_eq_true rfl⟩ ⟨Nat.le_of_ble_eq_true rfl, Nat.le_of_ble_eq_true rfl⟩ (fun x3 h H locs S w => ?_)
    refine W.cs (cells' := 0) (slots' := 0) rfl rfl ?_
    refine lv_if_eq (tgt := 22) C.1.1 C.1.2.1 dX12_bothHere_15 (by decide) (fun c9 => ?_) (fun c9 => ?_)
    · replace w := ql_if w c9
      refine lv_iconst (v := (0 : Int32)) C.1.1 C.1.2.1 dX12_bothHere_22 (by decide) ?_
      exact ql_zret C S hr hlocks dX12_bothHere_23 ⟨Nat.le_of_ble_eq_true rfl, Nat.le_of_ble_eq_true rfl⟩ w
    · replace w := ql_ifn w c9
      refine lv_iconst (v := (1 : Int32)) C.1.1 C.1.2.1 dX12_bothHere_18 (by decide) ?_
      refine lv_goto (tgt := 23) C.1.1 C.1.2.1 dX12_bothHere_19 (by decide) ?_
      exact ql_zret C S hr hlocks dX12_bothHere_23 ⟨Nat.le_of_ble_eq_true rfl, Nat.le_of_ble_eq_true rfl⟩ w
def qw_X12_carries (a0 : Nat) (xp1 : Int32) (h : ql_H) (Q : Int32 → ql_H → Prop) : Prop :=
ql_gR h (some a0) 13 17 fun r1 =>
ql_lI h r1 0 (xp1 + (1 : Int32)) fun x2 =>
ql_gR h (some a0) 13 17 fun r3 =>
ql_lI h r3 0 (xp1 + (2 : Int32)) fun x4 =>
ql_gR h (some a0) 13 17 fun r5 =>
ql_lI h r5 0 (xp1 + (3 : Int32)) fun x6 =>
ql_gR h (some a0) 13 17 fun r7 =>
ql_lI h r7 0 xp1 fun x8 =>
if x8 = (0 : Int32) then (ql_rv h (some a0) 13 fun b9 => qw_X12_addClause b9 x2 (x6.toUInt32 % 65536).toInt32 h (fun x9 h =>
Q x9 h)) else if x8 = (1 : Int32) then (ql_rv h (some a0) 13 fun b11 => qw_X12_insertNote b11 x2 x4 (x6.toUInt32 % 65536).toInt32 h (fun x11 h =>
Q x11 h)) else if x8 = (2 : Int32) then (ql_rv h (some a0) 13 fun b13 => qw_X12_replaceNote b13 x2 x4 (x6.toUInt32 % 65536).toInt32 h (fun x13 h =>
Q x13 h)) else if x8 = (3 : Int32) then (ql_rv h (some a0) 13 fun b15 => qw_X12_deleteNote b15 x2 x4 h (fun x15 h =>
Q x15 h)) else if x8 = (4 : Int32) then (ql_rv h (some a0) 13 fun b17 => qw_X12_setSunset b17 x2 x4 h (fun x17 h =>
Q x17 h)) else if x8 = (5 : Int32) then (ql_rv h (some a0) 13 fun b19 => qw_X12_cite b19 x2 x4 h (fun x19 h =>
Q x19 h)) else if x8 = (6 : Int32) then (ql_rv h (some a0) 13 fun b21 => qw_X12_uncite b21 x2 x4 h (fun x21 h =>
Q x21 h)) else if x8 = (7 : Int32) then (ql_rv h (some a0) 13 fun b23 => qw_X12_repeal b23 x2 h (fun x23 h =>
Q x23 h)) else if x8 = (8 : Int32) then (ql_rv h (some a0) 13 fun b25 => qw_X12_consolidate b25  h (fun x25 h =>
Q x25 h)) else (ql_rv h (some a0) 13 fun b27 => qw_X12_advance b27 x2 h (fun x27 h =>
Q x27 h))
set_option maxHeartbeats 4000000 in
set_option maxRecDepth 100000 in
theorem qm_X12_carries (l : Launch) (hl9 : l.stackTraces = false) (D : ql_D) (h0 : ql_H) (a0 : Nat) (xp1 : Int32) (Q : Int32 → ql_H → Prop) (X : String → ql_H → Prop) (w : qw_X12_carries a0 xp1 h0 Q) : ql_M D l yX12_carries cX12_carries 5 (some .int) ({ frames := 10, cells := 0, slots := 0, locals := 174 } : Room) h0 [.ref a0, .int xp1] (ql_rI Q) X 0 0 := by
  refine ql_ofW (by decide) (Nat.le_of_ble_eq_true rfl) ?_
  intro p e s m below meth c ls C hr hlocks hnm htab S hl
  have hl : lv_has ls 5 [(0, .ref a0), (1, .int xp1)] := hl
  unfold qw_X12_carries at w
  refine ql_aload_n (r := (some a0)) C dX12_carries_0 rfl (lv_at hl 0 rfl) ?_
  refine ql_getR C S qf_13_17 gw_1685 dX12_carries_1 w (fun r1 w => ?_)
  refine lv_iload_n C.1.1 C.1.2.1 dX12_carries_4 rfl (lv_at hl 1 rfl) ?_
  refine lv_iconst (v := (1 : Int32)) C.1.1 C.1.2.1 dX12_carries_5 (by decide) ?_
  refine lv_iadd C.1.1 C.1.2.1 dX12_carries_6 ?_
  refine ql_iald C S dX12_carries_7 w (fun x2 w => ?_)
  refine lv_istore_n (lv' := [(2, .int x2), (0, .ref a0), (1, .int xp1)]) C.1.1 C.1.2.1 dX12_carries_8 rfl hl (by decide) rfl (fun ls hl => ?_)
  refine ql_aload_n (r := (some a0)) C dX12_carries_9 rfl (lv_at hl 1 rfl) ?_
  refine ql_getR C S qf_13_17 gw_1685 dX12_carries_10 w (fun r3 w => ?_)
  refine lv_iload_n C.1.1 C.1.2.1 dX12_carries_13 rfl (lv_at hl 2 rfl) ?_
  refine lv_iconst (v := (2 : Int32)) C.1.1 C.1.2.1 dX12_carries_14 (by decide) ?_
  refine lv_iadd C.1.1 C.1.2.1 dX12_carries_15 ?_
  refine ql_iald C S dX12_carries_16 w (fun x4 w => ?_)
  refine lv_istore_n (lv' := [(3, .int x4), (2, .int x2), (0, .ref a0), (1, .int xp1)]) C.1.1 C.1.2.1 dX12_carries_17 rfl hl (by decide) rfl (fun ls hl => ?_)
  refine ql_aload_n (r := (some a0)) C dX12_carries_18 rfl (lv_at hl 2 rfl) ?_
  refine ql_getR C S qf_13_17 gw_1685 dX12_carries_19 w (fun r5 w => ?_)
  refine lv_iload_n C.1.1 C.1.2.1 dX12_carries_22 rfl (lv_at hl 3 rfl) ?_
  refine lv_iconst (v := (3 : Int32)) C.1.1 C.1.2.1 dX12_carries_23 (by decide) ?_
  refine lv_iadd C.1.1 C.1.2.1 dX12_carries_24 ?_
  refine ql_iald C S dX12_carries_25 w (fun x6 w => ?_)
  refine lv_i2c C.1.1 C.1.2.1 dX12_carries_26 rfl ?_
  refine lv_istore (lv' := [(4, .int (x6.toUInt32 % 65536).toInt32), (3, .int x4), (2, .int x2), (0, .ref a0), (1, .int xp1)]) C.1.1 C.1.2.1 dX12_carries_27 hl (by decide) rfl (fun ls hl => ?_)
  refine ql_aload_n (r := (some a0)) C dX12_carries_29 rfl (lv_at hl 3 rfl) ?_
  refine ql_getR C S qf_13_17 gw_1685 dX12_carries_30 w (fun r7 w => ?_)
  refine lv_iload_n C.1.1 C.1.2.1 dX12_carries_33 rfl (lv_at hl 4 rfl) ?_
  refine ql_iald C S dX12_carries_34 w (fun x8 w => ?_)
  by_cases c9 : x8 = (0 : Int32)
  · replace w := ql_if w c9
    refine lv_tableIn (tgt := 84) (off := 49) C.1.1 C.1.2.1 dX12_carries_35 (by rw [c9]; decide) (by rw [c9]; decide) (by rw [c9]; rfl) (by decide) ?_
    refine ql_aload_n (r := (some a0)) C dX12_carries_84 rfl (lv_at hl 3 rfl) ?_
    refine lv_iload_n C.1.1 C.1.2.1 dX12_carries_85 rfl (lv_at hl 2 rfl) ?_
    refine lv_iload C.1.1 C.1.2.1 dX12_carries_86 (lv_at hl 0 rfl) ?_
    refine ql_VI (As := [.int x2, .int (x6.toUInt32 % 65536).toInt32]) (rest := []) C S htab hlocks hl qy_X12_addClause qi_X12_addClause qs_X12_addClause gw_2115 (ci := 13) rfl w (fun b w => qm_X12_addClause l hl9 D _ b x2 (x6.toUInt32 % 65536).toInt32 _ _ w) rfl ⟨Nat.le_of_ble_eq_true rfl, Nat.le_of_ble_eq_true rfl⟩ ⟨rfl, rfl⟩ (by exact Nat.le_of_ble_eq_true rfl) (fun b e9 => by cases e9; rfl) dX12_carries_88 ⟨Nat.le_of_ble_eq_true rfl, Nat.le_of_ble_eq_true rfl⟩ ⟨Nat.le_of_ble_eq_true rfl, Nat.le_of_ble_eq_true rfl⟩ (fun x9 h H locs S w => ?_)
    refine W.cs (cells' := 0) (slots' := 0) rfl rfl ?_
    exact ql_iret C S hr hlocks dX12_carries_91 ⟨Nat.le_of_ble_eq_true rfl, Nat.le_of_ble_eq_true rfl⟩ w
  replace w := ql_ifn w c9
  have e0 := c9
  clear c9
  by_cases c9 : x8 = (1 : Int32)
  · replace w := ql_if w c9
    refine lv_tableIn (tgt := 92) (off := 57) C.1.1 C.1.2.1 dX12_carries_35 (by rw [c9]; decide) (by rw [c9]; decide) (by rw [c9]; rfl) (by decide) ?_
    refine ql_aload_n (r := (some a0)) C dX12_carries_92 rfl (lv_at hl 3 rfl) ?_
    refine lv_iload_n C.1.1 C.1.2.1 dX12_carries_93 rfl (lv_at hl 2 rfl) ?_
    refine lv_iload_n C.1.1 C.1.2.1 dX12_carries_94 rfl (lv_at hl 1 rfl) ?_
    refine lv_iload C.1.1 C.1.2.1 dX12_carries_95 (lv_at hl 0 rfl) ?_
    refine ql_VI (As := [.int x2, .int x4, .int (x6.toUInt32 % 65536).toInt32]) (rest := []) C S htab hlocks hl qy_X12_insertNote qi_X12_insertNote qs_X12_insertNote gw_2116 (ci := 13) rfl w (fun b w => qm_X12_insertNote l hl9 D _ b x2 x4 (x6.toUInt32 % 65536).toInt32 _ _ w) rfl ⟨Nat.le_of_ble_eq_true rfl, Nat.le_of_ble_eq_true rfl⟩ ⟨rfl, rfl⟩ (by exact Nat.le_of_ble_eq_true rfl) (fun b e9 => by cases e9; rfl) dX12_carries_97 ⟨Nat.le_of_ble_eq_true rfl, Nat.le_of_ble_eq_true rfl⟩ ⟨Nat.le_of_ble_eq_true rfl, Nat.le_of_ble_eq_true rfl⟩ (fun x11 h H locs S w => ?_)
    refine W.cs (cells' := 0) (slots' := 0) rfl rfl ?_
    exact ql_iret C S hr hlocks dX12_carries_100 ⟨Nat.le_of_ble_eq_true rfl, Nat.le_of_ble_eq_true rfl⟩ w
  replace w := ql_ifn w c9
  have e1 := c9
  clear c9
  by_cases c9 : x8 = (2 : Int32)
  · replace w := ql_if w c9
    refine lv_tableIn (tgt := 101) (off := 66) C.1.1 C.1.2.1 dX12_carries_35 (by rw [c9]; decide) (by rw [c9]; decide) (by rw [c9]; rfl) (by decide) ?_
    refine ql_aload_n (r := (some a0)) C dX12_carries_101 rfl (lv_at hl 3 rfl) ?_
    refine lv_iload_n C.1.1 C.1.2.1 dX12_carries_102 rfl (lv_at hl 2 rfl) ?_
    refine lv_iload_n C.1.1 C.1.2.1 dX12_carries_103 rfl (lv_at hl 1 rfl) ?_
    refine lv_iload C.1.1 C.1.2.1 dX12_carries_104 (lv_at hl 0 rfl) ?_
    refine ql_VI (As := [.int x2, .int x4, .int (x6.toUInt32 % 65536).toInt32]) (rest := []) C S htab hlocks hl qy_X12_replaceNote qi_X12_replaceNote qs_X12_replaceNote gw_2117 (ci := 13) rfl w (fun b w => qm_X12_replaceNote l hl9 D _ b x2 x4 (x6.toUInt32 % 65536).toInt32 _ _ w) rfl ⟨Nat.le_of_ble_eq_true rfl, Nat.le_of_ble_eq_true rfl⟩ ⟨rfl, rfl⟩ (by exact Nat.le_of_ble_eq_true rfl) (fun b e9 => by cases e9; rfl) dX12_carries_106 ⟨Nat.le_of_ble_eq_true rfl, Nat.le_of_ble_eq_true rfl⟩ ⟨Nat.le_of_ble_eq_true rfl, Nat.le_of_ble_eq_true rfl⟩ (fun x13 h H locs S w => ?_)
    refine W.cs (cells' := 0) (slots' := 0) rfl rfl ?_
    exact ql_iret C S hr hlocks dX12_carries_109 ⟨Nat.le_of_ble_eq_true rfl, Nat.le_of_ble_eq_true rfl⟩ w
  replace w := ql_ifn w c9
  have e2 := c9
  clear c9
  by_cases c9 : x8 = (3 : Int32)
  · replace w := ql_if w c9
    refine lv_tableIn (tgt := 110) (off := 75) C.1.1 C.1.2.1 dX12_carries_35 (by rw [c9]; decide) (by rw [c9]; decide) (by rw [c9]; rfl) (by decide) ?_
    refine ql_aload_n (r := (some a0)) C dX12_carries_110 rfl (lv_at hl 3 rfl) ?_
    refine lv_iload_n C.1.1 C.1.2.1 dX12_carries_111 rfl (lv_at hl 2 rfl) ?_
    refine lv_iload_n C.1.1 C.1.2.1 dX12_carries_112 rfl (lv_at hl 1 rfl) ?_
    refine ql_VI (As := [.int x2, .int x4]) (rest := []) C S htab hlocks hl qy_X12_deleteNote qi_X12_deleteNote qs_X12_deleteNote gw_2118 (ci := 13) rfl w (fun b w => qm_X12_deleteNote l hl9 D _ b x2 x4 _ _ w) rfl ⟨Nat.le_of_ble_eq_true rfl, Nat.le_of_ble_eq_true rfl⟩ ⟨rfl, rfl⟩ (by exact Nat.le_of_ble_eq_true rfl) (fun b e9 => by cases e9; rfl) dX12_carries_113 ⟨Nat.le_of_ble_eq_true rfl, Nat.le_of_ble_eq_true rfl⟩ ⟨Nat.le_of_ble_eq_true rfl, Nat.le_of_ble_eq_true rfl⟩ (fun x15 h H locs S w => ?_)
    refine W.cs (cells' := 0) (slots' := 0) rfl rfl ?_
    exact ql_iret C S hr hlocks dX12_carries_116 ⟨Nat.le_of_ble_eq_true rfl, Nat.le_of_ble_eq_true rfl⟩ w
  replace w := ql_ifn w c9
  have e3 := c9
  clear c9
  by_cases c9 : x8 = (4 : Int32)
  · replace w := ql_if w c9
    refine lv_tableIn (tgt := 117) (off := 82) C.1.1 C.1.2.1 dX12_carries_35 (by rw [c9]; decide) (by rw [c9]; decide) (by rw [c9]; rfl) (by decide) ?_
    refine ql_aload_n (r := (some a0)) C dX12_carries_117 rfl (lv_at hl 3 rfl) ?_
    refine lv_iload_n C.1.1 C.1.2.1 dX12_carries_118 rfl (lv_at hl 2 rfl) ?_
    refine lv_iload_n C.1.1 C.1.2.1 dX12_carries_119 rfl (lv_at hl 1 rfl) ?_
    refine ql_VI (As := [.int x2, .int x4]) (rest := []) C S htab hlocks hl qy_X12_setSunset qi_X12_setSunset qs_X12_setSunset gw_2119 (ci := 13) rfl w (fun b w => qm_X12_setSunset l hl9 D _ b x2 x4 _ _ w) rfl ⟨Nat.le_of_ble_eq_true rfl, Nat.le_of_ble_eq_true rfl⟩ ⟨rfl, rfl⟩ (by exact Nat.le_of_ble_eq_true rfl) (fun b e9 => by cases e9; rfl) dX12_carries_120 ⟨Nat.le_of_ble_eq_true rfl, Nat.le_of_ble_eq_true rfl⟩ ⟨Nat.le_of_ble_eq_true rfl, Nat.le_of_ble_eq_true rfl⟩ (fun x17 h H locs S w => ?_)
    refine W.cs (cells' := 0) (slots' := 0) rfl rfl ?_
    exact ql_iret C S hr hlocks dX12_carries_123 ⟨Nat.le_of_ble_eq_true rfl, Nat.le_of_ble_eq_true rfl⟩ w
  replace w := ql_ifn w c9
  have e4 := c9
  clear c9
  by_cases c9 : x8 = (5 : Int32)
  · replace w := ql_if w c9
    refine lv_tableIn (tgt := 124) (off := 89) C.1.1 C.1.2.1 dX12_carries_35 (by rw [c9]; decide) (by rw [c9]; decide) (by rw [c9]; rfl) (by decide) ?_
    refine ql_aload_n (r := (some a0)) C dX12_carries_124 rfl (lv_at hl 3 rfl) ?_
    refine lv_iload_n C.1.1 C.1.2.1 dX12_carries_125 rfl (lv_at hl 2 rfl) ?_
    refine lv_iload_n C.1.1 C.1.2.1 dX12_carries_126 rfl (lv_at hl 1 rfl) ?_
    refine ql_VI (As := [.int x2, .int x4]) (rest := []) C S htab hlocks hl qy_X12_cite qi_X12_cite qs_X12_cite gw_2120 (ci := 13) rfl w (fun b w => qm_X12_cite l hl9 D _ b x2 x4 _ _ w) rfl ⟨Nat.le_of_ble_eq_true rfl, Nat.le_of_ble_eq_true rfl⟩ ⟨rfl, rfl⟩ (by exact Nat.le_of_ble_eq_true rfl) (fun b e9 => by cases e9; rfl) dX12_carries_127 ⟨Nat.le_of_ble_eq_true rfl, Nat.le_of_ble_eq_true rfl⟩ ⟨Nat.le_of_ble_eq_true rfl, Nat.le_of_ble_eq_true rfl⟩ (fun x19 h H locs S w => ?_)
    refine W.cs (cells' := 0) (slots' := 0) rfl rfl ?_
    exact ql_iret C S hr hlocks dX12_carries_130 ⟨Nat.le_of_ble_eq_true rfl, Nat.le_of_ble_eq_true rfl⟩ w
  replace w := ql_ifn w c9
  have e5 := c9
  clear c9
  by_cases c9 : x8 = (6 : Int32)
  · replace w := ql_if w c9
    refine lv_tableIn (tgt := 131) (off := 96) C.1.1 C.1.2.1 dX12_carries_35 (by rw [c9]; decide) (by rw [c9]; decide) (by rw [c9]; rfl) (by decide) ?_
    refine ql_aload_n (r := (some a0)) C dX12_carries_131 rfl (lv_at hl 3 rfl) ?_
    refine lv_iload_n C.1.1 C.1.2.1 dX12_carries_132 rfl (lv_at hl 2 rfl) ?_
    refine lv_iload_n C.1.1 C.1.2.1 dX12_carries_133 rfl (lv_at hl 1 rfl) ?_
    refine ql_VI (As := [.int x2, .int x4]) (rest := []) C S htab hlocks hl qy_X12_uncite qi_X12_uncite qs_X12_uncite gw_2121 (ci := 13) rfl w (fun b w => qm_X12_uncite l hl9 D _ b x2 x4 _ _ w) rfl ⟨Nat.le_of_ble_eq_true rfl, Nat.le_of_ble_eq_true rfl⟩ ⟨rfl, rfl⟩ (by exact Nat.le_of_ble_eq_true rfl) (fun b e9 => by cases e9; rfl) dX12_carries_134 ⟨Nat.le_of_ble_eq_true rfl, Nat.le_of_ble_eq_true rfl⟩ ⟨Nat.le_of_ble_eq_true rfl, Nat.le_of_ble_eq_true rfl⟩ (fun x21 h H locs S w => ?_)
    refine W.cs (cells' := 0) (slots' := 0) rfl rfl ?_
    exact ql_iret C S hr hlocks dX12_carries_137 ⟨Nat.le_of_ble_eq_true rfl, Nat.le_of_ble_eq_true rfl⟩ w
  replace w := ql_ifn w c9
  have e6 := c9
  clear c9
  by_cases c9 : x8 = (7 : Int32)
  · replace w := ql_if w c9
    refine lv_tableIn (tgt := 138) (off := 103) C.1.1 C.1.2.1 dX12_carries_35 (by rw [c9]; decide) (by rw [c9]; decide) (by rw [c9]; rfl) (by decide) ?_
    refine ql_aload_n (r := (some a0)) C dX12_carries_138 rfl (lv_at hl 3 rfl) ?_
    refine lv_iload_n C.1.1 C.1.2.1 dX12_carries_139 rfl (lv_at hl 2 rfl) ?_
    refine ql_VI (As := [.int x2]) (rest := []) C S htab hlocks hl qy_X12_repeal qi_X12_repeal qs_X12_repeal gw_2122 (ci := 13) rfl w (fun b w => qm_X12_repeal l hl9 D _ b x2 _ _ w) rfl ⟨Nat.le_of_ble_eq_true rfl, Nat.le_of_ble_eq_true rfl⟩ ⟨rfl, rfl⟩ (by exact Nat.le_of_ble_eq_true rfl) (fun b e9 => by cases e9; rfl) dX12_carries_140 ⟨Nat.le_of_ble_eq_true rfl, Nat.le_of_ble_eq_true rfl⟩ ⟨Nat.le_of_ble_eq_true rfl, Nat.le_of_ble_eq_true rfl⟩ (fun x23 h H locs S w => ?_)
    refine W.cs (cells' := 0) (slots' := 0) rfl rfl ?_
    exact ql_iret C S hr hlocks dX12_carries_143 ⟨Nat.le_of_ble_eq_true rfl, Nat.le_of_ble_eq_true rfl⟩ w
  replace w := ql_ifn w c9
  have e7 := c9
  clear c9
  by_cases c9 : x8 = (8 : Int32)
  · replace w := ql_if w c9
    refine lv_tableIn (tgt := 144) (off := 109) C.1.1 C.1.2.1 dX12_carries_35 (by rw [c9]; decide) (by rw [c9]; decide) (by rw [c9]; rfl) (by decide) ?_
    refine ql_aload_n (r := (some a0)) C dX12_carries_144 rfl (lv_at hl 3 rfl) ?_
    refine ql_VI (As := []) (rest := []) C S htab hlocks hl qy_X12_consolidate qi_X12_consolidate qs_X12_consolidate gw_2123 (ci := 13) rfl w (fun b w => qm_X12_consolidate l hl9 D _ b _ _ w) rfl ⟨Nat.le_of_ble_eq_true rfl, Nat.le_of_ble_eq_true rfl⟩ ⟨rfl, rfl⟩ (by exact Nat.le_of_ble_eq_true rfl) (fun b e9 => by cases e9; rfl) dX12_carries_145 ⟨Nat.le_of_ble_eq_true rfl, Nat.le_of_ble_eq_true rfl⟩ ⟨Nat.le_of_ble_eq_true rfl, Nat.le_of_ble_eq_true rfl⟩ (fun x25 h H locs S w => ?_)
    refine W.cs (cells' := 0) (slots' := 0) rfl rfl ?_
    exact ql_iret C S hr hlocks dX12_carries_148 ⟨Nat.le_of_ble_eq_true rfl, Nat.le_of_ble_eq_true rfl⟩ w
  replace w := ql_ifn w c9
  have e8 := c9
  clear c9
  refine lv_tableOut (tgt := 149) C.1.1 C.1.2.1 dX12_carries_35 (ql_sw (n := 9) (by decide) (fun k hk => ?_)) (by decide) ?_
  · rcases (show k = 0 ∨ k = 1 ∨ k = 2 ∨ k = 3 ∨ k = 4 ∨ k = 5 ∨ k = 6 ∨ k = 7 ∨ k = 8 by omega) with rfl | rfl | rfl | rfl | rfl | rfl | rfl | rfl | rfl
    · exact e0
    · exact e1
    · exact e2
    · exact e3
    · exact e4
    · exact e5
    · exact e6
    · exact e7
    · exact e8
  refine ql_aload_n (r := (some a0)) C dX12_carries_149 rfl (lv_at hl 3 rfl) ?_
  refine lv_iload_n C.1.1 C.1.2.1 dX12_carries_150 rfl (lv_at hl 2 rfl) ?_
  refine ql_VI (As := [.int x2]) (rest := []) C S htab hlocks hl qy_X12_advance qi_X12_advance qs_X12_advance gw_2124 (ci := 13) rfl w (fun b w => qm_X12_advance l hl9 D _ b x2 _ _ w) rfl ⟨Nat.le_of_ble_eq_true rfl, Nat.le_of_ble_eq_true rfl⟩ ⟨rfl, rfl⟩ (by exact Nat.le_of_ble_eq_true rfl) (fun b e9 => by cases e9; rfl) dX12_carries_151 ⟨Nat.le_of_ble_eq_true rfl, Nat.le_of_ble_eq_true rfl⟩ ⟨Nat.le_of_ble_eq_true rfl, Nat.le_of_ble_eq_true rfl⟩ (fun x27 h H locs S w => ?_)
  refine W.cs (cells' := 0) (slots' := 0) rfl rfl ?_
  exact ql_iret C S hr hlocks dX12_carries_154 ⟨Nat.le_of_ble_eq_true rfl, Nat.le_of_ble_eq_true rfl⟩ w
def qw_X12_errorPosition_13 (a0 : Nat) (Q : Int32 → ql_H → Prop) (rs0 : Option Nat) (xs1 : Int32) (h : ql_H) : Prop :=
ql_rv h rs0 13 fun b1 => qw_X12_fails b1 xs1 h (fun x1 h =>
if x1 = 0 then (ql_gI h (some a0) 13 10 fun x3 =>
Q x3 h) else (Q (0 : Int32) h))
def qw_X12_errorPosition (a0 : Nat) (h : ql_H) (Q : Int32 → ql_H → Prop) : Prop :=
ql_gI h (some a0) 13 10 fun x4 =>
if 0 ≤ x4 then (qw_X12_errorPosition_13 a0 Q (some a0) (0 : Int32) h) else (qw_X12_errorPosition_13 a0 Q (some a0) (1 : Int32) h)
set_option maxHeartbeats 4000000 in
set_option maxRecDepth 100000 in
theorem qm_X12_errorPosition (l : Launch) (hl9 : l.stackTraces = false) (D : ql_D) (h0 : ql_H) (a0 : Nat) (Q : Int32 → ql_H → Prop) (X : String → ql_H → Prop) (w : qw_X12_errorPosition a0 h0 Q) : ql_M D l yX12_errorPosition cX12_errorPosition 1 (some .int) ({ frames := 4, cells := 0, slots := 0, locals := 77 } : Room) h0 [.ref a0] (ql_rI Q) X 0 0 := by
  refine ql_ofW (by decide) (Nat.le_of_ble_eq_true rfl) ?_
  intro p e s m below meth c ls C hr hlocks hnm htab S hl
  have hl : lv_has ls 1 [(0, .ref a0)] := hl
  have hB13 : ∀ (rs0 : Option Nat) (xs1 : Int32) (h : ql_H) (H : Heap) (locs : List Loc) (ls : Array Slot), ql_S D h0 s H locs h → lv_has ls 1 [(0, .ref a0)] → qw_X12_errorPosition_13 a0 Q rs0 xs1 h → W p l e ({ frames := 4, cells := 0, slots := 0, locals := 77 } : Room) s m ([.ref a0] : List Value).toArray below meth c H locs 0 0 (vx_MQ below (ql_Q D h0 (ql_rI Q)) (ql_X D h0 X) ([.ref a0] : List Value).toArray s 0 0 (ql_A h0)) (F0 m 13 ls [.int xs1, va_rf rs0]) := by
    intro rs0 xs1 h H locs ls S hl w
    unfold qw_X12_errorPosition_13 at w
    refine ql_VI (As := [.int xs1]) (rest := []) C S htab hlocks hl qy_X12_fails qi_X12_fails qs_X12_fails gw_1749 (ci := 13) rfl w (fun b w => qm_X12_fails l hl9 D _ b xs1 _ _ w) rfl ⟨Nat.le_of_ble_eq_true rfl, Nat.le_of_ble_eq_true rfl⟩ ⟨rfl, rfl⟩ (by exact Nat.le_of_ble_eq_true rfl) (fun b e9 => by cases e9; rfl) dX12_errorPosition_13 ⟨Nat.le_of_ble_eq_true rfl, Nat.le_of_ble_eq_true rfl⟩ ⟨Nat.le_of_ble_eq_true rfl, Nat.le_of_ble_eq_true rfl⟩ (fun x1 h H locs S w => ?_)
    refine W.cs (cells' := 0) (slots' := 0) rfl rfl ?_
    refine lv_if_eq (tgt := 23) C.1.1 C.1.2.1 dX12_errorPosition_16 (by decide) (fun c9 => ?_) (fun c9 => ?_)
    · replace w := ql_if w c9
      refine ql_aload_n (r := (some a0)) C dX12_errorPosition_23 rfl (lv_at hl 0 rfl) ?_
      refine ql_getI C S qf_13_10 gw_1678 dX12_errorPosition_24 w (fun x3 w => ?_)
      exact ql_iret C S hr hlocks dX12_errorPosition_27 ⟨Nat.le_of_ble_eq_true rfl, Nat.le_of_ble_eq_true rfl⟩ w
    · replace w := ql_ifn w c9
      refine lv_iconst (v := (0 : Int32)) C.1.1 C.1.2.1 dX12_errorPosition_19 (by decide) ?_
      refine lv_goto (tgt := 27) C.1.1 C.1.2.1 dX12_errorPosition_20 (by decide) ?_
      exact ql_iret C S hr hlocks dX12_errorPosition_27 ⟨Nat.le_of_ble_eq_true rfl, Nat.le_of_ble_eq_true rfl⟩ w
  unfold qw_X12_errorPosition at w
  refine ql_aload_n (r := (some a0)) C dX12_errorPosition_0 rfl (lv_at hl 0 rfl) ?_
  refine ql_aload_n (r := (some a0)) C dX12_errorPosition_1 rfl (lv_at hl 0 rfl) ?_
  refine ql_getI C S qf_13_10 gw_1678 dX12_errorPosition_2 w (fun x4 w => ?_)
  refine lv_if_ge (tgt := 12) C.1.1 C.1.2.1 dX12_errorPosition_5 (by decide) (fun c9 => ?_) (fun c9 => ?_)
  · replace w := ql_if w c9
    refine lv_iconst (v := (0 : Int32)) C.1.1 C.1.2.1 dX12_errorPosition_12 (by decide) ?_
    exact hB13 (some a0) (0 : Int32) _ _ _ _ S (lv_sub hl [0] rfl) w
  · replace w := ql_ifn w c9
    refine lv_iconst (v := (1 : Int32)) C.1.1 C.1.2.1 dX12_errorPosition_8 (by decide) ?_
    refine lv_goto (tgt := 13) C.1.1 C.1.2.1 dX12_errorPosition_9 (by decide) ?_
    exact hB13 (some a0) (1 : Int32) _ _ _ _ S (lv_sub hl [0] rfl) w
def qw_X12_failedCommand_13 (a0 : Nat) (Q : Int32 → ql_H → Prop) (rs0 : Option Nat) (xs1 : Int32) (h : ql_H) : Prop :=
ql_rv h rs0 13 fun b1 => qw_X12_fails b1 xs1 h (fun x1 h =>
if x1 = 0 then (ql_gI h (some a0) 13 11 fun x3 =>
Q x3 h) else (Q (0 : Int32) h))
def qw_X12_failedCommand (a0 : Nat) (h : ql_H) (Q : Int32 → ql_H → Prop) : Prop :=
ql_gI h (some a0) 13 11 fun x4 =>
if 0 ≤ x4 then (qw_X12_failedCommand_13 a0 Q (some a0) (0 : Int32) h) else (qw_X12_failedCommand_13 a0 Q (some a0) (1 : Int32) h)
set_option maxHeartbeats 4000000 in
set_option maxRecDepth 100000 in
theorem qm_X12_failedCommand (l : Launch) (hl9 : l.stackTraces = false) (D : ql_D) (h0 : ql_H) (a0 : Nat) (Q : Int32 → ql_H → Prop) (X : String → ql_H → Prop) (w : qw_X12_failedCommand a0 h0 Q) : ql_M D l yX12_failedCommand cX12_failedCommand 1 (some .int) ({ frames := 4, cells := 0, slots := 0, locals := 77 } : Room) h0 [.ref a0] (ql_rI Q) X 0 0 := by
  refine ql_ofW (by decide) (Nat.le_of_ble_eq_true rfl) ?_
  intro p e s m below meth c ls C hr hlocks hnm htab S hl
  have hl : lv_has ls 1 [(0, .ref a0)] := hl
  have hB13 : ∀ (rs0 : Option Nat) (xs1 : Int32) (h : ql_H) (H : Heap) (locs : List Loc) (ls : Array Slot), ql_S D h0 s H locs h → lv_has ls 1 [(0, .ref a0)] → qw_X12_failedCommand_13 a0 Q rs0 xs1 h → W p l e ({ frames := 4, cells := 0, slots := 0, locals := 77 } : Room) s m ([.ref a0] : List Value).toArray below meth c H locs 0 0 (vx_MQ below (ql_Q D h0 (ql_rI Q)) (ql_X D h0 X) ([.ref a0] : List Value).toArray s 0 0 (ql_A h0)) (F0 m 13 ls [.int xs1, va_rf rs0]) := by
    intro rs0 xs1 h H locs ls S hl w
    unfold qw_X12_failedCommand_13 at w
    refine ql_VI (As := [.int xs1]) (rest := []) C S htab hlocks hl qy_X12_fails qi_X12_fails qs_X12_fails gw_1749 (ci := 13) rfl w (fun b w => qm_X12_fails l hl9 D _ b xs1 _ _ w) rfl ⟨Nat.le_of_ble_eq_true rfl, Nat.le_of_ble_eq_true rfl⟩ ⟨rfl, rfl⟩ (by exact Nat.le_of_ble_eq_true rfl) (fun b e9 => by cases e9; rfl) dX12_failedCommand_13 ⟨Nat.le_of_ble_eq_true rfl, Nat.le_of_ble_eq_true rfl⟩ ⟨Nat.le_of_ble_eq_true rfl, Nat.le_of_ble_eq_true rfl⟩ (fun x1 h H locs S w => ?_)
    refine W.cs (cells' := 0) (slots' := 0) rfl rfl ?_
    refine lv_if_eq (tgt := 23) C.1.1 C.1.2.1 dX12_failedCommand_16 (by decide) (fun c9 => ?_) (fun c9 => ?_)
    · replace w := ql_if w c9
      refine ql_aload_n (r := (some a0)) C dX12_failedCommand_23 rfl (lv_at hl 0 rfl) ?_
      refine ql_getI C S qf_13_11 gw_1679 dX12_failedCommand_24 w (fun x3 w => ?_)
      exact ql_iret C S hr hlocks dX12_failedCommand_27 ⟨Nat.le_of_ble_eq_true rfl, Nat.le_of_ble_eq_true rfl⟩ w
    · replace w := ql_ifn w c9
      refine lv_iconst (v := (0 : Int32)) C.1.1 C.1.2.1 dX12_failedCommand_19 (by decide) ?_
      refine lv_goto (tgt := 27) C.1.1 C.1.2.1 dX12_failedCommand_20 (by decide) ?_
      exact ql_iret C S hr hlocks dX12_failedCommand_27 ⟨Nat.le_of_ble_eq_true rfl, Nat.le_of_ble_eq_true rfl⟩ w
  unfold qw_X12_failedCommand at w
  refine ql_aload_n (r := (some a0)) C dX12_failedCommand_0 rfl (lv_at hl 0 rfl) ?_
  refine ql_aload_n (r := (some a0)) C dX12_failedCommand_1 rfl (lv_at hl 0 rfl) ?_
  refine ql_getI C S qf_13_11 gw_1679 dX12_failedCommand_2 w (fun x4 w => ?_)
  refine lv_if_ge (tgt := 12) C.1.1 C.1.2.1 dX12_failedCommand_5 (by decide) (fun c9 => ?_) (fun c9 => ?_)
  · replace w := ql_if w c9
    refine lv_iconst (v := (0 : Int32)) C.1.1 C.1.2.1 dX12_failedCommand_12 (by decide) ?_
    exact hB13 (some a0) (0 : Int32) _ _ _ _ S (lv_sub hl [0] rfl) w
  · replace w := ql_ifn w c9
    refine lv_iconst (v := (1 : Int32)) C.1.1 C.1.2.1 dX12_failedCommand_8 (by decide) ?_
    refine lv_goto (tgt := 13) C.1.1 C.1.2.1 dX12_failedCommand_9 (by decide) ?_
    exact hB13 (some a0) (1 : Int32) _ _ _ _ S (lv_sub hl [0] rfl) w
def qw_X12_undo_13 (a0 : Nat) (Q : Int32 → ql_H → Prop) (rs0 : Option Nat) (xs1 : Int32) (h : ql_H) : Prop :=
ql_rv h rs0 13 fun b1 => qw_X12_fails b1 xs1 h (fun x1 h =>
if x1 = 0 then (ql_gI h (some a0) 13 5 fun x3 =>
ql_pV h (some a0) 13 5 (.int (x3 - (1 : Int32))) fun h =>
ql_gR h (some a0) 13 1 fun r4 =>
ql_gI h (some a0) 13 5 fun x5 =>
ql_gR h (some a0) 13 0 fun r6 =>
qw_X12_copies r4 ((685 : Int32) * x5) r6 (0 : Int32) h (fun h =>
ql_gI h (some a0) 13 5 fun x7 =>
Q x7 h)) else (Q (0 : Int32) h))
def qw_X12_undo (a0 : Nat) (h : ql_H) (Q : Int32 → ql_H → Prop) : Prop :=
ql_gI h (some a0) 13 5 fun x8 =>
if x8 = 0 then (qw_X12_undo_13 a0 Q (some a0) (1 : Int32) h) else (qw_X12_undo_13 a0 Q (some a0) (0 : Int32) h)
set_option maxHeartbeats 4000000 in
set_option maxRecDepth 100000 in
theorem qm_X12_undo (l : Launch) (hl9 : l.stackTraces = false) (D : ql_D) (h0 : ql_H) (a0 : Nat) (Q : Int32 → ql_H → Prop) (X : String → ql_H → Prop) (w : qw_X12_undo a0 h0 Q) : ql_M D l yX12_undo cX12_undo 1 (some .int) ({ frames := 4, cells := 0, slots := 0, locals := 80 } : Room) h0 [.ref a0] (ql_rI Q) X 0 0 := by
  refine ql_ofW (by decide) (Nat.le_of_ble_eq_true rfl) ?_
  intro p e s m below meth c ls C hr hlocks hnm htab S hl
  have hl : lv_has ls 1 [(0, .ref a0)] := hl
  have hB13 : ∀ (rs0 : Option Nat) (xs1 : Int32) (h : ql_H) (H : Heap) (locs : List Loc) (ls : Array Slot), ql_S D h0 s H locs h → lv_has ls 1 [(0, .ref a0)] → qw_X12_undo_13 a0 Q rs0 xs1 h → W p l e ({ frames := 4, cells := 0, slots := 0, locals := 80 } : Room) s m ([.ref a0] : List Value).toArray below meth c H locs 0 0 (vx_MQ below (ql_Q D h0 (ql_rI Q)) (ql_X D h0 X) ([.ref a0] : List Value).toArray s 0 0 (ql_A h0)) (F0 m 13 ls [.int xs1, va_rf rs0]) := by
    intro rs0 xs1 h H locs ls S hl w
    unfold qw_X12_undo_13 at w
    refine ql_VI (As := [.int xs1]) (rest := []) C S htab hlocks hl qy_X12_fails qi_X12_fails qs_X12_fails gw_1749 (ci := 13) rfl w (fun b w => qm_X12_fails l hl9 D _ b xs1 _ _ w) rfl ⟨Nat.le_of_ble_eq_true rfl, Nat.le_of_ble_eq_true rfl⟩ ⟨rfl, rfl⟩ (by exact Nat.le_of_ble_eq_true rfl) (fun b e9 => by cases e9; rfl) dX12_undo_13 ⟨Nat.le_of_ble_eq_true rfl, Nat.le_of_ble_eq_true rfl⟩ ⟨Nat.le_of_ble_eq_true rfl, Nat.le_of_ble_eq_true rfl⟩ (fun x1 h H locs S w => ?_)
    refine W.cs (cells' := 0) (slots' := 0) rfl rfl ?_
    refine lv_if_eq (tgt := 21) C.1.1 C.1.2.1 dX12_undo_16 (by decide) (fun c9 => ?_) (fun c9 => ?_)
    · replace w := ql_if w c9
      refine ql_aload_n (r := (some a0)) C dX12_undo_21 rfl (lv_at hl 0 rfl) ?_
      refine lv_dup C.1.1 C.1.2.1 dX12_undo_22 (ql_catR _) ?_
      refine ql_getI C S qf_13_5 gw_1673 dX12_undo_23 w (fun x3 w => ?_)
      refine lv_iconst (v := (1 : Int32)) C.1.1 C.1.2.1 dX12_undo_26 (by decide) ?_
      refine lv_isub C.1.1 C.1.2.1 dX12_undo_27 ?_
      refine ql_putV C S qf_13_5 gw_1673 (tyX12) tyX12_ok nmX12 rfl dX12_undo_28 (v := .int (x3 - (1 : Int32))) rfl rfl w (fun h H locs S w => ?_)
      refine ql_aload_n (r := (some a0)) C dX12_undo_31 rfl (lv_at hl 0 rfl) ?_
      refine ql_getR C S qf_13_1 gw_1669 dX12_undo_32 w (fun r4 w => ?_)
      refine lv_sipush (v := (685 : Int32)) C.1.1 C.1.2.1 dX12_undo_35 (by decide) ?_
      refine ql_aload_n (r := (some a0)) C dX12_undo_38 rfl (lv_at hl 0 rfl) ?_
      refine ql_getI C S qf_13_5 gw_1673 dX12_undo_39 w (fun x5 w => ?_)
      refine lv_imul C.1.1 C.1.2.1 dX12_undo_42 ?_
      refine ql_aload_n (r := (some a0)) C dX12_undo_43 rfl (lv_at hl 0 rfl) ?_
      refine ql_getR C S qf_13_0 gw_1668 dX12_undo_44 w (fun r6 w => ?_)
      refine lv_iconst (v := (0 : Int32)) C.1.1 C.1.2.1 dX12_undo_47 (by decide) ?_
      refine ql_SV (As := [va_rf r4, .int ((685 : Int32) * x5), va_rf r6, .int (0 : Int32)]) (rest := []) C S htab hlocks hl qy_X12_copies qi_X12_copies gw_1757 (qm_X12_copies l hl9 D _ r4 ((685 : Int32) * x5) r6 (0 : Int32) _ _ w) rfl ⟨Nat.le_of_ble_eq_true rfl, Nat.le_of_ble_eq_true rfl⟩ ⟨rfl, rfl⟩ (by exact Nat.le_of_ble_eq_true rfl) rfl dX12_undo_48 ⟨Nat.le_of_ble_eq_true rfl, Nat.le_of_ble_eq_true rfl⟩ ⟨Nat.le_of_ble_eq_true rfl, Nat.le_of_ble_eq_true rfl⟩ (fun h H locs S w => ?_)
      refine W.cs (cells' := 0) (slots' := 0) rfl rfl ?_
      refine ql_aload_n (r := (some a0)) C dX12_undo_51 rfl (lv_at hl 0 rfl) ?_
      refine ql_getI C S qf_13_5 gw_1673 dX12_undo_52 w (fun x7 w => ?_)
      exact ql_iret C S hr hlocks dX12_undo_55 ⟨Nat.le_of_ble_eq_true rfl, Nat.le_of_ble_eq_true rfl⟩ w
    · replace w := ql_ifn w c9
      refine lv_iconst (v := (0 : Int32)) C.1.1 C.1.2.1 dX12_undo_19 (by decide) ?_
      exact ql_iret C S hr hlocks dX12_undo_20 ⟨Nat.le_of_ble_eq_true rfl, Nat.le_of_ble_eq_true rfl⟩ w
  unfold qw_X12_undo at w
  refine ql_aload_n (r := (some a0)) C dX12_undo_0 rfl (lv_at hl 0 rfl) ?_
  refine ql_aload_n (r := (some a0)) C dX12_undo_1 rfl (lv_at hl 0 rfl) ?_
  refine ql_getI C S qf_13_5 gw_1673 dX12_undo_2 w (fun x8 w => ?_)
  refine lv_if_ne (tgt := 12) C.1.1 C.1.2.1 dX12_undo_5 (by decide) (fun c9 => ?_) (fun c9 => ?_)
  · replace w := ql_ifn w c9
    refine lv_iconst (v := (0 : Int32)) C.1.1 C.1.2.1 dX12_undo_12 (by decide) ?_
    exact hB13 (some a0) (0 : Int32) _ _ _ _ S (lv_sub hl [0] rfl) w
  · replace w := ql_if w c9
    refine lv_iconst (v := (1 : Int32)) C.1.1 C.1.2.1 dX12_undo_8 (by decide) ?_
    refine lv_goto (tgt := 13) C.1.1 C.1.2.1 dX12_undo_9 (by decide) ?_
    exact hB13 (some a0) (1 : Int32) _ _ _ _ S (lv_sub hl [0] rfl) w
def qw_X12_save (a0 : Nat) (h : ql_H) (Q : Int32 → ql_H → Prop) : Prop :=
ql_pV h (some a0) 13 7 (.int (0 : Int32)) fun h =>
ql_pV h (some a0) 13 4 (.int (1 : Int32)) fun h =>
ql_gR h (some a0) 13 0 fun r1 =>
ql_gR h (some a0) 13 2 fun r2 =>
qw_X12_copies r1 (0 : Int32) r2 (0 : Int32) h (fun h =>
ql_gR h (some a0) 13 0 fun r3 =>
ql_lI h r3 0 (0 : Int32) fun x4 =>
Q x4 h)
set_option maxHeartbeats 4000000 in
set_option maxRecDepth 100000 in
theorem qm_X12_save (l : Launch) (hl9 : l.stackTraces = false) (D : ql_D) (h0 : ql_H) (a0 : Nat) (Q : Int32 → ql_H → Prop) (X : String → ql_H → Prop) (w : qw_X12_save a0 h0 Q) : ql_M D l yX12_save cX12_save 1 (some .int) ({ frames := 4, cells := 0, slots := 0, locals := 80 } : Room) h0 [.ref a0] (ql_rI Q) X 0 0 := by
  refine ql_ofW (by decide) (Nat.le_of_ble_eq_true rfl) ?_
  intro p e s m below meth c ls C hr hlocks hnm htab S hl
  have hl : lv_has ls 1 [(0, .ref a0)] := hl
  unfold qw_X12_save at w
  refine ql_aload_n (r := (some a0)) C dX12_save_0 rfl (lv_at hl 0 rfl) ?_
  refine lv_iconst (v := (0 : Int32)) C.1.1 C.1.2.1 dX12_save_1 (by decide) ?_
  refine ql_putV C S qf_13_7 gw_1675 (tyX12) tyX12_ok nmX12 rfl dX12_save_2 (v := .int (0 : Int32)) rfl rfl w (fun h H locs S w => ?_)
  refine ql_aload_n (r := (some a0)) C dX12_save_5 rfl (lv_at hl 0 rfl) ?_
  refine lv_iconst (v := (1 : Int32)) C.1.1 C.1.2.1 dX12_save_6 (by decide) ?_
  refine ql_putV C S qf_13_4 gw_1672 (tyX12) tyX12_ok nmX12 rfl dX12_save_7 (v := .int (1 : Int32)) rfl rfl w (fun h H locs S w => ?_)
  refine ql_aload_n (r := (some a0)) C dX12_save_10 rfl (lv_at hl 0 rfl) ?_
  refine ql_getR C S qf_13_0 gw_1668 dX12_save_11 w (fun r1 w => ?_)
  refine lv_iconst (v := (0 : Int32)) C.1.1 C.1.2.1 dX12_save_14 (by decide) ?_
  refine ql_aload_n (r := (some a0)) C dX12_save_15 rfl (lv_at hl 0 rfl) ?_
  refine ql_getR C S qf_13_2 gw_1670 dX12_save_16 w (fun r2 w => ?_)
  refine lv_iconst (v := (0 : Int32)) C.1.1 C.1.2.1 dX12_save_19 (by decide) ?_
  refine ql_SV (As := [va_rf r1, .int (0 : Int32), va_rf r2, .int (0 : Int32)]) (rest := []) C S htab hlocks hl qy_X12_copies qi_X12_copies gw_1757 (qm_X12_copies l hl9 D _ r1 (0 : Int32) r2 (0 : Int32) _ _ w) rfl ⟨Nat.le_of_ble_eq_true rfl, Nat.le_of_ble_eq_true rfl⟩ ⟨rfl, rfl⟩ (by exact Nat.le_of_ble_eq_true rfl) rfl dX12_save_20 ⟨Nat.le_of_ble_eq_true rfl, Nat.le_of_ble_eq_true rfl⟩ ⟨Nat.le_of_ble_eq_true rfl, Nat.le_of_ble_eq_true rfl⟩ (fun h H locs S w => ?_)
  refine W.cs (cells' := 0) (slots' := 0) rfl rfl ?_
  refine ql_aload_n (r := (some a0)) C dX12_save_23 rfl (lv_at hl 0 rfl) ?_
  refine ql_getR C S qf_13_0 gw_1668 dX12_save_24 w (fun r3 w => ?_)
  refine lv_iconst (v := (0 : Int32)) C.1.1 C.1.2.1 dX12_save_27 (by decide) ?_
  refine ql_iald C S dX12_save_28 w (fun x4 w => ?_)
  exact ql_iret C S hr hlocks dX12_save_29 ⟨Nat.le_of_ble_eq_true rfl, Nat.le_of_ble_eq_true rfl⟩ w
def qw_X12_restore_13 (a0 : Nat) (Q : Int32 → ql_H → Prop) (rs0 : Option Nat) (xs1 : Int32) (h : ql_H) : Prop :=
ql_rv h rs0 13 fun b1 => qw_X12_fails b1 xs1 h (fun x1 h =>
if x1 = 0 then (ql_gR h (some a0) 13 2 fun r3 =>
ql_gR h (some a0) 13 0 fun r4 =>
qw_X12_copies r3 (0 : Int32) r4 (0 : Int32) h (fun h =>
ql_pV h (some a0) 13 5 (.int (0 : Int32)) fun h =>
ql_gR h (some a0) 13 0 fun r5 =>
ql_lI h r5 0 (0 : Int32) fun x6 =>
Q x6 h)) else (Q (0 : Int32) h))
def qw_X12_restore (a0 : Nat) (h : ql_H) (Q : Int32 → ql_H → Prop) : Prop :=
ql_gI h (some a0) 13 4 fun x7 =>
if x7 = 0 then (qw_X12_restore_13 a0 Q (some a0) (1 : Int32) h) else (qw_X12_restore_13 a0 Q (some a0) (0 : Int32) h)
set_option maxHeartbeats 4000000 in
set_option maxRecDepth 100000 in
theorem qm_X12_restore (l : Launch) (hl9 : l.stackTraces = false) (D : ql_D) (h0 : ql_H) (a0 : Nat) (Q : Int32 → ql_H → Prop) (X : String → ql_H → Prop) (w : qw_X12_restore a0 h0 Q) : ql_M D l yX12_restore cX12_restore 1 (some .int) ({ frames := 4, cells := 0, slots := 0, locals := 80 } : Room) h0 [.ref a0] (ql_rI Q) X 0 0 := by
  refine ql_ofW (by decide) (Nat.le_of_ble_eq_true rfl) ?_
  intro p e s m below meth c ls C hr hlocks hnm htab S hl
  have hl : lv_has ls 1 [(0, .ref a0)] := hl
  have hB13 : ∀ (rs0 : Option Nat) (xs1 : Int32) (h : ql_H) (H : Heap) (locs : List Loc) (ls : Array Slot), ql_S D h0 s H locs h → lv_has ls 1 [(0, .ref a0)] → qw_X12_restore_13 a0 Q rs0 xs1 h → W p l e ({ frames := 4, cells := 0, slots := 0, locals := 80 } : Room) s m ([.ref a0] : List Value).toArray below meth c H locs 0 0 (vx_MQ below (ql_Q D h0 (ql_rI Q)) (ql_X D h0 X) ([.ref a0] : List Value).toArray s 0 0 (ql_A h0)) (F0 m 13 ls [.int xs1, va_rf rs0]) := by
    intro rs0 xs1 h H locs ls S hl w
    unfold qw_X12_restore_13 at w
    refine ql_VI (As := [.int xs1]) (rest := []) C S htab hlocks hl qy_X12_fails qi_X12_fails qs_X12_fails gw_1749 (ci := 13) rfl w (fun b w => qm_X12_fails l hl9 D _ b xs1 _ _ w) rfl ⟨Nat.le_of_ble_eq_true rfl, Nat.le_of_ble_eq_true rfl⟩ ⟨rfl, rfl⟩ (by exact Nat.le_of_ble_eq_true rfl) (fun b e9 => by cases e9; rfl) dX12_restore_13 ⟨Nat.le_of_ble_eq_true rfl, Nat.le_of_ble_eq_true rfl⟩ ⟨Nat.le_of_ble_eq_true rfl, Nat.le_of_ble_eq_true rfl⟩ (fun x1 h H locs S w => ?_)
    refine W.cs (cells' := 0) (slots' := 0) rfl rfl ?_
    refine lv_if_eq (tgt := 21) C.1.1 C.1.2.1 dX12_restore_16 (by decide) (fun c9 => ?_) (fun c9 => ?_)
    · replace w := ql_if w c9
      refine ql_aload_n (r := (some a0)) C dX12_restore_21 rfl (lv_at hl 0 rfl) ?_
      refine ql_getR C S qf_13_2 gw_1670 dX12_restore_22 w (fun r3 w => ?_)
      refine lv_iconst (v := (0 : Int32)) C.1.1 C.1.2.1 dX12_restore_25 (by decide) ?_
      refine ql_aload_n (r := (some a0)) C dX12_restore_26 rfl (lv_at hl 0 rfl) ?_
      refine ql_getR C S qf_13_0 gw_1668 dX12_restore_27 w (fun r4 w => ?_)
      refine lv_iconst (v := (0 : Int32)) C.1.1 C.1.2.1 dX12_restore_30 (by decide) ?_
      refine ql_SV (As := [va_rf r3, .int (0 : Int32), va_rf r4, .int (0 : Int32)]) (rest := []) C S htab hlocks hl qy_X12_copies qi_X12_copies gw_1757 (qm_X12_copies l hl9 D _ r3 (0 : Int32) r4 (0 : Int32) _ _ w) rfl ⟨Nat.le_of_ble_eq_true rfl, Nat.le_of_ble_eq_true rfl⟩ ⟨rfl, rfl⟩ (by exact Nat.le_of_ble_eq_true rfl) rfl dX12_restore_31 ⟨Nat.le_of_ble_eq_true rfl, Nat.le_of_ble_eq_true rfl⟩ ⟨Nat.le_of_ble_eq_true rfl, Nat.le_of_ble_eq_true rfl⟩ (fun h H locs S w => ?_)
      refine W.cs (cells' := 0) (slots' := 0) rfl rfl ?_
      refine ql_aload_n (r := (some a0)) C dX12_restore_34 rfl (lv_at hl 0 rfl) ?_
      refine lv_iconst (v := (0 : Int32)) C.1.1 C.1.2.1 dX12_restore_35 (by decide) ?_
      refine ql_putV C S qf_13_5 gw_1673 (tyX12) tyX12_ok nmX12 rfl dX12_restore_36 (v := .int (0 : Int32)) rfl rfl w (fun h H locs S w => ?_)
      refine ql_aload_n (r := (some a0)) C dX12_restore_39 rfl (lv_at hl 0 rfl) ?_
      refine ql_getR C S qf_13_0 gw_1668 dX12_restore_40 w (fun r5 w => ?_)
      refine lv_iconst (v := (0 : Int32)) C.1.1 C.1.2.1 dX12_restore_43 (by decide) ?_
      refine ql_iald C S dX12_restore_44 w (fun x6 w => ?_)
      exact ql_iret C S hr hlocks dX12_restore_45 ⟨Nat.le_of_ble_eq_true rfl, Nat.le_of_ble_eq_true rfl⟩ w
    · replace w := ql_ifn w c9
      refine lv_iconst (v := (0 : Int32)) C.1.1 C.1.2.1 dX12_restore_19 (by decide) ?_
      exact ql_iret C S hr hlocks dX12_restore_20 ⟨Nat.le_of_ble_eq_true rfl, Nat.le_of_ble_eq_true rfl⟩ w
  unfold qw_X12_restore at w
  refine ql_aload_n (r := (some a0)) C dX12_restore_0 rfl (lv_at hl 0 rfl) ?_
  refine ql_aload_n (r := (some a0)) C dX12_restore_1 rfl (lv_at hl 0 rfl) ?_
  refine ql_getI C S qf_13_4 gw_1672 dX12_restore_2 w (fun x7 w => ?_)
  refine lv_if_eq (tgt := 12) C.1.1 C.1.2.1 dX12_restore_5 (by decide) (fun c9 => ?_) (fun c9 => ?_)
  · replace w := ql_if w c9
    refine lv_iconst (v := (1 : Int32)) C.1.1 C.1.2.1 dX12_restore_12 (by decide) ?_
    exact hB13 (some a0) (1 : Int32) _ _ _ _ S (lv_sub hl [0] rfl) w
  · replace w := ql_ifn w c9
    refine lv_iconst (v := (0 : Int32)) C.1.1 C.1.2.1 dX12_restore_8 (by decide) ?_
    refine lv_goto (tgt := 13) C.1.1 C.1.2.1 dX12_restore_9 (by decide) ?_
    exact hB13 (some a0) (0 : Int32) _ _ _ _ S (lv_sub hl [0] rfl) w
