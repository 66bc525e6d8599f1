def qw_X12_day (a0 : Nat) (h : ql_H) (Q : Int32 → ql_H → Prop) : Prop :=
ql_pV h (some a0) 13 7 (.int (0 : Int32)) fun h =>
ql_gR h (some a0) 13 0 fun r1 =>
ql_lI h r1 0 (2 : Int32) fun x2 =>
Q x2 h
set_option maxHeartbeats 4000000 in
set_option maxRecDepth 100000 in
theorem qm_X12_day (l : Launch) (hl9 : l.stackTraces = false) (D : ql_D) (h0 : ql_H) (a0 : Nat) (Q : Int32 → ql_H → Prop) (X : String → ql_H → Prop) (w : qw_X12_day a0 h0 Q) : ql_M D l yX12_day cX12_day 1 (some .int) ({ frames := 2, cells := 0, slots := 0, locals := 48 } : Room) h0 [.ref a0] (ql_rI Q) X 0 0 := by
  refine ql_ofW (by decide) (Nat.le_of_ble_eq_true rfl) ?_
  intro p e s m below meth c ls C hr hlocks hnm htab S hl
  have hl : lv_has ls 1 [(0, .ref a0)] := hl
  unfold qw_X12_day at w
  refine ql_aload_n (r := (some a0)) C dX12_day_0 rfl (lv_at hl 0 rfl) ?_
  refine lv_iconst (v := (0 : Int32)) C.1.1 C.1.2.1 dX12_day_1 (by decide) ?_
  refine ql_putV C S qf_13_7 gw_1675 (tyX12) tyX12_ok nmX12 rfl dX12_day_2 (v := .int (0 : Int32)) rfl rfl w (fun h H locs S w => ?_)
  refine ql_aload_n (r := (some a0)) C dX12_day_5 rfl (lv_at hl 0 rfl) ?_
  refine ql_getR C S qf_13_0 gw_1668 dX12_day_6 w (fun r1 w => ?_)
  refine lv_iconst (v := (2 : Int32)) C.1.1 C.1.2.1 dX12_day_9 (by decide) ?_
  refine ql_iald C S dX12_day_10 w (fun x2 w => ?_)
  exact ql_iret C S hr hlocks dX12_day_11 ⟨Nat.le_of_ble_eq_true rfl, Nat.le_of_ble_eq_true rfl⟩ w
def qw_X12_clauseCount (a0 : Nat) (h : ql_H) (Q : Int32 → ql_H → Prop) : Prop :=
ql_pV h (some a0) 13 7 (.int (0 : Int32)) fun h =>
ql_gR h (some a0) 13 0 fun r1 =>
ql_lI h r1 0 (0 : Int32) fun x2 =>
Q x2 h
set_option maxHeartbeats 4000000 in
set_option maxRecDepth 100000 in
theorem qm_X12_clauseCount (l : Launch) (hl9 : l.stackTraces = false) (D : ql_D) (h0 : ql_H) (a0 : Nat) (Q : Int32 → ql_H → Prop) (X : String → ql_H → Prop) (w : qw_X12_clauseCount a0 h0 Q) : ql_M D l yX12_clauseCount cX12_clauseCount 1 (some .int) ({ frames := 2, cells := 0, slots := 0, locals := 48 } : Room) h0 [.ref a0] (ql_rI Q) X 0 0 := by
  refine ql_ofW (by decide) (Nat.le_of_ble_eq_true rfl) ?_
  intro p e s m below meth c ls C hr hlocks hnm htab S hl
  have hl : lv_has ls 1 [(0, .ref a0)] := hl
  unfold qw_X12_clauseCount at w
  refine ql_aload_n (r := (some a0)) C dX12_clauseCount_0 rfl (lv_at hl 0 rfl) ?_
  refine lv_iconst (v := (0 : Int32)) C.1.1 C.1.2.1 dX12_clauseCount_1 (by decide) ?_
  refine ql_putV C S qf_13_7 gw_1675 (tyX12) tyX12_ok nmX12 rfl dX12_clauseCount_2 (v := .int (0 : Int32)) rfl rfl w (fun h H locs S w => ?_)
  refine ql_aload_n (r := (some a0)) C dX12_clauseCount_5 rfl (lv_at hl 0 rfl) ?_
  refine ql_getR C S qf_13_0 gw_1668 dX12_clauseCount_6 w (fun r1 w => ?_)
  refine lv_iconst (v := (0 : Int32)) C.1.1 C.1.2.1 dX12_clauseCount_9 (by decide) ?_
  refine ql_iald C S dX12_clauseCount_10 w (fun x2 w => ?_)
  exact ql_iret C S hr hlocks dX12_clauseCount_11 ⟨Nat.le_of_ble_eq_true rfl, Nat.le_of_ble_eq_true rfl⟩ w
def qw_X12_clauseAt_2 (a0 : Nat) (Q : Int32 → ql_H → Prop) : Nat → Int32 → Int32 → ql_H → Prop
  | 0, _, _, _ => False
  | n + 1, xl1, xl2, h =>
    ql_gR h (some a0) 13 0 fun r1 =>
    ql_lI h r1 0 (0 : Int32) fun x2 =>
    if x2 ≤ xl2 then (ql_pV h (some a0) 13 7 (.int (1 : Int32)) fun h =>
    Q (0 : Int32) h) else (ql_rv h (some a0) 13 fun b3 => qw_X12_sectionsBefore b3 xl2 h (fun x3 h =>
    if x3 = xl1 then (ql_pV h (some a0) 13 7 (.int (0 : Int32)) fun h =>
    ql_rv h (some a0) 13 fun b5 => qw_X12_of b5 xl2 (0 : Int32) h (fun x5 h =>
    Q x5 h)) else (qw_X12_clauseAt_2 a0 Q n xl1 (xl2 + (1 : Int32)) h)))
def qw_X12_clauseAt (a0 : Nat) (xp1 : Int32) (h : ql_H) (Q : Int32 → ql_H → Prop) : Prop :=
qw_X12_clauseAt_2 a0 Q ql_FU xp1 (0 : Int32) h
set_option maxHeartbeats 4000000 in
set_option maxRecDepth 100000 in
theorem qm_X12_clauseAt (l : Launch) (hl9 : l.stackTraces = false) (D : ql_D) (h0 : ql_H) (a0 : Nat) (xp1 : Int32) (Q : Int32 → ql_H → Prop) (X : String → ql_H → Prop) (w : qw_X12_clauseAt a0 xp1 h0 Q) : ql_M D l yX12_clauseAt cX12_clauseAt 3 (some .int) ({ frames := 6, cells := 0, slots := 0, locals := 109 } : Room) h0 [.ref a0, .int xp1] (ql_rI Q) X 0 0 := by
  refine ql_ofW (by decide) (Nat.le_of_ble_eq_true rfl) ?_
  intro p e s m below meth c ls C hr hlocks hnm htab S hl
  have hl : lv_has ls 3 [(0, .ref a0), (1, .int xp1)] := hl
  have hB2 : ∀ n : Nat, ∀ (xl1 : Int32) (xl2 : Int32) (h : ql_H) (H : Heap) (locs : List Loc) (ls : Array Slot), ql_S D h0 s H locs h → lv_has ls 3 [(0, .ref a0), (1, .int xl1), (2, .int xl2)] → qw_X12_clauseAt_2 a0 Q n xl1 xl2 h → W p l e ({ frames := 6, cells := 0, slots := 0, locals := 109 } : Room) s m ([.ref a0, .int xp1] : List Value).toArray below meth c H locs 0 0 (vx_MQ below (ql_Q D h0 (ql_rI Q)) (ql_X D h0 X) ([.ref a0, .int xp1] : List Value).toArray s 0 0 (ql_A h0)) (F0 m 2 ls []) := by
    intro n
    induction n with
    | zero => intro xl1 xl2 h H locs ls S hl w; rw [qw_X12_clauseAt_2] at w; exact w.elim
    | succ n ih =>
      intro xl1 xl2 h H locs ls S hl w
      rw [qw_X12_clauseAt_2] at w
      refine lv_iload_n C.1.1 C.1.2.1 dX12_clauseAt_2 rfl (lv_at hl 2 rfl) ?_
      refine ql_aload_n (r := (some a0)) C dX12_clauseAt_3 rfl (lv_at hl 0 rfl) ?_
      refine ql_getR C S qf_13_0 gw_1668 dX12_clauseAt_4 w (fun r1 w => ?_)
      refine lv_iconst (v := (0 : Int32)) C.1.1 C.1.2.1 dX12_clauseAt_7 (by decide) ?_
      refine ql_iald C S dX12_clauseAt_8 w (fun x2 w => ?_)
      refine lv_icmp_ge (tgt := 42) C.1.1 C.1.2.1 dX12_clauseAt_9 (by decide) (fun c9 => ?_) (fun c9 => ?_)
      · replace w := ql_if w c9
        refine ql_aload_n (r := (some a0)) C dX12_clauseAt_42 rfl (lv_at hl 0 rfl) ?_
        refine lv_iconst (v := (1 : Int32)) C.1.1 C.1.2.1 dX12_clauseAt_43 (by decide) ?_
        refine ql_putV C S qf_13_7 gw_1675 (tyX12) tyX12_ok nmX12 rfl dX12_clauseAt_44 (v := .int (1 : Int32)) rfl rfl w (fun h H locs S w => ?_)
        refine lv_iconst (v := (0 : Int32)) C.1.1 C.1.2.1 dX12_clauseAt_47 (by decide) ?_
        exact ql_iret C S hr hlocks dX12_clauseAt_48 ⟨Nat.le_of_ble_eq_true rfl, Nat.le_of_ble_eq_true rfl⟩ w
      · replace w := ql_ifn w c9
        refine ql_aload_n (r := (some a0)) C dX12_clauseAt_12 rfl (lv_at hl 0 rfl) ?_
        refine lv_iload_n C.1.1 C.1.2.1 dX12_clauseAt_13 rfl (lv_at hl 2 rfl) ?_
        refine ql_VI (As := [.int xl2]) (rest := []) C S htab hlocks hl qy_X12_sectionsBefore qi_X12_sectionsBefore qs_X12_sectionsBefore gw_1844 (ci := 13) rfl w (fun b w => qm_X12_sectionsBefore l hl9 D _ b xl2 _ _ w) rfl ⟨Nat.le_of_ble_eq_true rfl, Nat.le_of_ble_eq_true rfl⟩ ⟨rfl, rfl⟩ (by exact Nat.le_of_ble_eq_true rfl) (fun b e9 => by cases e9; rfl) dX12_clauseAt_14 ⟨Nat.le_of_ble_eq_true rfl, Nat.le_of_ble_eq_true rfl⟩ ⟨Nat.le_of_ble_eq_true rfl, Nat.le_of_ble_eq_true rfl⟩ (fun x3 h H locs S w => ?_)
        refine W.cs (cells' := 0) (slots' := 0) rfl rfl ?_
        refine lv_iload_n C.1.1 C.1.2.1 dX12_clauseAt_17 rfl (lv_at hl 1 rfl) ?_
        refine lv_icmp_eq (tgt := 24) C.1.1 C.1.2.1 dX12_clauseAt_18 (by decide) (fun c9 => ?_) (fun c9 => ?_)
        · replace w := ql_if w c9
          refine ql_aload_n (r := (some a0)) C dX12_clauseAt_24 rfl (lv_at hl 0 rfl) ?_
          refine lv_iconst (v := (0 : Int32)) C.1.1 C.1.2.1 dX12_clauseAt_25 (by decide) ?_
          refine ql_putV C S qf_13_7 gw_1675 (tyX12) tyX12_ok nmX12 rfl dX12_clauseAt_26 (v := .int (0 : Int32)) rfl rfl w (fun h H locs S w => ?_)
          refine ql_aload_n (r := (some a0)) C dX12_clauseAt_29 rfl (lv_at hl 0 rfl) ?_
          refine lv_iload_n C.1.1 C.1.2.1 dX12_clauseAt_30 rfl (lv_at hl 2 rfl) ?_
          refine lv_iconst (v := (0 : Int32)) C.1.1 C.1.2.1 dX12_clauseAt_31 (by decide) ?_
          refine ql_VI (As := [.int xl2, .int (0 : Int32)]) (rest := []) C S htab hlocks hl qy_X12_of qi_X12_of qs_X12_of gw_1745 (ci := 13) rfl w (fun b w => qm_X12_of l hl9 D _ b xl2 (0 : Int32) _ _ w) rfl ⟨Nat.le_of_ble_eq_true rfl, Nat.le_of_ble_eq_true rfl⟩ ⟨rfl, rfl⟩ (by exact Nat.le_of_ble_eq_true rfl) (fun b e9 => by cases e9; rfl) dX12_clauseAt_32 ⟨Nat.le_of_ble_eq_true rfl, Nat.le_of_ble_eq_true rfl⟩ ⟨Nat.le_of_ble_eq_true rfl, Nat.le_of_ble_eq_true rfl⟩ (fun x5 h H locs S w => ?_)
          refine W.cs (cells' := 0) (slots' := 0) rfl rfl ?_
          exact ql_iret C S hr hlocks dX12_clauseAt_35 ⟨Nat.le_of_ble_eq_true rfl, Nat.le_of_ble_eq_true rfl⟩ w
        · replace w := ql_ifn w c9
          refine lv_goto (tgt := 36) C.1.1 C.1.2.1 dX12_clauseAt_21 (by decide) ?_
          refine lv_iinc (v := (xl2 + (1 : Int32))) (lv' := [(2, .int (xl2 + (1 : Int32))), (0, .ref a0), (1, .int xl1)]) C.1.1 C.1.2.1 dX12_clauseAt_36 hl (k := 2) rfl rfl (by decide) rfl (fun ls hl => ?_)
          refine lv_goto (tgt := 2) C.1.1 C.1.2.1 dX12_clauseAt_39 (by decide) ?_
          exact ih xl1 (xl2 + (1 : Int32)) _ _ _ _ S (lv_sub hl [1, 2, 0] rfl) w
  unfold qw_X12_clauseAt at w
  refine lv_iconst (v := (0 : Int32)) C.1.1 C.1.2.1 dX12_clauseAt_0 (by decide) ?_
  refine lv_istore_n (lv' := [(2, .int (0 : Int32)), (0, .ref a0), (1, .int xp1)]) C.1.1 C.1.2.1 dX12_clauseAt_1 rfl hl (by decide) rfl (fun ls hl => ?_)
  exact hB2 ql_FU xp1 (0 : Int32) _ _ _ _ S (lv_sub hl [1, 2, 0] rfl) w
def qw_X12_clauseOfSection_14 (a0 : Nat) (Q : Int32 → ql_H → Prop) (xl1 : Int32) (rs0 : Option Nat) (xs1 : Int32) (h : ql_H) : Prop :=
ql_rv h rs0 13 fun b1 => qw_X12_fails b1 xs1 h (fun x1 h =>
if x1 = 0 then (ql_rv h (some a0) 13 fun b3 => qw_X12_withSection b3 xl1 h (fun x3 h =>
ql_rv h (some a0) 13 fun b5 => qw_X12_of b5 x3 (0 : Int32) h (fun x5 h =>
Q x5 h))) else (Q (0 : Int32) h))
def qw_X12_clauseOfSection (a0 : Nat) (xp1 : Int32) (h : ql_H) (Q : Int32 → ql_H → Prop) : Prop :=
ql_rv h (some a0) 13 fun b7 => qw_X12_withSection b7 xp1 h (fun x7 h =>
if 0 ≤ x7 then (qw_X12_clauseOfSection_14 a0 Q xp1 (some a0) (0 : Int32) h) else (qw_X12_clauseOfSection_14 a0 Q xp1 (some a0) (1 : Int32) h))
set_option maxHeartbeats 4000000 in
set_option maxRecDepth 100000 in
theorem qm_X12_clauseOfSection (l : Launch) (hl9 : l.stackTraces = false) (D : ql_D) (h0 : ql_H) (a0 : Nat) (xp1 : Int32) (Q : Int32 → ql_H → Prop) (X : String → ql_H → Prop) (w : qw_X12_clauseOfSection a0 xp1 h0 Q) : ql_M D l yX12_clauseOfSection cX12_clauseOfSection 2 (some .int) ({ frames := 6, cells := 0, slots := 0, locals := 108 } : Room) h0 [.ref a0, .int xp1] (ql_rI Q) X 0 0 := by
  refine ql_ofW (by decide) (Nat.le_of_ble_eq_true rfl) ?_
  intro p e s m below meth c ls C hr hlocks hnm htab S hl
  have hl : lv_has ls 2 [(0, .ref a0), (1, .int xp1)] := hl
  have hB14 : ∀ (xl1 : Int32) (rs0 : Option Nat) (xs1 : Int32) (h : ql_H) (H : Heap) (locs : List Loc) (ls : Array Slot), ql_S D h0 s H locs h → lv_has ls 2 [(0, .ref a0), (1, .int xl1)] → qw_X12_clauseOfSection_14 a0 Q xl1 rs0 xs1 h → W p l e ({ frames := 6, cells := 0, slots := 0, locals := 108 } : Room) s m ([.ref a0, .int xp1] : List Value).toArray below meth c H locs 0 0 (vx_MQ below (ql_Q D h0 (ql_rI Q)) (ql_X D h0 X) ([.ref a0, .int xp1] : List Value).toArray s 0 0 (ql_A h0)) (F0 m 14 ls [.int xs1, va_rf rs0]) := by
    intro xl1 rs0 xs1 h H locs ls S hl w
    unfold qw_X12_clauseOfSection_14 at w
    refine ql_VI (As := [.int xs1]) (rest := []) C S htab hlocks hl qy_X12_fails qi_X12_fails qs_X12_fails gw_1749 (ci := 13) rfl w (fun b w => qm_X12_fails l hl9 D _ b xs1 _ _ w) rfl ⟨Nat.le_of_ble_eq_true rfl, Nat.le_of_ble_eq_true rfl⟩ ⟨rfl, rfl⟩ (by exact Nat.le_of_ble_eq_true rfl) (fun b e9 => by cases e9; rfl) dX12_clauseOfSection_14 ⟨Nat.le_of_ble_eq_true rfl, Nat.le_of_ble_eq_true rfl⟩ ⟨Nat.le_of_ble_eq_true rfl, Nat.le_of_ble_eq_true rfl⟩ (fun x1 h H locs S w => ?_)
    refine W.cs (cells' := 0) (slots' := 0) rfl rfl ?_
    refine lv_if_eq (tgt := 24) C.1.1 C.1.2.1 dX12_clauseOfSection_17 (by decide) (fun c9 => ?_) (fun c9 => ?_)
    · replace w := ql_if w c9
      refine ql_aload_n (r := (some a0)) C dX12_clauseOfSection_24 rfl (lv_at hl 0 rfl) ?_
      refine ql_aload_n (r := (some a0)) C dX12_clauseOfSection_25 rfl (lv_at hl 0 rfl) ?_
      refine lv_iload_n C.1.1 C.1.2.1 dX12_clauseOfSection_26 rfl (lv_at hl 1 rfl) ?_
      refine ql_VI (As := [.int xl1]) (rest := [.ref a0]) C S htab hlocks hl qy_X12_withSection qi_X12_withSection qs_X12_withSection gw_1741 (ci := 13) rfl w (fun b w => qm_X12_withSection l hl9 D _ b xl1 _ _ w) rfl ⟨Nat.le_of_ble_eq_true rfl, Nat.le_of_ble_eq_true rfl⟩ ⟨rfl, rfl⟩ (by exact Nat.le_of_ble_eq_true rfl) (fun b e9 => by cases e9; rfl) dX12_clauseOfSection_27 ⟨Nat.le_of_ble_eq_true rfl, Nat.le_of_ble_eq_true rfl⟩ ⟨Nat.le_of_ble_eq_true rfl, Nat.le_of_ble_eq_true rfl⟩ (fun x3 h H locs S w => ?_)
      refine W.cs (cells' := 0) (slots' := 0) rfl rfl ?_
      refine lv_iconst (v := (0 : Int32)) C.1.1 C.1.2.1 dX12_clauseOfSection_30 (by decide) ?_
      refine ql_VI (As := [.int x3, .int (0 : Int32)]) (rest := []) C S htab hlocks hl qy_X12_of qi_X12_of qs_X12_of gw_1745 (ci := 13) rfl w (fun b w => qm_X12_of l hl9 D _ b x3 (0 : Int32) _ _ w) rfl ⟨Nat.le_of_ble_eq_true rfl, Nat.le_of_ble_eq_true rfl⟩ ⟨rfl, rfl⟩ (by exact Nat.le_of_ble_eq_true rfl) (fun b e9 => by cases e9; rfl) dX12_clauseOfSection_31 ⟨Nat.le_of_ble_eq_true rfl, Nat.le_of_ble_eq_true rfl⟩ ⟨Nat.le_of_ble_eq_true rfl, Nat.le_of_ble_eq_true rfl⟩ (fun x5 h H locs S w => ?_)
      refine W.cs (cells' := 0) (slots' := 0) rfl rfl ?_
      exact ql_iret C S hr hlocks dX12_clauseOfSection_34 ⟨Nat.le_of_ble_eq_true rfl, Nat.le_of_ble_eq_true rfl⟩ w
    · replace w := ql_ifn w c9
      refine lv_iconst (v := (0 : Int32)) C.1.1 C.1.2.1 dX12_clauseOfSection_20 (by decide) ?_
      refine lv_goto (tgt := 34) C.1.1 C.1.2.1 dX12_clauseOfSection_21 (by decide) ?_
      exact ql_iret C S hr hlocks dX12_clauseOfSection_34 ⟨Nat.le_of_ble_eq_true rfl, Nat.le_of_ble_eq_true rfl⟩ w
  unfold qw_X12_clauseOfSection at w
  refine ql_aload_n (r := (some a0)) C dX12_clauseOfSection_0 rfl (lv_at hl 0 rfl) ?_
  refine ql_aload_n (r := (some a0)) C dX12_clauseOfSection_1 rfl (lv_at hl 0 rfl) ?_
  refine lv_iload_n C.1.1 C.1.2.1 dX12_clauseOfSection_2 rfl (lv_at hl 1 rfl) ?_
  refine ql_VI (As := [.int xp1]) (rest := [.ref a0]) C S htab hlocks hl qy_X12_withSection qi_X12_withSection qs_X12_withSection gw_1741 (ci := 13) rfl w (fun b w => qm_X12_withSection l hl9 D _ b xp1 _ _ w) rfl ⟨Nat.le_of_ble_eq_true rfl, Nat.le_of_ble_eq_true rfl⟩ ⟨rfl, rfl⟩ (by exact Nat.le_of_ble_eq_true rfl) (fun b e9 => by cases e9; rfl) dX12_clauseOfSection_3 ⟨Nat.le_of_ble_eq_true rfl, Nat.le_of_ble_eq_true rfl⟩ ⟨Nat.le_of_ble_eq_true rfl, Nat.le_of_ble_eq_true rfl⟩ (fun x7 h H locs S w => ?_)
  refine W.cs (cells' := 0) (slots' := 0) rfl rfl ?_
  refine lv_if_ge (tgt := 13) C.1.1 C.1.2.1 dX12_clauseOfSection_6 (by decide) (fun c9 => ?_) (fun c9 => ?_)
  · replace w := ql_if w c9
    refine lv_iconst (v := (0 : Int32)) C.1.1 C.1.2.1 dX12_clauseOfSection_13 (by decide) ?_
    exact hB14 xp1 (some a0) (0 : Int32) _ _ _ _ S (lv_sub hl [0, 1] rfl) w
  · replace w := ql_ifn w c9
    refine lv_iconst (v := (1 : Int32)) C.1.1 C.1.2.1 dX12_clauseOfSection_9 (by decide) ?_
    refine lv_goto (tgt := 14) C.1.1 C.1.2.1 dX12_clauseOfSection_10 (by decide) ?_
    exact hB14 xp1 (some a0) (1 : Int32) _ _ _ _ S (lv_sub hl [0, 1] rfl) w
def qw_X12_section (a0 : Nat) (xp1 : Int32) (h : ql_H) (Q : Int32 → ql_H → Prop) : Prop :=
ql_rv h (some a0) 13 fun b1 => qw_X12_isNone b1 xp1 h (fun x1 h =>
if x1 = 0 then (ql_rv h (some a0) 13 fun b3 => qw_X12_placeOf b3 xp1 h (fun x3 h =>
ql_rv h (some a0) 13 fun b5 => qw_X12_of b5 x3 (1 : Int32) h (fun x5 h =>
Q x5 h))) else (Q (0 : Int32) h))
set_option maxHeartbeats 4000000 in
set_option maxRecDepth 100000 in
theorem qm_X12_section (l : Launch) (hl9 : l.stackTraces = false) (D : ql_D) (h0 : ql_H) (a0 : Nat) (xp1 : Int32) (Q : Int32 → ql_H → Prop) (X : String → ql_H → Prop) (w : qw_X12_section a0 xp1 h0 Q) : ql_M D l yX12_section cX12_section 2 (some .int) ({ frames := 8, cells := 0, slots := 0, locals := 137 } : Room) h0 [.ref a0, .int xp1] (ql_rI Q) X 0 0 := by
  refine ql_ofW (by decide) (Nat.le_of_ble_eq_true rfl) ?_
  intro p e s m below meth c ls C hr hlocks hnm htab S hl
  have hl : lv_has ls 2 [(0, .ref a0), (1, .int xp1)] := hl
  unfold qw_X12_section at w
  refine ql_aload_n (r := (some a0)) C dX12_section_0 rfl (lv_at hl 0 rfl) ?_
  refine lv_iload_n C.1.1 C.1.2.1 dX12_section_1 rfl (lv_at hl 1 rfl) ?_
  refine ql_VI (As := [.int xp1]) (rest := []) C S htab hlocks hl qy_X12_isNone qi_X12_isNone qs_X12_isNone gw_1872 (ci := 13) rfl w (fun b w => qm_X12_isNone l hl9 D _ b xp1 _ _ w) rfl ⟨Nat.le_of_ble_eq_true rfl, Nat.le_of_ble_eq_true rfl⟩ ⟨rfl, rfl⟩ (by exact Nat.le_of_ble_eq_true rfl) (fun b e9 => by cases e9; rfl) dX12_section_2 ⟨Nat.le_of_ble_eq_true rfl, Nat.le_of_ble_eq_true rfl⟩ ⟨Nat.le_of_ble_eq_true rfl, Nat.le_of_ble_eq_true rfl⟩ (fun x1 h H locs S w => ?_)
  refine W.cs (cells' := 0) (slots' := 0) rfl rfl ?_
  refine lv_if_eq (tgt := 12) C.1.1 C.1.2.1 dX12_section_5 (by decide) (fun c9 => ?_) (fun c9 => ?_)
  · replace w := ql_if w c9
    refine ql_aload_n (r := (some a0)) C dX12_section_12 rfl (lv_at hl 0 rfl) ?_
    refine ql_aload_n (r := (some a0)) C dX12_section_13 rfl (lv_at hl 0 rfl) ?_
    refine lv_iload_n C.1.1 C.1.2.1 dX12_section_14 rfl (lv_at hl 1 rfl) ?_
    refine ql_VI (As := [.int xp1]) (rest := [.ref a0]) C S htab hlocks hl qy_X12_placeOf qi_X12_placeOf qs_X12_placeOf gw_1772 (ci := 13) rfl w (fun b w => qm_X12_placeOf l hl9 D _ b xp1 _ _ w) rfl ⟨Nat.le_of_ble_eq_true rfl, Nat.le_of_ble_eq_true rfl⟩ ⟨rfl, rfl⟩ (by exact Nat.le_of_ble_eq_true rfl) (fun b e9 => by cases e9; rfl) dX12_section_15 ⟨Nat.le_of_ble_eq_true rfl, Nat.le_of_ble_eq_true rfl⟩ ⟨Nat.le_of_ble_eq_true rfl, Nat.le_of_ble_eq_true rfl⟩ (fun x3 h H locs S w => ?_)
    refine W.cs (cells' := 0) (slots' := 0) rfl rfl ?_
    refine lv_iconst (v := (1 : Int32)) C.1.1 C.1.2.1 dX12_section_18 (by decide) ?_
    refine ql_VI (As := [.int x3, .int (1 : Int32)]) (rest := []) C S htab hlocks hl qy_X12_of qi_X12_of qs_X12_of gw_1745 (ci := 13) rfl w (fun b w => qm_X12_of l hl9 D _ b x3 (1 : Int32) _ _ w) rfl ⟨Nat.le_of_ble_eq_true rfl, Nat.le_of_ble_eq_true rfl⟩ ⟨rfl, rfl⟩ (by exact Nat.le_of_ble_eq_true rfl) (fun b e9 => by cases e9; rfl) dX12_section_19 ⟨Nat.le_of_ble_eq_true rfl, Nat.le_of_ble_eq_true rfl⟩ ⟨Nat.le_of_ble_eq_true rfl, Nat.le_of_ble_eq_true rfl⟩ (fun x5 h H locs S w => ?_)
    refine W.cs (cells' := 0) (slots' := 0) rfl rfl ?_
    exact ql_iret C S hr hlocks dX12_section_22 ⟨Nat.le_of_ble_eq_true rfl, Nat.le_of_ble_eq_true rfl⟩ w
  · replace w := ql_ifn w c9
    refine lv_iconst (v := (0 : Int32)) C.1.1 C.1.2.1 dX12_section_8 (by decide) ?_
    refine lv_goto (tgt := 22) C.1.1 C.1.2.1 dX12_section_9 (by decide) ?_
    exact ql_iret C S hr hlocks dX12_section_22 ⟨Nat.le_of_ble_eq_true rfl, Nat.le_of_ble_eq_true rfl⟩ w
def qw_X12_enactedOn (a0 : Nat) (xp1 : Int32) (h : ql_H) (Q : Int32 → ql_H → Prop) : Prop :=
ql_rv h (some a0) 13 fun b1 => qw_X12_isNone b1 xp1 h (fun x1 h =>
if x1 = 0 then (ql_rv h (some a0) 13 fun b3 => qw_X12_placeOf b3 xp1 h (fun x3 h =>
ql_rv h (some a0) 13 fun b5 => qw_X12_of b5 x3 (2 : Int32) h (fun x5 h =>
Q x5 h))) else (Q (0 : Int32) h))
set_option maxHeartbeats 4000000 in
set_option maxRecDepth 100000 in
theorem qm_X12_enactedOn (l : Launch) (hl9 : l.stackTraces = false) (D : ql_D) (h0 : ql_H) (a0 : Nat) (xp1 : Int32) (Q : Int32 → ql_H → Prop) (X : String → ql_H → Prop) (w : qw_X12_enactedOn a0 xp1 h0 Q) : ql_M D l yX12_enactedOn cX12_enactedOn 2 (some .int) ({ frames := 8, cells := 0, slots := 0, locals := 137 } : Room) h0 [.ref a0, .int xp1] (ql_rI Q) X 0 0 := by
  refine ql_ofW (by decide) (Nat.le_of_ble_eq_true rfl) ?_
  intro p e s m below meth c ls C hr hlocks hnm htab S hl
  have hl : lv_has ls 2 [(0, .ref a0), (1, .int xp1)] := hl
  unfold qw_X12_enactedOn at w
  refine ql_aload_n (r := (some a0)) C dX12_enactedOn_0 rfl (lv_at hl 0 rfl) ?_
  refine lv_iload_n C.1.1 C.1.2.1 dX12_enactedOn_1 rfl (lv_at hl 1 rfl) ?_
  refine ql_VI (As := [.int xp1]) (rest := []) C S htab hlocks hl qy_X12_isNone qi_X12_isNone qs_X12_isNone gw_1872 (ci := 13) rfl w (fun b w => qm_X12_isNone l hl9 D _ b xp1 _ _ w) rfl ⟨Nat.le_of_ble_eq_true rfl, Nat.le_of_ble_eq_true rfl⟩ ⟨rfl, rfl⟩ (by exact Nat.le_of_ble_eq_true rfl) (fun b e9 => by cases e9; rfl) dX12_enactedOn_2 ⟨Nat.le_of_ble_eq_true rfl, Nat.le_of_ble_eq_true rfl⟩ ⟨Nat.le_of_ble_eq_true rfl, Nat.le_of_ble_eq_true rfl⟩ (fun x1 h H locs S w => ?_)
  refine W.cs (cells' := 0) (slots' := 0) rfl rfl ?_
  refine lv_if_eq (tgt := 12) C.1.1 C.1.2.1 dX12_enactedOn_5 (by decide) (fun c9 => ?_) (fun c9 => ?_)
  · replace w := ql_if w c9
    refine ql_aload_n (r := (some a0)) C dX12_enactedOn_12 rfl (lv_at hl 0 rfl) ?_
    refine ql_aload_n (r := (some a0)) C dX12_enactedOn_13 rfl (lv_at hl 0 rfl) ?_
    refine lv_iload_n C.1.1 C.1.2.1 dX12_enactedOn_14 rfl (lv_at hl 1 rfl) ?_
    refine ql_VI (As := [.int xp1]) (rest := [.ref a0]) C S htab hlocks hl qy_X12_placeOf qi_X12_placeOf qs_X12_placeOf gw_1772 (ci := 13) rfl w (fun b w => qm_X12_placeOf l hl9 D _ b xp1 _ _ w) rfl ⟨Nat.le_of_ble_eq_true rfl, Nat.le_of_ble_eq_true rfl⟩ ⟨rfl, rfl⟩ (by exact Nat.le_of_ble_eq_true rfl) (fun b e9 => by cases e9; rfl) dX12_enactedOn_15 ⟨Nat.le_of_ble_eq_true rfl, Nat.le_of_ble_eq_true rfl⟩ ⟨Nat.le_of_ble_eq_true rfl, Nat.le_of_ble_eq_true rfl⟩ (fun x3 h H locs S w => ?_)
    refine W.cs (cells' := 0) (slots' := 0) rfl rfl ?_
    refine lv_iconst (v := (2 : Int32)) C.1.1 C.1.2.1 dX12_enactedOn_18 (by decide) ?_
    refine ql_VI (As := [.int x3, .int (2 : Int32)]) (rest := []) C S htab hlocks hl qy_X12_of qi_X12_of qs_X12_of gw_1745 (ci := 13) rfl w (fun b w => qm_X12_of l hl9 D _ b x3 (2 : Int32) _ _ w) rfl ⟨Nat.le_of_ble_eq_true rfl, Nat.le_of_ble_eq_true rfl⟩ ⟨rfl, rfl⟩ (by exact Nat.le_of_ble_eq_true rfl) (fun b e9 => by cases e9; rfl) dX12_enactedOn_19 ⟨Nat.le_of_ble_eq_true rfl, Nat.le_of_ble_eq_true rfl⟩ ⟨Nat.le_of_ble_eq_true rfl, Nat.le_of_ble_eq_true rfl⟩ (fun x5 h H locs S w => ?_)
    refine W.cs (cells' := 0) (slots' := 0) rfl rfl ?_
    exact ql_iret C S hr hlocks dX12_enactedOn_22 ⟨Nat.le_of_ble_eq_true rfl, Nat.le_of_ble_eq_true rfl⟩ w
  · replace w := ql_ifn w c9
    refine lv_iconst (v := (0 : Int32)) C.1.1 C.1.2.1 dX12_enactedOn_8 (by decide) ?_
    refine lv_goto (tgt := 22) C.1.1 C.1.2.1 dX12_enactedOn_9 (by decide) ?_
    exact ql_iret C S hr hlocks dX12_enactedOn_22 ⟨Nat.le_of_ble_eq_true rfl, Nat.le_of_ble_eq_true rfl⟩ w
def qw_X12_isEndless_27 (a0 : Nat) (Q : Int32 → ql_H → Prop) (rs0 : Option Nat) (xs1 : Int32) (h : ql_H) : Prop :=
ql_rv h rs0 13 fun b1 => qw_X12_fails b1 xs1 h (fun x1 h =>
ql_nz .boolean x1 ∧ Q x1 h)
def qw_X12_isEndless_22 (a0 : Nat) (Q : Int32 → ql_H → Prop) (rs0 : Option Nat) (h : ql_H) : Prop :=
qw_X12_isEndless_27 a0 Q rs0 (1 : Int32) h
def qw_X12_isEndless (a0 : Nat) (xp1 : Int32) (h : ql_H) (Q : Int32 → ql_H → Prop) : Prop :=
ql_rv h (some a0) 13 fun b3 => qw_X12_placeOf b3 xp1 h (fun x3 h =>
if x3 < 0 then (qw_X12_isEndless_22 a0 Q (some a0) h) else (ql_rv h (some a0) 13 fun b5 => qw_X12_placeOf b5 xp1 h (fun x5 h =>
ql_rv h (some a0) 13 fun b7 => qw_X12_of b7 x5 (3 : Int32) h (fun x7 h =>
if 0 ≤ x7 then (qw_X12_isEndless_27 a0 Q (some a0) (0 : Int32) h) else (qw_X12_isEndless_22 a0 Q (some a0) h)))))
set_option maxHeartbeats 4000000 in
set_option maxRecDepth 100000 in
theorem qm_X12_isEndless (l : Launch) (hl9 : l.stackTraces = false) (D : ql_D) (h0 : ql_H) (a0 : Nat) (xp1 : Int32) (Q : Int32 → ql_H → Prop) (X : String → ql_H → Prop) (w : qw_X12_isEndless a0 xp1 h0 Q) : ql_M D l yX12_isEndless cX12_isEndless 2 (some .boolean) ({ frames := 6, cells := 0, slots := 0, locals := 108 } : Room) h0 [.ref a0, .int xp1] (ql_rI Q) X 0 0 := by
  refine ql_ofW (by decide) (Nat.le_of_ble_eq_true rfl) ?_
  intro p e s m below meth c ls C hr hlocks hnm htab S hl
  have hl : lv_has ls 2 [(0, .ref a0), (1, .int xp1)] := hl
  have hB27 : ∀ (rs0 : Option Nat) (xs1 : Int32) (h : ql_H) (H : Heap) (locs : List Loc) (ls : Array Slot), ql_S D h0 s H locs h → lv_has ls 2 [] → qw_X12_isEndless_27 a0 Q rs0 xs1 h → W p l e ({ frames := 6, cells := 0, slots := 0, locals := 108 } : Room) s m ([.ref a0, .int xp1] : List Value).toArray below meth c H locs 0 0 (vx_MQ below (ql_Q D h0 (ql_rI Q)) (ql_X D h0 X) ([.ref a0, .int xp1] : List Value).toArray s 0 0 (ql_A h0)) (F0 m 27 ls [.int xs1, va_rf rs0]) := by
    intro rs0 xs1 h H locs ls S hl w
    unfold qw_X12_isEndless_27 at w
    refine ql_VI (As := [.int xs1]) (rest := []) C S htab hlocks hl qy_X12_fails qi_X12_fails qs_X12_fails gw_1749 (ci := 13) rfl w (fun b w => qm_X12_fails l hl9 D _ b xs1 _ _ w) rfl ⟨Nat.le_of_ble_eq_true rfl, Nat.le_of_ble_eq_true rfl⟩ ⟨rfl, rfl⟩ (by exact Nat.le_of_ble_eq_true rfl) (fun b e9 => by cases e9; rfl) dX12_isEndless_27 ⟨Nat.le_of_ble_eq_true rfl, Nat.le_of_ble_eq_true rfl⟩ ⟨Nat.le_of_ble_eq_true rfl, Nat.le_of_ble_eq_true rfl⟩ (fun x1 h H locs S w => ?_)
    refine W.cs (cells' := 0) (slots' := 0) rfl rfl ?_
    exact ql_zret C S hr hlocks dX12_isEndless_30 ⟨Nat.le_of_ble_eq_true rfl, Nat.le_of_ble_eq_true rfl⟩ w
  have hB22 : ∀ (rs0 : Option Nat) (h : ql_H) (H : Heap) (locs : List Loc) (ls : Array Slot), ql_S D h0 s H locs h → lv_has ls 2 [] → qw_X12_isEndless_22 a0 Q rs0 h → W p l e ({ frames := 6, cells := 0, slots := 0, locals := 108 } : Room) s m ([.ref a0, .int xp1] : List Value).toArray below meth c H locs 0 0 (vx_MQ below (ql_Q D h0 (ql_rI Q)) (ql_X D h0 X) ([.ref a0, .int xp1] : List Value).toArray s 0 0 (ql_A h0)) (F0 m 22 ls [va_rf rs0]) := by
    intro rs0 h H locs ls S hl w
    unfold qw_X12_isEndless_22 at w
    refine lv_iconst (v := (1 : Int32)) C.1.1 C.1.2.1 dX12_isEndless_22 (by decide) ?_
    refine lv_goto (tgt := 27) C.1.1 C.1.2.1 dX12_isEndless_23 (by decide) ?_
    exact hB27 rs0 (1 : Int32) _ _ _ _ S (lv_sub hl [] rfl) w
  unfold qw_X12_isEndless at w
  refine ql_aload_n (r := (some a0)) C dX12_isEndless_0 rfl (lv_at hl 0 rfl) ?_
  refine ql_aload_n (r := (some a0)) C dX12_isEndless_1 rfl (lv_at hl 0 rfl) ?_
  refine lv_iload_n C.1.1 C.1.2.1 dX12_isEndless_2 rfl (lv_at hl 1 rfl) ?_
  refine ql_VI (As := [.int xp1]) (rest := [.ref a0]) C S htab hlocks hl qy_X12_placeOf qi_X12_placeOf qs_X12_placeOf gw_1772 (ci := 13) rfl w (fun b w => qm_X12_placeOf l hl9 D _ b xp1 _ _ w) rfl ⟨Nat.le_of_ble_eq_true rfl, Nat.le_of_ble_eq_true rfl⟩ ⟨rfl, rfl⟩ (by exact Nat.le_of_ble_eq_true rfl) (fun b e9 => by cases e9; rfl) dX12_isEndless_3 ⟨Nat.le_of_ble_eq_true rfl, Nat.le_of_ble_eq_true rfl⟩ ⟨Nat.le_of_ble_eq_true rfl, Nat.le_of_ble_eq_true rfl⟩ (fun x3 h H locs S w => ?_)
  refine W.cs (cells' := 0) (slots' := 0) rfl rfl ?_
  refine lv_if_lt (tgt := 22) C.1.1 C.1.2.1 dX12_isEndless_6 (by decide) (fun c9 => ?_) (fun c9 => ?_)
  · replace w := ql_if w c9
    exact hB22 (some a0) _ _ _ _ S (lv_sub hl [] rfl) w
  · replace w := ql_ifn w c9
    refine ql_aload_n (r := (some a0)) C dX12_isEndless_9 rfl (lv_at hl 0 rfl) ?_
    refine ql_aload_n (r := (some a0)) C dX12_isEndless_10 rfl (lv_at hl 0 rfl) ?_
    refine lv_iload_n C.1.1 C.1.2.1 dX12_isEndless_11 rfl (lv_at hl 1 rfl) ?_
    refine ql_VI (As := [.int xp1]) (rest := [.ref a0, .ref a0]) C S htab hlocks hl qy_X12_placeOf qi_X12_placeOf qs_X12_placeOf gw_1772 (ci := 13) rfl w (fun b w => qm_X12_placeOf l hl9 D _ b xp1 _ _ w) rfl ⟨Nat.le_of_ble_eq_true rfl, Nat.le_of_ble_eq_true rfl⟩ ⟨rfl, rfl⟩ (by exact Nat.le_of_ble_eq_true rfl) (fun b e9 => by cases e9; rfl) dX12_isEndless_12 ⟨Nat.le_of_ble_eq_true rfl, Nat.le_of_ble_eq_true rfl⟩ ⟨Nat.le_of_ble_eq_true rfl, Nat.le_of_ble_eq_true rfl⟩ (fun x5 h H locs S w => ?_)
    refine W.cs (cells' := 0) (slots' := 0) rfl rfl ?_
    refine lv_iconst (v := (3 : Int32)) C.1.1 C.1.2.1 dX12_isEndless_15 (by decide) ?_
    refine ql_VI (As := [.int x5, .int (3 : Int32)]) (rest := [.ref a0]) C S htab hlocks hl qy_X12_of qi_X12_of qs_X12_of gw_1745 (ci := 13) rfl w (fun b w => qm_X12_of l hl9 D _ b x5 (3 : Int32) _ _ w) rfl ⟨Nat.le_of_ble_eq_true rfl, Nat.le_of_ble_eq_true rfl⟩ ⟨rfl, rfl⟩ (by exact Nat.le_of_ble_eq_true rfl) (fun b e9 => by cases e9; rfl) dX12_isEndless_16 ⟨Nat.le_of_ble_eq_true rfl, Nat.le_of_ble_eq_true rfl⟩ ⟨Nat.le_of_ble_eq_true rfl, Nat.le_of_ble_eq_true rfl⟩ (fun x7 h H locs S w => ?_)
    refine W.cs (cells' := 0) (slots' := 0) rfl rfl ?_
    refine lv_if_ge (tgt := 26) C.1.1 C.1.2.1 dX12_isEndless_19 (by decide) (fun c9 => ?_) (fun c9 => ?_)
    · replace w := ql_if w c9
      refine lv_iconst (v := (0 : Int32)) C.1.1 C.1.2.1 dX12_isEndless_26 (by decide) ?_
      exact hB27 (some a0) (0 : Int32) _ _ _ _ S (lv_sub hl [] rfl) w
    · replace w := ql_ifn w c9
      exact hB22 (some a0) _ _ _ _ S (lv_sub hl [] rfl) w
def qw_X12_sunset (a0 : Nat) (xp1 : Int32) (h : ql_H) (Q : Int32 → ql_H → Prop) : Prop :=
ql_rv h (some a0) 13 fun b1 => qw_X12_isEndless b1 xp1 h (fun x1 h =>
if x1 = 0 then (ql_rv h (some a0) 13 fun b3 => qw_X12_placeOf b3 xp1 h (fun x3 h =>
ql_rv h (some a0) 13 fun b5 => qw_X12_of b5 x3 (3 : Int32) h (fun x5 h =>
Q x5 h))) else (Q (0 : Int32) h))
set_option maxHeartbeats 4000000 in
set_option maxRecDepth 100000 in
theorem qm_X12_sunset (l : Launch) (hl9 : l.stackTraces = false) (D : ql_D) (h0 : ql_H) (a0 : Nat) (xp1 : Int32) (Q : Int32 → ql_H → Prop) (X : String → ql_H → Prop) (w : qw_X12_sunset a0 xp1 h0 Q) : ql_M D l yX12_sunset cX12_sunset 2 (some .int) ({ frames := 8, cells := 0, slots := 0, locals := 137 } : Room) h0 [.ref a0, .int xp1] (ql_rI Q) X 0 0 := by
  refine ql_ofW (by decide) (Nat.le_of_ble_eq_true rfl) ?_
  intro p e s m below meth c ls C hr hlocks hnm htab S hl
  have hl : lv_has ls 2 [(0, .ref a0), (1, .int xp1)] := hl
  unfold qw_X12_sunset at w
  refine ql_aload_n (r := (some a0)) C dX12_sunset_0 rfl (lv_at hl 0 rfl) ?_
  refine lv_iload_n C.1.1 C.1.2.1 dX12_sunset_1 rfl (lv_at hl 1 rfl) ?_
  refine ql_VI (As := [.int xp1]) (rest := []) C S htab hlocks hl qy_X12_isEndless qi_X12_isEndless qs_X12_isEndless gw_1884 (ci := 13) rfl w (fun b w => qm_X12_isEndless l hl9 D _ b xp1 _ _ w) rfl ⟨Nat.le_of_ble_eq_true rfl, Nat.le_of_ble_eq_true rfl⟩ ⟨rfl, rfl⟩ (by exact Nat.le_of_ble_eq_true rfl) (fun b e9 => by cases e9; rfl) dX12_sunset_2 ⟨Nat.le_of_ble_eq_true rfl, Nat.le_of_ble_eq_true rfl⟩ ⟨Nat.le_of_ble_eq_true rfl, Nat.le_of_ble_eq_true rfl⟩ (fun x1 h H locs S w => ?_)
  refine W.cs (cells' := 0) (slots' := 0) rfl rfl ?_
  refine lv_if_eq (tgt := 12) C.1.1 C.1.2.1 dX12_sunset_5 (by decide) (fun c9 => ?_) (fun c9 => ?_)
  · replace w := ql_if w c9
    refine ql_aload_n (r := (some a0)) C dX12_sunset_12 rfl (lv_at hl 0 rfl) ?_
    refine ql_aload_n (r := (some a0)) C dX12_sunset_13 rfl (lv_at hl 0 rfl) ?_
    refine lv_iload_n C.1.1 C.1.2.1 dX12_sunset_14 rfl (lv_at hl 1 rfl) ?_
    refine ql_VI (As := [.int xp1]) (rest := [.ref a0]) C S htab hlocks hl qy_X12_placeOf qi_X12_placeOf qs_X12_placeOf gw_1772 (ci := 13) rfl w (fun b w => qm_X12_placeOf l hl9 D _ b xp1 _ _ w) rfl ⟨Nat.le_of_ble_eq_true rfl, Nat.le_of_ble_eq_true rfl⟩ ⟨rfl, rfl⟩ (by exact Nat.le_of_ble_eq_true rfl) (fun b e9 => by cases e9; rfl) dX12_sunset_15 ⟨Nat.le_of_ble_eq_true rfl, Nat.le_of_ble_eq_true rfl⟩ ⟨Nat.le_of_ble_eq_true rfl, Nat.le_of_ble_eq_true rfl⟩ (fun x3 h H locs S w => ?_)
    refine W.cs (cells' := 0) (slots' := 0) rfl rfl ?_
    refine lv_iconst (v := (3 : Int32)) C.1.1 C.1.2.1 dX12_sunset_18 (by decide) ?_
    refine ql_VI (As := [.int x3, .int (3 : Int32)]) (rest := []) C S htab hlocks hl qy_X12_of qi_X12_of qs_X12_of gw_1745 (ci := 13) rfl w (fun b w => qm_X12_of l hl9 D _ b x3 (3 : Int32) _ _ w) rfl ⟨Nat.le_of_ble_eq_true rfl, Nat.le_of_ble_eq_true rfl⟩ ⟨rfl, rfl⟩ (by exact Nat.le_of_ble_eq_true rfl) (fun b e9 => by cases e9; rfl) dX12_sunset_19 ⟨Nat.le_of_ble_eq_true rfl, Nat.le_of_ble_eq_true rfl⟩ ⟨Nat.le_of_ble_eq_true rfl, Nat.le_of_ble_eq_true rfl⟩ (fun x5 h H locs S w => ?_)
    refine W.cs (cells' := 0) (slots' := 0) rfl rfl ?_
    exact ql_iret C S hr hlocks dX12_sunset_22 ⟨Nat.le_of_ble_eq_true rfl, Nat.le_of_ble_eq_true rfl⟩ w
  · replace w := ql_ifn w c9
    refine lv_iconst (v := (0 : Int32)) C.1.1 C.1.2.1 dX12_sunset_8 (by decide) ?_
    refine lv_goto (tgt := 22) C.1.1 C.1.2.1 dX12_sunset_9 (by decide) ?_
    exact ql_iret C S hr hlocks dX12_sunset_22 ⟨Nat.le_of_ble_eq_true rfl, Nat.le_of_ble_eq_true rfl⟩ w
def qw_X12_isInForce (a0 : Nat) (xp1 : Int32) (xp2 : Int32) (h : ql_H) (Q : Int32 → ql_H → Prop) : Prop :=
ql_rv h (some a0) 13 fun b1 => qw_X12_isNone b1 xp1 h (fun x1 h =>
if x1 = 0 then (ql_rv h (some a0) 13 fun b3 => qw_X12_placeOf b3 xp1 h (fun x3 h =>
ql_rv h (some a0) 13 fun b5 => qw_X12_isValid b5 x3 xp2 h (fun x5 h =>
if x5 = 0 then (ql_nz .boolean (0 : Int32) ∧ Q (0 : Int32) h) else (ql_nz .boolean (1 : Int32) ∧ Q (1 : Int32) h)))) else (ql_nz .boolean (0 : Int32) ∧ Q (0 : Int32) h))
set_option maxHeartbeats 4000000 in
set_option maxRecDepth 100000 in
theorem qm_X12_isInForce (l : Launch) (hl9 : l.stackTraces = false) (D : ql_D) (h0 : ql_H) (a0 : Nat) (xp1 : Int32) (xp2 : Int32) (Q : Int32 → ql_H → Prop) (X : String → ql_H → Prop) (w : qw_X12_isInForce a0 xp1 xp2 h0 Q) : ql_M D l yX12_isInForce cX12_isInForce 3 (some .boolean) ({ frames := 8, cells := 0, slots := 0, locals := 137 } : Room) h0 [.ref a0, .int xp1, .int xp2] (ql_rI Q) X 0 0 := by
  refine ql_ofW (by decide) (Nat.le_of_ble_eq_true rfl) ?_
  intro p e s m below meth c ls C hr hlocks hnm htab S hl
  have hl : lv_has ls 3 [(0, .ref a0), (1, .int xp1), (2, .int xp2)] := hl
  unfold qw_X12_isInForce at w
  refine ql_aload_n (r := (some a0)) C dX12_isInForce_0 rfl (lv_at hl 0 rfl) ?_
  refine lv_iload_n C.1.1 C.1.2.1 dX12_isInForce_1 rfl (lv_at hl 1 rfl) ?_
  refine ql_VI (As := [.int xp1]) (rest := []) C S htab hlocks hl qy_X12_isNone qi_X12_isNone qs_X12_isNone gw_1872 (ci := 13) rfl w (fun b w => qm_X12_isNone l hl9 D _ b xp1 _ _ w) rfl ⟨Nat.le_of_ble_eq_true rfl, Nat.le_of_ble_eq_true rfl⟩ ⟨rfl, rfl⟩ (by exact Nat.le_of_ble_eq_true rfl) (fun b e9 => by cases e9; rfl) dX12_isInForce_2 ⟨Nat.le_of_ble_eq_true rfl, Nat.le_of_ble_eq_true rfl⟩ ⟨Nat.le_of_ble_eq_true rfl, Nat.le_of_ble_eq_true rfl⟩ (fun x1 h H locs S w => ?_)
  refine W.cs (cells' := 0) (slots' := 0) rfl rfl ?_
  refine lv_if_ne (tgt := 25) C.1.1 C.1.2.1 dX12_isInForce_5 (by decide) (fun c9 => ?_) (fun c9 => ?_)
  · replace w := ql_ifn w c9
    refine lv_iconst (v := (0 : Int32)) C.1.1 C.1.2.1 dX12_isInForce_25 (by decide) ?_
    exact ql_zret C S hr hlocks dX12_isInForce_26 ⟨Nat.le_of_ble_eq_true rfl, Nat.le_of_ble_eq_true rfl⟩ w
  · replace w := ql_if w c9
    refine ql_aload_n (r := (some a0)) C dX12_isInForce_8 rfl (lv_at hl 0 rfl) ?_
    refine ql_aload_n (r := (some a0)) C dX12_isInForce_9 rfl (lv_at hl 0 rfl) ?_
    refine lv_iload_n C.1.1 C.1.2.1 dX12_isInForce_10 rfl (lv_at hl 1 rfl) ?_
    refine ql_VI (As := [.int xp1]) (rest := [.ref a0]) C S htab hlocks hl qy_X12_placeOf qi_X12_placeOf qs_X12_placeOf gw_1772 (ci := 13) rfl w (fun b w => qm_X12_placeOf l hl9 D _ b xp1 _ _ w) rfl ⟨Nat.le_of_ble_eq_true rfl, Nat.le_of_ble_eq_true rfl⟩ ⟨rfl, rfl⟩ (by exact Nat.le_of_ble_eq_true rfl) (fun b e9 => by cases e9; rfl) dX12_isInForce_11 ⟨Nat.le_of_ble_eq_true rfl, Nat.le_of_ble_eq_true rfl⟩ ⟨Nat.le_of_ble_eq_true rfl, Nat.le_of_ble_eq_true rfl⟩ (fun x3 h H locs S w => ?_)
    refine W.cs (cells' := 0) (slots' := 0) rfl rfl ?_
    refine lv_iload_n C.1.1 C.1.2.1 dX12_isInForce_14 rfl (lv_at hl 2 rfl) ?_
    refine ql_VI (As := [.int x3, .int xp2]) (rest := []) C S htab hlocks hl qy_X12_isValid qi_X12_isValid qs_X12_isValid gw_1788 (ci := 13) rfl w (fun b w => qm_X12_isValid l hl9 D _ b x3 xp2 _ _ w) rfl ⟨Nat.le_of_ble_eq_true rfl, Nat.le_of_ble_eq_true rfl⟩ ⟨rfl, rfl⟩ (by exact Nat.le_of_ble_eq_true rfl) (fun b e9 => by cases e9; rfl) dX12_isInForce_15 ⟨Nat.le_of_ble_eq_true rfl, Nat.le_of_ble_eq_true rfl⟩ ⟨Nat.le_of_ble_eq_true rfl, Nat.le_of_ble_eq_true rfl⟩ (fun x5 h H locs S w => ?_)
    refine W.cs (cells' := 0) (slots' := 0) rfl rfl ?_
    refine lv_if_eq (tgt := 25) C.1.1 C.1.2.1 dX12_isInForce_18 (by decide) (fun c9 => ?_) (fun c9 => ?_)
    · replace w := ql_if w c9
      refine lv_iconst (v := (0 : Int32)) C.1.1 C.1.2.1 dX12_isInForce_25 (by decide) ?_
      exact ql_zret C S hr hlocks dX12_isInForce_26 ⟨Nat.le_of_ble_eq_true rfl, Nat.le_of_ble_eq_true rfl⟩ w
    · replace w := ql_ifn w c9
      refine lv_iconst (v := (1 : Int32)) C.1.1 C.1.2.1 dX12_isInForce_21 (by decide) ?_
      refine lv_goto (tgt := 26) C.1.1 C.1.2.1 dX12_isInForce_22 (by decide) ?_
      exact ql_zret C S hr hlocks dX12_isInForce_26 ⟨Nat.le_of_ble_eq_true rfl, Nat.le_of_ble_eq_true rfl⟩ w
def qw_X12_hasLapsed (a0 : Nat) (xp1 : Int32) (h : ql_H) (Q : Int32 → ql_H → Prop) : Prop :=
ql_rv h (some a0) 13 fun b1 => qw_X12_isNone b1 xp1 h (fun x1 h =>
if x1 = 0 then (ql_rv h (some a0) 13 fun b3 => qw_X12_placeOf b3 xp1 h (fun x3 h =>
ql_rv h (some a0) 13 fun b5 => qw_X12_isOver b5 x3 h (fun x5 h =>
if x5 = 0 then (ql_nz .boolean (0 : Int32) ∧ Q (0 : Int32) h) else (ql_nz .boolean (1 : Int32) ∧ Q (1 : Int32) h)))) else (ql_nz .boolean (0 : Int32) ∧ Q (0 : Int32) h))
set_option maxHeartbeats 4000000 in
set_option maxRecDepth 100000 in
theorem qm_X12_hasLapsed (l : Launch) (hl9 : l.stackTraces = false) (D : ql_D) (h0 : ql_H) (a0 : Nat) (xp1 : Int32) (Q : Int32 → ql_H → Prop) (X : String → ql_H → Prop) (w : qw_X12_hasLapsed a0 xp1 h0 Q) : ql_M D l yX12_hasLapsed cX12_hasLapsed 2 (some .boolean) ({ frames := 8, cells := 0, slots := 0, locals := 137 } : Room) h0 [.ref a0, .int xp1] (ql_rI Q) X 0 0 := by
  refine ql_ofW (by decide) (Nat.le_of_ble_eq_true rfl) ?_
  intro p e s m below meth c ls C hr hlocks hnm htab S hl
  have hl : lv_has ls 2 [(0, .ref a0), (1, .int xp1)] := hl
  unfold qw_X12_hasLapsed at w
  refine ql_aload_n (r := (some a0)) C dX12_hasLapsed_0 rfl (lv_at hl 0 rfl) ?_
  refine lv_iload_n C.1.1 C.1.2.1 dX12_hasLapsed_1 rfl (lv_at hl 1 rfl) ?_
  refine ql_VI (As := [.int xp1]) (rest := []) C S htab hlocks hl qy_X12_isNone qi_X12_isNone qs_X12_isNone gw_1872 (ci := 13) rfl w (fun b w => qm_X12_isNone l hl9 D _ b xp1 _ _ w) rfl ⟨Nat.le_of_ble_eq_true rfl, Nat.le_of_ble_eq_true rfl⟩ ⟨rfl, rfl⟩ (by exact Nat.le_of_ble_eq_true rfl) (fun b e9 => by cases e9; rfl) dX12_hasLapsed_2 ⟨Nat.le_of_ble_eq_true rfl, Nat.le_of_ble_eq_true rfl⟩ ⟨Nat.le_of_ble_eq_true rfl, Nat.le_of_ble_eq_true rfl⟩ (fun x1 h H locs S w => ?_)
  refine W.cs (cells' := 0) (slots' := 0) rfl rfl ?_
  refine lv_if_ne (tgt := 24) C.1.1 C.1.2.1 dX12_hasLapsed_5 (by decide) (fun c9 => ?_) (fun c9 => ?_)
  · replace w := ql_ifn w c9
    refine lv_iconst (v := (0 : Int32)) C.1.1 C.1.2.1 dX12_hasLapsed_24 (by decide) ?_
    exact ql_zret C S hr hlocks dX12_hasLapsed_25 ⟨Nat.le_of_ble_eq_true rfl, Nat.le_of_ble_eq_true rfl⟩ w
  · replace w := ql_if w c9
    refine ql_aload_n (r := (some a0)) C dX12_hasLapsed_8 rfl (lv_at hl 0 rfl) ?_
    refine ql_aload_n (r := (some a0)) C dX12_hasLapsed_9 rfl (lv_at hl 0 rfl) ?_
    refine lv_iload_n C.1.1 C.1.2.1 dX12_hasLapsed_10 rfl (lv_at hl 1 rfl) ?_
    refine ql_VI (As := [.int xp1]) (rest := [.ref a0]) C S htab hlocks hl qy_X12_placeOf qi_X12_placeOf qs_X12_placeOf gw_1772 (ci := 13) rfl w (fun b w => qm_X12_placeOf l hl9 D _ b xp1 _ _ w) rfl ⟨Nat.le_of_ble_eq_true rfl, Nat.le_of_ble_eq_true rfl⟩ ⟨rfl, rfl⟩ (by exact Nat.le_of_ble_eq_true rfl) (fun b e9 => by cases e9; rfl) dX12_hasLapsed_11 ⟨Nat.le_of_ble_eq_true rfl, Nat.le_of_ble_eq_true rfl⟩ ⟨Nat.le_of_ble_eq_true rfl, Nat.le_of_ble_eq_true rfl⟩ (fun x3 h H locs S w => ?_)
    refine W.cs (cells' := 0) (slots' := 0) rfl rfl ?_
    refine ql_VI (As := [.int x3]) (rest := []) C S htab hlocks hl qy_X12_isOver qi_X12_isOver qs_X12_isOver gw_1812 (ci := 13) rfl w (fun b w => qm_X12_isOver l hl9 D _ b x3 _ _ w) rfl ⟨Nat.le_of_ble_eq_true rfl, Nat.le_of_ble_eq_true rfl⟩ ⟨rfl, rfl⟩ (by exact Nat.le_of_ble_eq_true rfl) (fun b e9 => by cases e9; rfl) dX12_hasLapsed_14 ⟨Nat.le_of_ble_eq_true rfl, Nat.le_of_ble_eq_true rfl⟩ ⟨Nat.le_of_ble_eq_true rfl, Nat.le_of_ble_eq_true rfl⟩ (fun x5 h H locs S w => ?_)
    refine W.cs (cells' := 0) (slots' := 0) rfl rfl ?_
    refine lv_if_eq (tgt := 24) C.1.1 C.1.2.1 dX12_hasLapsed_17 (by decide) (fun c9 => ?_) (fun c9 => ?_)
    · replace w := ql_if w c9
      refine lv_iconst (v := (0 : Int32)) C.1.1 C.1.2.1 dX12_hasLapsed_24 (by decide) ?_
      exact ql_zret C S hr hlocks dX12_hasLapsed_25 ⟨Nat.le_of_ble_eq_true rfl, Nat.le_of_ble_eq_true rfl⟩ w
    · replace w := ql_ifn w c9
      refine lv_iconst (v := (1 : Int32)) C.1.1 C.1.2.1 dX12_hasLapsed_20 (by decide) ?_
      refine lv_goto (tgt := 25) C.1.1 C.1.2.1 dX12_hasLapsed_21 (by decide) ?_
      exact ql_zret C S hr hlocks dX12_hasLapsed_25 ⟨Nat.le_of_ble_eq_true rfl, Nat.le_of_ble_eq_true rfl⟩ w
def qw_X12_valid_29 (a0 : Nat) (Q : Int32 → ql_H → Prop) (k4 : Int32 → Int32 → Int32 → ql_H → Prop) (xl1 : Int32) (xl3 : Int32) (xs0 : Int32) (xs1 : Int32) (h : ql_H) : Prop :=
k4 xl1 (xs0 + xs1) (xl3 + (1 : Int32)) h
def qw_X12_valid_4 (a0 : Nat) (Q : Int32 → ql_H → Prop) : Nat → Int32 → Int32 → Int32 → ql_H → Prop
  | 0, _, _, _, _ => False
  | n + 1, xl1, xl2, xl3, h =>
    ql_gR h (some a0) 13 0 fun r1 =>
    ql_lI h r1 0 (0 : Int32) fun x2 =>
    if x2 ≤ xl3 then (Q xl2 h) else (ql_rv h (some a0) 13 fun b3 => qw_X12_isValid b3 xl3 xl1 h (fun x3 h =>
    if x3 = 0 then (qw_X12_valid_29 a0 Q (qw_X12_valid_4 a0 Q n) xl1 xl3 xl2 (0 : Int32) h) else (qw_X12_valid_29 a0 Q (qw_X12_valid_4 a0 Q n) xl1 xl3 xl2 (1 : Int32) h)))
def qw_X12_valid (a0 : Nat) (xp1 : Int32) (h : ql_H) (Q : Int32 → ql_H → Prop) : Prop :=
qw_X12_valid_4 a0 Q ql_FU xp1 (0 : Int32) (0 : Int32) h
set_option maxHeartbeats 4000000 in
set_option maxRecDepth 100000 in
theorem qm_X12_valid (l : Launch) (hl9 : l.stackTraces = false) (D : ql_D) (h0 : ql_H) (a0 : Nat) (xp1 : Int32) (Q : Int32 → ql_H → Prop) (X : String → ql_H → Prop) (w : qw_X12_valid a0 xp1 h0 Q) : ql_M D l yX12_valid cX12_valid 4 (some .int) ({ frames := 6, cells := 0, slots := 0, locals := 108 } : Room) h0 [.ref a0, .int xp1] (ql_rI Q) X 0 0 := by
  refine ql_ofW (by decide) (Nat.le_of_ble_eq_true rfl) ?_
  intro p e s m below meth c ls C hr hlocks hnm htab S hl
  have hl : lv_has ls 4 [(0, .ref a0), (1, .int xp1)] := hl
  have hB29 : ∀ (k4 : Int32 → Int32 → Int32 → ql_H → Prop) (hk4 : ∀ (xl1 : Int32) (xl2 : Int32) (xl3 : Int32) (h : ql_H) (H : Heap) (locs : List Loc) (ls : Array Slot), ql_S D h0 s H locs h → lv_has ls 4 [(0, .ref a0), (1, .int xl1), (2, .int xl2), (3, .int xl3)] → k4 xl1 xl2 xl3 h → W p l e ({ frames := 6, cells := 0, slots := 0, locals := 108 } : Room) s m ([.ref a0, .int xp1] : List Value).toArray below meth c H locs 0 0 (vx_MQ below (ql_Q D h0 (ql_rI Q)) (ql_X D h0 X) ([.ref a0, .int xp1] : List Value).toArray s 0 0 (ql_A h0)) (F0 m 4 ls [])) , ∀ (xl1 : Int32) (xl3 : Int32) (xs0 : Int32) (xs1 : Int32) (h : ql_H) (H : Heap) (locs : List Loc) (ls : Array Slot), ql_S D h0 s H locs h → lv_has ls 4 [(0, .ref a0), (1, .int xl1), (3, .int xl3)] → qw_X12_valid_29 a0 Q k4 xl1 xl3 xs0 xs1 h → W p l e ({ frames := 6, cells := 0, slots := 0, locals := 108 } : Room) s m ([.ref a0, .int xp1] : List Value).toArray below meth c H locs 0 0 (vx_MQ below (ql_Q D h0 (ql_rI Q)) (ql_X D h0 X) ([.ref a0, .int xp1] : List Value).toArray s 0 0 (ql_A h0)) (F0 m 29 ls [.int xs1, .int xs0]) := by
    intro k4 hk4 xl1 xl3 xs0 xs1 h H locs ls S hl w
    unfold qw_X12_valid_29 at w
    refine lv_iadd C.1.1 C.1.2.1 dX12_valid_29 ?_
    refine lv_istore_n (lv' := [(2, .int (xs0 + xs1)), (0, .ref a0), (1, .int xl1), (3, .int xl3)]) C.1.1 C.1.2.1 dX12_valid_30 rfl hl (by decide) rfl (fun ls hl => ?_)
    refine lv_iinc (v := (xl3 + (1 : Int32))) (lv' := [(3, .int (xl3 + (1 : Int32))), (2, .int (xs0 + xs1)), (0, .ref a0), (1, .int xl1)]) C.1.1 C.1.2.1 dX12_valid_31 hl (k := 3) rfl rfl (by decide) rfl (fun ls hl => ?_)
    refine lv_goto (tgt := 4) C.1.1 C.1.2.1 dX12_valid_34 (by decide) ?_
    exact hk4 xl1 (xs0 + xs1) (xl3 + (1 : Int32)) _ _ _ _ S (lv_sub hl [2, 3, 1, 0] rfl) w
  have hB4 : ∀ n : Nat, ∀ (xl1 : Int32) (xl2 : Int32) (xl3 : Int32) (h : ql_H) (H : Heap) (locs : List Loc) (ls : Array Slot), ql_S D h0 s H locs h → lv_has ls 4 [(0, .ref a0), (1, .int xl1), (2, .int xl2), (3, .int xl3)] → qw_X12_valid_4 a0 Q n xl1 xl2 xl3 h → W p l e ({ frames := 6, cells := 0, slots := 0, locals := 108 } : Room) s m ([.ref a0, .int xp1] : List Value).toArray below meth c H locs 0 0 (vx_MQ below (ql_Q D h0 (ql_rI Q)) (ql_X D h0 X) ([.ref a0, .int xp1] : List Value).toArray s 0 0 (ql_A h0)) (F0 m 4 ls []) := by
    intro n
    induction n with
    | zero => intro xl1 xl2 xl3 h H locs ls S hl w; rw [qw_X12_valid_4] at w; exact w.elim
    | succ n ih =>
      intro xl1 xl2 xl3 h H locs ls S hl w
      rw [qw_X12_valid_4] at w
      refine lv_iload_n C.1.1 C.1.2.1 dX12_valid_4 rfl (lv_at hl 3 rfl) ?_
      refine ql_aload_n (r := (some a0)) C dX12_valid_5 rfl (lv_at hl 0 rfl) ?_
      refine ql_getR C S qf_13_0 gw_1668 dX12_valid_6 w (fun r1 w => ?_)
      refine lv_iconst (v := (0 : Int32)) C.1.1 C.1.2.1 dX12_valid_9 (by decide) ?_
      refine ql_iald C S dX12_valid_10 w (fun x2 w => ?_)
      refine lv_icmp_ge (tgt := 37) C.1.1 C.1.2.1 dX12_valid_11 (by decide) (fun c9 => ?_) (fun c9 => ?_)
      · replace w := ql_if w c9
        refine lv_iload_n C.1.1 C.1.2.1 dX12_valid_37 rfl (lv_at hl 2 rfl) ?_
        exact ql_iret C S hr hlocks dX12_valid_38 ⟨Nat.le_of_ble_eq_true rfl, Nat.le_of_ble_eq_true rfl⟩ w
      · replace w := ql_ifn w c9
        refine lv_iload_n C.1.1 C.1.2.1 dX12_valid_14 rfl (lv_at hl 2 rfl) ?_
        refine ql_aload_n (r := (some a0)) C dX12_valid_15 rfl (lv_at hl 0 rfl) ?_
        refine lv_iload_n C.1.1 C.1.2.1 dX12_valid_16 rfl (lv_at hl 3 rfl) ?_
        refine lv_iload_n C.1.1 C.1.2.1 dX12_valid_17 rfl (lv_at hl 1 rfl) ?_
        refine ql_VI (As := [.int xl3, .int xl1]) (rest := [.int xl2]) C S htab hlocks hl qy_X12_isValid qi_X12_isValid qs_X12_isValid gw_1788 (ci := 13) rfl w (fun b w => qm_X12_isValid l hl9 D _ b xl3 xl1 _ _ w) rfl ⟨Nat.le_of_ble_eq_true rfl, Nat.le_of_ble_eq_true rfl⟩ ⟨rfl, rfl⟩ (by exact Nat.le_of_ble_eq_true rfl) (fun b e9 => by cases e9; rfl) dX12_valid_18 ⟨Nat.le_of_ble_eq_true rfl, Nat.le_of_ble_eq_true rfl⟩ ⟨Nat.le_of_ble_eq_true rfl, Nat.le_of_ble_eq_true rfl⟩ (fun x3 h H locs S w => ?_)
        refine W.cs (cells' := 0) (slots' := 0) rfl rfl ?_
        refine lv_if_eq (tgt := 28) C.1.1 C.1.2.1 dX12_valid_21 (by decide) (fun c9 => ?_) (fun c9 => ?_)
        · replace w := ql_if w c9
          refine lv_iconst (v := (0 : Int32)) C.1.1 C.1.2.1 dX12_valid_28 (by decide) ?_
          exact hB29 (qw_X12_valid_4 a0 Q n) ih xl1 xl3 xl2 (0 : Int32) _ _ _ _ S (lv_sub hl [0, 1, 3] rfl) w
        · replace w := ql_ifn w c9
          refine lv_iconst (v := (1 : Int32)) C.1.1 C.1.2.1 dX12_valid_24 (by decide) ?_
          refine lv_goto (tgt := 29) C.1.1 C.1.2.1 dX12_valid_25 (by decide) ?_
          exact hB29 (qw_X12_valid_4 a0 Q n) ih xl1 xl3 xl2 (1 : Int32) _ _ _ _ S (lv_sub hl [0, 1, 3] rfl) w
  unfold qw_X12_valid at w
  refine lv_iconst (v := (0 : Int32)) C.1.1 C.1.2.1 dX12_valid_0 (by decide) ?_
  refine lv_istore_n (lv' := [(2, .int (0 : Int32)), (0, .ref a0), (1, .int xp1)]) C.1.1 C.1.2.1 dX12_valid_1 rfl hl (by decide) rfl (fun ls hl => ?_)
  refine lv_iconst (v := (0 : Int32)) C.1.1 C.1.2.1 dX12_valid_2 (by decide) ?_
  refine lv_istore_n (lv' := [(3, .int (0 : Int32)), (2, .int (0 : Int32)), (0, .ref a0), (1, .int xp1)]) C.1.1 C.1.2.1 dX12_valid_3 rfl hl (by decide) rfl (fun ls hl => ?_)
  exact hB4 ql_FU xp1 (0 : Int32) (0 : Int32) _ _ _ _ S (lv_sub hl [2, 3, 1, 0] rfl) w
def qw_X12_inForceOn (a0 : Nat) (xp1 : Int32) (h : ql_H) (Q : Int32 → ql_H → Prop) : Prop :=
ql_pV h (some a0) 13 7 (.int (0 : Int32)) fun h =>
ql_rv h (some a0) 13 fun b1 => qw_X12_valid b1 xp1 h (fun x1 h =>
Q x1 h)
set_option maxHeartbeats 4000000 in
set_option maxRecDepth 100000 in
theorem qm_X12_inForceOn (l : Launch) (hl9 : l.stackTraces = false) (D : ql_D) (h0 : ql_H) (a0 : Nat) (xp1 : Int32) (Q : Int32 → ql_H → Prop) (X : String → ql_H → Prop) (w : qw_X12_inForceOn a0 xp1 h0 Q) : ql_M D l yX12_inForceOn cX12_inForceOn 2 (some .int) ({ frames := 8, cells := 0, slots := 0, locals := 139 } : Room) h0 [.ref a0, .int xp1] (ql_rI Q) X 0 0 := by
  refine ql_ofW (by decide) (Nat.le_of_ble_eq_true rfl) ?_
  intro p e s m below meth c ls C hr hlocks hnm htab S hl
  have hl : lv_has ls 2 [(0, .ref a0), (1, .int xp1)] := hl
  unfold qw_X12_inForceOn at w
  refine ql_aload_n (r := (some a0)) C dX12_inForceOn_0 rfl (lv_at hl 0 rfl) ?_
  refine lv_iconst (v := (0 : Int32)) C.1.1 C.1.2.1 dX12_inForceOn_1 (by decide) ?_
  refine ql_putV C S qf_13_7 gw_1675 (tyX12) tyX12_ok nmX12 rfl dX12_inForceOn_2 (v := .int (0 : Int32)) rfl rfl w (fun h H locs S w => ?_)
  refine ql_aload_n (r := (some a0)) C dX12_inForceOn_5 rfl (lv_at hl 0 rfl) ?_
  refine lv_iload_n C.1.1 C.1.2.1 dX12_inForceOn_6 rfl (lv_at hl 1 rfl) ?_
  refine ql_VI (As := [.int xp1]) (rest := []) C S htab hlocks hl qy_X12_valid qi_X12_valid qs_X12_valid gw_1900 (ci := 13) rfl w (fun b w => qm_X12_valid l hl9 D _ b xp1 _ _ w) rfl ⟨Nat.le_of_ble_eq_true rfl, Nat.le_of_ble_eq_true rfl⟩ ⟨rfl, rfl⟩ (by exact Nat.le_of_ble_eq_true rfl) (fun b e9 => by cases e9; rfl) dX12_inForceOn_7 ⟨Nat.le_of_ble_eq_true rfl, Nat.le_of_ble_eq_true rfl⟩ ⟨Nat.le_of_ble_eq_true rfl, Nat.le_of_ble_eq_true rfl⟩ (fun x1 h H locs S w => ?_)
  refine W.cs (cells' := 0) (slots' := 0) rfl rfl ?_
  exact ql_iret C S hr hlocks dX12_inForceOn_10 ⟨Nat.le_of_ble_eq_true rfl, Nat.le_of_ble_eq_true rfl⟩ w
def qw_X12_daysUntilLapsed (a0 : Nat) (xp1 : Int32) (h : ql_H) (Q : Int32 → ql_H → Prop) : Prop :=
ql_rv h (some a0) 13 fun b1 => qw_X12_isEndless b1 xp1 h (fun x1 h =>
if x1 = 0 then (ql_rv h (some a0) 13 fun b3 => qw_X12_placeOf b3 xp1 h (fun x3 h =>
ql_rv h (some a0) 13 fun b5 => qw_X12_of b5 x3 (3 : Int32) h (fun x5 h =>
ql_gR h (some a0) 13 0 fun r7 =>
ql_lI h r7 0 (2 : Int32) fun x8 =>
qw_X12_most (0 : Int32) ((x5 - x8) + (1 : Int32)) h (fun x9 h =>
Q x9 h)))) else (Q (0 : Int32) h))
set_option maxHeartbeats 4000000 in
set_option maxRecDepth 100000 in
theorem qm_X12_daysUntilLapsed (l : Launch) (hl9 : l.stackTraces = false) (D : ql_D) (h0 : ql_H) (a0 : Nat) (xp1 : Int32) (Q : Int32 → ql_H → Prop) (X : String → ql_H → Prop) (w : qw_X12_daysUntilLapsed a0 xp1 h0 Q) : ql_M D l yX12_daysUntilLapsed cX12_daysUntilLapsed 2 (some .int) ({ frames := 8, cells := 0, slots := 0, locals := 137 } : Room) h0 [.ref a0, .int xp1] (ql_rI Q) X 0 0 := by
  refine ql_ofW (by decide) (Nat.le_of_ble_eq_true rfl) ?_
  intro p e s m below meth c ls C hr hlocks hnm htab S hl
  have hl : lv_has ls 2 [(0, .ref a0), (1, .int xp1)] := hl
  unfold qw_X12_daysUntilLapsed at w
  refine ql_aload_n (r := (some a0)) C dX12_daysUntilLapsed_0 rfl (lv_at hl 0 rfl) ?_
  refine lv_iload_n C.1.1 C.1.2.1 dX12_daysUntilLapsed_1 rfl (lv_at hl 1 rfl) ?_
  refine ql_VI (As := [.int xp1]) (rest := []) C S htab hlocks hl qy_X12_isEndless qi_X12_isEndless qs_X12_isEndless gw_1884 (ci := 13) rfl w (fun b w => qm_X12_isEndless l hl9 D _ b xp1 _ _ w) rfl ⟨Nat.le_of_ble_eq_true rfl, Nat.le_of_ble_eq_true rfl⟩ ⟨rfl, rfl⟩ (by exact Nat.le_of_ble_eq_true rfl) (fun b e9 => by cases e9; rfl) dX12_daysUntilLapsed_2 ⟨Nat.le_of_ble_eq_true rfl, Nat.le_of_ble_eq_true rfl⟩ ⟨Nat.le_of_ble_eq_true rfl, Nat.le_of_ble_eq_true rfl⟩ (fun x1 h H locs S w => ?_)
  refine W.cs (cells' := 0) (slots' := 0) rfl rfl ?_
  refine lv_if_eq (tgt := 12) C.1.1 C.1.2.1 dX12_daysUntilLapsed_5 (by decide) (fun c9 => ?_) (fun c9 => ?_)
  · replace w := ql_if w c9
    refine lv_iconst (v := (0 : Int32)) C.1.1 C.1.2.1 dX12_daysUntilLapsed_12 (by decide) ?_
    refine ql_aload_n (r := (some a0)) C dX12_daysUntilLapsed_13 rfl (lv_at hl 0 rfl) ?_
    refine ql_aload_n (r := (some a0)) C dX12_daysUntilLapsed_14 rfl (lv_at hl 0 rfl) ?_
    refine lv_iload_n C.1.1 C.1.2.1 dX12_daysUntilLapsed_15 rfl (lv_at hl 1 rfl) ?_
    refine ql_VI (As := [.int xp1]) (rest := [.ref a0, .int (0 : Int32)]) C S htab hlocks hl qy_X12_placeOf qi_X12_placeOf qs_X12_placeOf gw_1772 (ci := 13) rfl w (fun b w => qm_X12_placeOf l hl9 D _ b xp1 _ _ w) rfl ⟨Nat.le_of_ble_eq_true rfl, Nat.le_of_ble_eq_true rfl⟩ ⟨rfl, rfl⟩ (by exact Nat.le_of_ble_eq_true rfl) (fun b e9 => by cases e9; rfl) dX12_daysUntilLapsed_16 ⟨Nat.le_of_ble_eq_true rfl, Nat.le_of_ble_eq_true rfl⟩ ⟨Nat.le_of_ble_eq_true rfl, Nat.le_of_ble_eq_true rfl⟩ (fun x3 h H locs S w => ?_)
    refine W.cs (cells' := 0) (slots' := 0) rfl rfl ?_
    refine lv_iconst (v := (3 : Int32)) C.1.1 C.1.2.1 dX12_daysUntilLapsed_19 (by decide) ?_
    refine ql_VI (As := [.int x3, .int (3 : Int32)]) (rest := [.int (0 : Int32)]) C S htab hlocks hl qy_X12_of qi_X12_of qs_X12_of gw_1745 (ci := 13) rfl w (fun b w => qm_X12_of l hl9 D _ b x3 (3 : Int32) _ _ w) rfl ⟨Nat.le_of_ble_eq_true rfl, Nat.le_of_ble_eq_true rfl⟩ ⟨rfl, rfl⟩ (by exact Nat.le_of_ble_eq_true rfl) (fun b e9 => by cases e9; rfl) dX12_daysUntilLapsed_20 ⟨Nat.le_of_ble_eq_true rfl, Nat.le_of_ble_eq_true rfl⟩ ⟨Nat.le_of_ble_eq_true rfl, Nat.le_of_ble_eq_true rfl⟩ (fun x5 h H locs S w => ?_)
    refine W.cs (cells' := 0) (slots' := 0) rfl rfl ?_
    refine ql_aload_n (r := (some a0)) C dX12_daysUntilLapsed_23 rfl (lv_at hl 0 rfl) ?_
    refine ql_getR C S qf_13_0 gw_1668 dX12_daysUntilLapsed_24 w (fun r7 w => ?_)
    refine lv_iconst (v := (2 : Int32)) C.1.1 C.1.2.1 dX12_daysUntilLapsed_27 (by decide) ?_
    refine ql_iald C S dX12_daysUntilLapsed_28 w (fun x8 w => ?_)
    refine lv_isub C.1.1 C.1.2.1 dX12_daysUntilLapsed_29 ?_
    refine lv_iconst (v := (1 : Int32)) C.1.1 C.1.2.1 dX12_daysUntilLapsed_30 (by decide) ?_
    refine lv_iadd C.1.1 C.1.2.1 dX12_daysUntilLapsed_31 ?_
    refine ql_SI (As := [.int (0 : Int32), .int ((x5 - x8) + (1 : Int32))]) (rest := []) C S htab hlocks hl qy_X12_most qi_X12_most gw_1908 (qm_X12_most l hl9 D _ (0 : Int32) ((x5 - x8) + (1 : Int32)) _ _ w) rfl ⟨Nat.le_of_ble_eq_true rfl, Nat.le_of_ble_eq_true rfl⟩ ⟨rfl, rfl⟩ (by exact Nat.le_of_ble_eq_true rfl) rfl dX12_daysUntilLapsed_32 ⟨Nat.le_of_ble_eq_true rfl, Nat.le_of_ble_eq_true rfl⟩ ⟨Nat.le_of_ble_eq_true rfl, Nat.le_of_ble_eq_true rfl⟩ (fun x9 h H locs S w => ?_)
    refine W.cs (cells' := 0) (slots' := 0) rfl rfl ?_
    exact ql_iret C S hr hlocks dX12_daysUntilLapsed_35 ⟨Nat.le_of_ble_eq_true rfl, Nat.le_of_ble_eq_true rfl⟩ w
  · replace w := ql_ifn w c9
    refine lv_iconst (v := (0 : Int32)) C.1.1 C.1.2.1 dX12_daysUntilLapsed_8 (by decide) ?_
    refine lv_goto (tgt := 35) C.1.1 C.1.2.1 dX12_daysUntilLapsed_9 (by decide) ?_
    exact ql_iret C S hr hlocks dX12_daysUntilLapsed_35 ⟨Nat.le_of_ble_eq_true rfl, Nat.le_of_ble_eq_true rfl⟩ w
def qw_X12_length (a0 : Nat) (xp1 : Int32) (h : ql_H) (Q : Int32 → ql_H → Prop) : Prop :=
ql_rv h (some a0) 13 fun b1 => qw_X12_isNone b1 xp1 h (fun x1 h =>
if x1 = 0 then (ql_rv h (some a0) 13 fun b3 => qw_X12_placeOf b3 xp1 h (fun x3 h =>
ql_rv h (some a0) 13 fun b5 => qw_X12_long0 b5 x3 h (fun x5 h =>
Q x5 h))) else (Q (0 : Int32) h))
set_option maxHeartbeats 4000000 in
set_option maxRecDepth 100000 in
theorem qm_X12_length (l : Launch) (hl9 : l.stackTraces = false) (D : ql_D) (h0 : ql_H) (a0 : Nat) (xp1 : Int32) (Q : Int32 → ql_H → Prop) (X : String → ql_H → Prop) (w : qw_X12_length a0 xp1 h0 Q) : ql_M D l yX12_length cX12_length 2 (some .int) ({ frames := 8, cells := 0, slots := 0, locals := 137 } : Room) h0 [.ref a0, .int xp1] (ql_rI Q) X 0 0 := by
  refine ql_ofW (by decide) (Nat.le_of_ble_eq_true rfl) ?_
  intro p e s m below meth c ls C hr hlocks hnm htab S hl
  have hl : lv_has ls 2 [(0, .ref a0), (1, .int xp1)] := hl
  unfold qw_X12_length at w
  refine ql_aload_n (r := (some a0)) C dX12_length_0 rfl (lv_at hl 0 rfl) ?_
  refine lv_iload_n C.1.1 C.1.2.1 dX12_length_1 rfl (lv_at hl 1 rfl) ?_
  refine ql_VI (As := [.int xp1]) (rest := []) C S htab hlocks hl qy_X12_isNone qi_X12_isNone qs_X12_isNone gw_1872 (ci := 13) rfl w (fun b w => qm_X12_isNone l hl9 D _ b xp1 _ _ w) rfl ⟨Nat.le_of_ble_eq_true rfl, Nat.le_of_ble_eq_true rfl⟩ ⟨rfl, rfl⟩ (by exact Nat.le_of_ble_eq_true rfl) (fun b e9 => by cases e9; rfl) dX12_length_2 ⟨Nat.le_of_ble_eq_true rfl, Nat.le_of_ble_eq_true rfl⟩ ⟨Nat.le_of_ble_eq_true rfl, Nat.le_of_ble_eq_true rfl⟩ (fun x1 h H locs S w => ?_)
  refine W.cs (cells' := 0) (slots' := 0) rfl rfl ?_
  refine lv_if_eq (tgt := 12) C.1.1 C.1.2.1 dX12_length_5 (by decide) (fun c9 => ?_) (fun c9 => ?_)
  · replace w := ql_if w c9
    refine ql_aload_n (r := (some a0)) C dX12_length_12 rfl (lv_at hl 0 rfl) ?_
    refine ql_aload_n (r := (some a0)) C dX12_length_13 rfl (lv_at hl 0 rfl) ?_
    refine lv_iload_n C.1.1 C.1.2.1 dX12_length_14 rfl (lv_at hl 1 rfl) ?_
    refine ql_VI (As := [.int xp1]) (rest := [.ref a0]) C S htab hlocks hl qy_X12_placeOf qi_X12_placeOf qs_X12_placeOf gw_1772 (ci := 13) rfl w (fun b w => qm_X12_placeOf l hl9 D _ b xp1 _ _ w) rfl ⟨Nat.le_of_ble_eq_true rfl, Nat.le_of_ble_eq_true rfl⟩ ⟨rfl, rfl⟩ (by exact Nat.le_of_ble_eq_true rfl) (fun b e9 => by cases e9; rfl) dX12_length_15 ⟨Nat.le_of_ble_eq_true rfl, Nat.le_of_ble_eq_true rfl⟩ ⟨Nat.le_of_ble_eq_true rfl, Nat.le_of_ble_eq_true rfl⟩ (fun x3 h H locs S w => ?_)
    refine W.cs (cells' := 0) (slots' := 0) rfl rfl ?_
    refine ql_VI (As := [.int x3]) (rest := []) C S htab hlocks hl qy_X12_long0 qi_X12_long0 qs_X12_long0 gw_1776 (ci := 13) rfl w (fun b w => qm_X12_long0 l hl9 D _ b x3 _ _ w) rfl ⟨Nat.le_of_ble_eq_true rfl, Nat.le_of_ble_eq_true rfl⟩ ⟨rfl, rfl⟩ (by exact Nat.le_of_ble_eq_true rfl) (fun b e9 => by cases e9; rfl) dX12_length_18 ⟨Nat.le_of_ble_eq_true rfl, Nat.le_of_ble_eq_true rfl⟩ ⟨Nat.le_of_ble_eq_true rfl, Nat.le_of_ble_eq_true rfl⟩ (fun x5 h H locs S w => ?_)
    refine W.cs (cells' := 0) (slots' := 0) rfl rfl ?_
    exact ql_iret C S hr hlocks dX12_length_21 ⟨Nat.le_of_ble_eq_true rfl, Nat.le_of_ble_eq_true rfl⟩ w
  · replace w := ql_ifn w c9
    refine lv_iconst (v := (0 : Int32)) C.1.1 C.1.2.1 dX12_length_8 (by decide) ?_
    refine lv_goto (tgt := 21) C.1.1 C.1.2.1 dX12_length_9 (by decide) ?_
    exact ql_iret C S hr hlocks dX12_length_21 ⟨Nat.le_of_ble_eq_true rfl, Nat.le_of_ble_eq_true rfl⟩ w
def qw_X12_noteAt_35 (a0 : Nat) (Q : Int32 → ql_H → Prop) (xl2 : Int32) (xl3 : Int32) (rs0 : Option Nat) (xs1 : Int32) (h : ql_H) : Prop :=
ql_rv h rs0 13 fun b1 => qw_X12_fails b1 xs1 h (fun x1 h =>
if x1 = 0 then (ql_rv h (some a0) 13 fun b3 => qw_X12_lastVersion b3 xl3 h (fun x3 h =>
ql_rv h (some a0) 13 fun b5 => qw_X12_note b5 xl3 x3 xl2 h (fun x5 h =>
ql_nz .char (x5.toUInt32 % 65536).toInt32 ∧ Q (x5.toUInt32 % 65536).toInt32 h))) else (ql_nz .char (32 : Int32) ∧ Q (32 : Int32) h))
def qw_X12_noteAt (a0 : Nat) (xp1 : Int32) (xp2 : Int32) (h : ql_H) (Q : Int32 → ql_H → Prop) : Prop :=
ql_rv h (some a0) 13 fun b7 => qw_X12_placeOf b7 xp1 h (fun x7 h =>
if 0 ≤ x7 then (ql_rv h (some a0) 13 fun b9 => qw_X12_long0 b9 x7 h (fun x9 h =>
qw_X12_in xp2 (0 : Int32) (x9 - (1 : Int32)) h (fun x11 h =>
if x11 = 0 then (qw_X12_noteAt_35 a0 Q xp2 x7 (some a0) (2 : Int32) h) else (qw_X12_noteAt_35 a0 Q xp2 x7 (some a0) (0 : Int32) h)))) else (qw_X12_noteAt_35 a0 Q xp2 x7 (some a0) (1 : Int32) h))
set_option maxHeartbeats 4000000 in
set_option maxRecDepth 100000 in
theorem qm_X12_noteAt (l : Launch) (hl9 : l.stackTraces = false) (D : ql_D) (h0 : ql_H) (a0 : Nat) (xp1 : Int32) (xp2 : Int32) (Q : Int32 → ql_H → Prop) (X : String → ql_H → Prop) (w : qw_X12_noteAt a0 xp1 xp2 h0 Q) : ql_M D l yX12_noteAt cX12_noteAt 4 (some .char) ({ frames := 8, cells := 0, slots := 0, locals := 136 } : Room) h0 [.ref a0, .int xp1, .int xp2] (ql_rI Q) X 0 0 := by
  refine ql_ofW (by decide) (Nat.le_of_ble_eq_true rfl) ?_
  intro p e s m below meth c ls C hr hlocks hnm htab S hl
  have hl : lv_has ls 4 [(0, .ref a0), (1, .int xp1), (2, .int xp2)] := hl
  have hB35 : ∀ (xl2 : Int32) (xl3 : Int32) (rs0 : Option Nat) (xs1 : Int32) (h : ql_H) (H : Heap) (locs : List Loc) (ls : Array Slot), ql_S D h0 s H locs h → lv_has ls 4 [(0, .ref a0), (2, .int xl2), (3, .int xl3)] → qw_X12_noteAt_35 a0 Q xl2 xl3 rs0 xs1 h → W p l e ({ frames := 8, cells := 0, slots := 0, locals := 136 } : Room) s m ([.ref a0, .int xp1, .int xp2] : List Value).toArray below meth c H locs 0 0 (vx_MQ below (ql_Q D h0 (ql_rI Q)) (ql_X D h0 X) ([.ref a0, .int xp1, .int xp2] : List Value).toArray s 0 0 (ql_A h0)) (F0 m 35 ls [.int xs1, va_rf rs0]) := by
    intro xl2 xl3 rs0 xs1 h H locs ls S hl w
    unfold qw_X12_noteAt_35 at w
    refine ql_VI (As := [.int xs1]) (rest := []) C S htab hlocks hl qy_X12_fails qi_X12_fails qs_X12_fails gw_1749 (ci := 13) rfl w (fun b w => qm_X12_fails l hl9 D _ b xs1 _ _ w) rfl ⟨Nat.le_of_ble_eq_true rfl, Nat.le_of_ble_eq_true rfl⟩ ⟨rfl, rfl⟩ (by exact Nat.le_of_ble_eq_true rfl) (fun b e9 => by cases e9; rfl) dX12_noteAt_35 ⟨Nat.le_of_ble_eq_true rfl, Nat.le_of_ble_eq_true rfl⟩ ⟨Nat.le_of_ble_eq_true rfl, Nat.le_of_ble_eq_true rfl⟩ (fun x1 h H locs S w => ?_)
    refine W.cs (cells' := 0) (slots' := 0) rfl rfl ?_
    refine lv_if_eq (tgt := 46) C.1.1 C.1.2.1 dX12_noteAt_38 (by decide) (fun c9 => ?_) (fun c9 => ?_)
    · replace w := ql_if w c9
      refine ql_aload_n (r := (some a0)) C dX12_noteAt_46 rfl (lv_at hl 0 rfl) ?_
      refine lv_iload_n C.1.1 C.1.2.1 dX12_noteAt_47 rfl (lv_at hl 2 rfl) ?_
      refine ql_aload_n (r := (some a0)) C dX12_noteAt_48 rfl (lv_at hl 0 rfl) ?_
      refine lv_iload_n C.1.1 C.1.2.1 dX12_noteAt_49 rfl (lv_at hl 2 rfl) ?_
      refine ql_VI (As := [.int xl3]) (rest := [.int xl3, .ref a0]) C S htab hlocks hl qy_X12_lastVersion qi_X12_lastVersion qs_X12_lastVersion gw_1780 (ci := 13) rfl w (fun b w => qm_X12_lastVersion l hl9 D _ b xl3 _ _ w) rfl ⟨Nat.le_of_ble_eq_true rfl, Nat.le_of_ble_eq_true rfl⟩ ⟨rfl, rfl⟩ (by exact Nat.le_of_ble_eq_true rfl) (fun b e9 => by cases e9; rfl) dX12_noteAt_50 ⟨Nat.le_of_ble_eq_true rfl, Nat.le_of_ble_eq_true rfl⟩ ⟨Nat.le_of_ble_eq_true rfl, Nat.le_of_ble_eq_true rfl⟩ (fun x3 h H locs S w => ?_)
      refine W.cs (cells' := 0) (slots' := 0) rfl rfl ?_
      refine lv_iload_n C.1.1 C.1.2.1 dX12_noteAt_53 rfl (lv_at hl 1 rfl) ?_
      refine ql_VI (As := [.int xl3, .int x3, .int xl2]) (rest := []) C S htab hlocks hl qy_X12_note qi_X12_note qs_X12_note gw_1796 (ci := 13) rfl w (fun b w => qm_X12_note l hl9 D _ b xl3 x3 xl2 _ _ w) rfl ⟨Nat.le_of_ble_eq_true rfl, Nat.le_of_ble_eq_true rfl⟩ ⟨rfl, rfl⟩ (by exact Nat.le_of_ble_eq_true rfl) (fun b e9 => by cases e9; rfl) dX12_noteAt_54 ⟨Nat.le_of_ble_eq_true rfl, Nat.le_of_ble_eq_true rfl⟩ ⟨Nat.le_of_ble_eq_true rfl, Nat.le_of_ble_eq_true rfl⟩ (fun x5 h H locs S w => ?_)
      refine W.cs (cells' := 0) (slots' := 0) rfl rfl ?_
      refine lv_i2c C.1.1 C.1.2.1 dX12_noteAt_57 rfl ?_
      exact ql_zret C S hr hlocks dX12_noteAt_58 ⟨Nat.le_of_ble_eq_true rfl, Nat.le_of_ble_eq_true rfl⟩ w
    · replace w := ql_ifn w c9
      refine lv_bipush (v := (32 : Int32)) C.1.1 C.1.2.1 dX12_noteAt_41 (by decide) ?_
      refine lv_goto (tgt := 58) C.1.1 C.1.2.1 dX12_noteAt_43 (by decide) ?_
      exact ql_zret C S hr hlocks dX12_noteAt_58 ⟨Nat.le_of_ble_eq_true rfl, Nat.le_of_ble_eq_true rfl⟩ w
  unfold qw_X12_noteAt at w
  refine ql_aload_n (r := (some a0)) C dX12_noteAt_0 rfl (lv_at hl 0 rfl) ?_
  refine lv_iload_n C.1.1 C.1.2.1 dX12_noteAt_1 rfl (lv_at hl 1 rfl) ?_
  refine ql_VI (As := [.int xp1]) (rest := []) C S htab hlocks hl qy_X12_placeOf qi_X12_placeOf qs_X12_placeOf gw_1772 (ci := 13) rfl w (fun b w => qm_X12_placeOf l hl9 D _ b xp1 _ _ w) rfl ⟨Nat.le_of_ble_eq_true rfl, Nat.le_of_ble_eq_true rfl⟩ ⟨rfl, rfl⟩ (by exact Nat.le_of_ble_eq_true rfl) (fun b e9 => by cases e9; rfl) dX12_noteAt_2 ⟨Nat.le_of_ble_eq_true rfl, Nat.le_of_ble_eq_true rfl⟩ ⟨Nat.le_of_ble_eq_true rfl, Nat.le_of_ble_eq_true rfl⟩ (fun x7 h H locs S w => ?_)
  refine W.cs (cells' := 0) (slots' := 0) rfl rfl ?_
  refine lv_istore_n (lv' := [(3, .int x7), (0, .ref a0), (1, .int xp1), (2, .int xp2)]) C.1.1 C.1.2.1 dX12_noteAt_5 rfl hl (by decide) rfl (fun ls hl => ?_)
  refine ql_aload_n (r := (some a0)) C dX12_noteAt_6 rfl (lv_at hl 1 rfl) ?_
  refine lv_iload_n C.1.1 C.1.2.1 dX12_noteAt_7 rfl (lv_at hl 0 rfl) ?_
  refine lv_if_ge (tgt := 15) C.1.1 C.1.2.1 dX12_noteAt_8 (by decide) (fun c9 => ?_) (fun c9 => ?_)
  · replace w := ql_if w c9
    refine lv_iload_n C.1.1 C.1.2.1 dX12_noteAt_15 rfl (lv_at hl 3 rfl) ?_
    refine lv_iconst (v := (0 : Int32)) C.1.1 C.1.2.1 dX12_noteAt_16 (by decide) ?_
    refine ql_aload_n (r := (some a0)) C dX12_noteAt_17 rfl (lv_at hl 1 rfl) ?_
    refine lv_iload_n C.1.1 C.1.2.1 dX12_noteAt_18 rfl (lv_at hl 0 rfl) ?_
    refine ql_VI (As := [.int x7]) (rest := [.int (0 : Int32), .int xp2, .ref a0]) C S htab hlocks hl qy_X12_long0 qi_X12_long0 qs_X12_long0 gw_1776 (ci := 13) rfl w (fun b w => qm_X12_long0 l hl9 D _ b x7 _ _ w) rfl ⟨Nat.le_of_ble_eq_true rfl, Nat.le_of_ble_eq_true rfl⟩ ⟨rfl, rfl⟩ (by exact Nat.le_of_ble_eq_true rfl) (fun b e9 => by cases e9; rfl) dX12_noteAt_19 ⟨Nat.le_of_ble_eq_true rfl, Nat.le_of_ble_eq_true rfl⟩ ⟨Nat.le_of_ble_eq_true rfl, Nat.le_of_ble_eq_true rfl⟩ (fun x9 h H locs S w => ?_)
    refine W.cs (cells' := 0) (slots' := 0) rfl rfl ?_
    refine lv_iconst (v := (1 : Int32)) C.1.1 C.1.2.1 dX12_noteAt_22 (by decide) ?_
    refine lv_isub C.1.1 C.1.2.1 dX12_noteAt_23 ?_
    refine ql_SI (As := [.int xp2, .int (0 : Int32), .int (x9 - (1 : Int32))]) (rest := [.ref a0]) C S htab hlocks hl qy_X12_in qi_X12_in gw_1735 (qm_X12_in l hl9 D _ xp2 (0 : Int32) (x9 - (1 : Int32)) _ _ w) rfl ⟨Nat.le_of_ble_eq_true rfl, Nat.le_of_ble_eq_true rfl⟩ ⟨rfl, rfl⟩ (by exact Nat.le_of_ble_eq_true rfl) rfl dX12_noteAt_24 ⟨Nat.le_of_ble_eq_true rfl, Nat.le_of_ble_eq_true rfl⟩ ⟨Nat.le_of_ble_eq_true rfl, Nat.le_of_ble_eq_true rfl⟩ (fun x11 h H locs S w => ?_)
    refine W.cs (cells' := 0) (slots' := 0) rfl rfl ?_
    refine lv_if_eq (tgt := 34) C.1.1 C.1.2.1 dX12_noteAt_27 (by decide) (fun c9 => ?_) (fun c9 => ?_)
    · replace w := ql_if w c9
      refine lv_iconst (v := (2 : Int32)) C.1.1 C.1.2.1 dX12_noteAt_34 (by decide) ?_
      exact hB35 xp2 x7 (some a0) (2 : Int32) _ _ _ _ S (lv_sub hl [1, 3, 0] rfl) w
    · replace w := ql_ifn w c9
      refine lv_iconst (v := (0 : Int32)) C.1.1 C.1.2.1 dX12_noteAt_30 (by decide) ?_
      refine lv_goto (tgt := 35) C.1.1 C.1.2.1 dX12_noteAt_31 (by decide) ?_
      exact hB35 xp2 x7 (some a0) (0 : Int32) _ _ _ _ S (lv_sub hl [1, 3, 0] rfl) w
  · replace w := ql_ifn w c9
    refine lv_iconst (v := (1 : Int32)) C.1.1 C.1.2.1 dX12_noteAt_11 (by decide) ?_
    refine lv_goto (tgt := 35) C.1.1 C.1.2.1 dX12_noteAt_12 (by decide) ?_
    exact hB35 xp2 x7 (some a0) (1 : Int32) _ _ _ _ S (lv_sub hl [1, 3, 0] rfl) w
def qw_X12_versionCount (a0 : Nat) (xp1 : Int32) (h : ql_H) (Q : Int32 → ql_H → Prop) : Prop :=
ql_rv h (some a0) 13 fun b1 => qw_X12_isNone b1 xp1 h (fun x1 h =>
if x1 = 0 then (ql_rv h (some a0) 13 fun b3 => qw_X12_placeOf b3 xp1 h (fun x3 h =>
ql_rv h (some a0) 13 fun b5 => qw_X12_of b5 x3 (4 : Int32) h (fun x5 h =>
Q x5 h))) else (Q (0 : Int32) h))
set_option maxHeartbeats 4000000 in
set_option maxRecDepth 100000 in
theorem qm_X12_versionCount (l : Launch) (hl9 : l.stackTraces = false) (D : ql_D) (h0 : ql_H) (a0 : Nat) (xp1 : Int32) (Q : Int32 → ql_H → Prop) (X : String → ql_H → Prop) (w : qw_X12_versionCount a0 xp1 h0 Q) : ql_M D l yX12_versionCount cX12_versionCount 2 (some .int) ({ frames := 8, cells := 0, slots := 0, locals := 137 } : Room) h0 [.ref a0, .int xp1] (ql_rI Q) X 0 0 := by
  refine ql_ofW (by decide) (Nat.le_of_ble_eq_true rfl) ?_
  intro p e s m below meth c ls C hr hlocks hnm htab S hl
  have hl : lv_has ls 2 [(0, .ref a0), (1, .int xp1)] := hl
  unfold qw_X12_versionCount at w
  refine ql_aload_n (r := (some a0)) C dX12_versionCount_0 rfl (lv_at hl 0 rfl) ?_
  refine lv_iload_n C.1.1 C.1.2.1 dX12_versionCount_1 rfl (lv_at hl 1 rfl) ?_
  refine ql_VI (As := [.int xp1]) (rest := []) C S htab hlocks hl qy_X12_isNone qi_X12_isNone qs_X12_isNone gw_1872 (ci := 13) rfl w (fun b w => qm_X12_isNone l hl9 D _ b xp1 _ _ w) rfl ⟨Nat.le_of_ble_eq_true rfl, Nat.le_of_ble_eq_true rfl⟩ ⟨rfl, rfl⟩ (by exact Nat.le_of_ble_eq_true rfl) (fun b e9 => by cases e9; rfl) dX12_versionCount_2 ⟨Nat.le_of_ble_eq_true rfl, Nat.le_of_ble_eq_true rfl⟩ ⟨Nat.le_of_ble_eq_true rfl, Nat.le_of_ble_eq_true rfl⟩ (fun x1 h H locs S w => ?_)
  refine W.cs (cells' := 0) (slots' := 0) rfl rfl ?_
  refine lv_if_eq (tgt := 12) C.1.1 C.1.2.1 dX12_versionCount_5 (by decide) (fun c9 => ?_) (fun c9 => ?_)
  · replace w := ql_if w c9
    refine ql_aload_n (r := (some a0)) C dX12_versionCount_12 rfl (lv_at hl 0 rfl) ?_
    refine ql_aload_n (r := (some a0)) C dX12_versionCount_13 rfl (lv_at hl 0 rfl) ?_
    refine lv_iload_n C.1.1 C.1.2.1 dX12_versionCount_14 rfl (lv_at hl 1 rfl) ?_
    refine ql_VI (As := [.int xp1]) (rest := [.ref a0]) C S htab hlocks hl qy_X12_placeOf qi_X12_placeOf qs_X12_placeOf gw_1772 (ci := 13) rfl w (fun b w => qm_X12_placeOf l hl9 D _ b xp1 _ _ w) rfl ⟨Nat.le_of_ble_eq_true rfl, Nat.le_of_ble_eq_true rfl⟩ ⟨rfl, rfl⟩ (by exact Nat.le_of_ble_eq_true rfl) (fun b e9 => by cases e9; rfl) dX12_versionCount_15 ⟨Nat.le_of_ble_eq_true rfl, Nat.le_of_ble_eq_true rfl⟩ ⟨Nat.le_of_ble_eq_true rfl, Nat.le_of_ble_eq_true rfl⟩ (fun x3 h H locs S w => ?_)
    refine W.cs (cells' := 0) (slots' := 0) rfl rfl ?_
    refine lv_iconst (v := (4 : Int32)) C.1.1 C.1.2.1 dX12_versionCount_18 (by decide) ?_
    refine ql_VI (As := [.int x3, .int (4 : Int32)]) (rest := []) C S htab hlocks hl qy_X12_of qi_X12_of qs_X12_of gw_1745 (ci := 13) rfl w (fun b w => qm_X12_of l hl9 D _ b x3 (4 : Int32) _ _ w) rfl ⟨Nat.le_of_ble_eq_true rfl, Nat.le_of_ble_eq_true rfl⟩ ⟨rfl, rfl⟩ (by exact Nat.le_of_ble_eq_true rfl) (fun b e9 => by cases e9; rfl) dX12_versionCount_19 ⟨Nat.le_of_ble_eq_true rfl, Nat.le_of_ble_eq_true rfl⟩ ⟨Nat.le_of_ble_eq_true rfl, Nat.le_of_ble_eq_true rfl⟩ (fun x5 h H locs S w => ?_)
    refine W.cs (cells' := 0) (slots' := 0) rfl rfl ?_
    exact ql_iret C S hr hlocks dX12_versionCount_22 ⟨Nat.le_of_ble_eq_true rfl, Nat.le_of_ble_eq_true rfl⟩ w
  · replace w := ql_ifn w c9
    refine lv_iconst (v := (0 : Int32)) C.1.1 C.1.2.1 dX12_versionCount_8 (by decide) ?_
    refine lv_goto (tgt := 22) C.1.1 C.1.2.1 dX12_versionCount_9 (by decide) ?_
    exact ql_iret C S hr hlocks dX12_versionCount_22 ⟨Nat.le_of_ble_eq_true rfl, Nat.le_of_ble_eq_true rfl⟩ w
def qw_X12_isBlank_27 (a0 : Nat) (Q : Int32 → ql_H → Prop) (rs0 : Option Nat) (xs1 : Int32) (h : ql_H) : Prop :=
ql_rv h rs0 13 fun b1 => qw_X12_fails b1 xs1 h (fun x1 h =>
ql_nz .boolean x1 ∧ Q x1 h)
def qw_X12_isBlank_22 (a0 : Nat) (Q : Int32 → ql_H → Prop) (rs0 : Option Nat) (h : ql_H) : Prop :=
qw_X12_isBlank_27 a0 Q rs0 (1 : Int32) h
def qw_X12_isBlank (a0 : Nat) (xp1 : Int32) (xp2 : Int32) (h : ql_H) (Q : Int32 → ql_H → Prop) : Prop :=
ql_rv h (some a0) 13 fun b3 => qw_X12_placeOf b3 xp1 h (fun x3 h =>
if x3 < 0 then (qw_X12_isBlank_22 a0 Q (some a0) h) else (ql_rv h (some a0) 13 fun b5 => qw_X12_placeOf b5 xp1 h (fun x5 h =>
ql_rv h (some a0) 13 fun b7 => qw_X12_versionOn b7 x5 xp2 h (fun x7 h =>
if 0 ≤ x7 then (qw_X12_isBlank_27 a0 Q (some a0) (0 : Int32) h) else (qw_X12_isBlank_22 a0 Q (some a0) h)))))
set_option maxHeartbeats 4000000 in
set_option maxRecDepth 100000 in
theorem qm_X12_isBlank (l : Launch) (hl9 : l.stackTraces = false) (D : ql_D) (h0 : ql_H) (a0 : Nat) (xp1 : Int32) (xp2 : Int32) (Q : Int32 → ql_H → Prop) (X : String → ql_H → Prop) (w : qw_X12_isBlank a0 xp1 xp2 h0 Q) : ql_M D l yX12_isBlank cX12_isBlank 3 (some .boolean) ({ frames := 6, cells := 0, slots := 0, locals := 110 } : Room) h0 [.ref a0, .int xp1, .int xp2] (ql_rI Q) X 0 0 := by
  refine ql_ofW (by decide) (Nat.le_of_ble_eq_true rfl) ?_
  intro p e s m below meth c ls C hr hlocks hnm htab S hl
  have hl : lv_has ls 3 [(0, .ref a0), (1, .int xp1), (2, .int xp2)] := hl
  have hB27 : ∀ (rs0 : Option Nat) (xs1 : Int32) (h : ql_H) (H : Heap) (locs : List Loc) (ls : Array Slot), ql_S D h0 s H locs h → lv_has ls 3 [] → qw_X12_isBlank_27 a0 Q rs0 xs1 h → W p l e ({ frames := 6, cells := 0, slots := 0, locals := 110 } : Room) s m ([.ref a0, .int xp1, .int xp2] : List Value).toArray below meth c H locs 0 0 (vx_MQ below (ql_Q D h0 (ql_rI Q)) (ql_X D h0 X) ([.ref a0, .int xp1, .int xp2] : List Value).toArray s 0 0 (ql_A h0)) (F0 m 27 ls [.int xs1, va_rf rs0]) := by
    intro rs0 xs1 h H locs ls S hl w
    unfold qw_X12_isBlank_27 at w
    refine ql_VI (As := [.int xs1]) (rest := []) C S htab hlocks hl qy_X12_fails qi_X12_fails qs_X12_fails gw_1749 (ci := 13) rfl w (fun b w => qm_X12_fails l hl9 D _ b xs1 _ _ w) rfl ⟨Nat.le_of_ble_eq_true rfl, Nat.le_of_ble_eq_true rfl⟩ ⟨rfl, rfl⟩ (by exact Nat.le_of_ble_eq_true rfl) (fun b e9 => by cases e9; rfl) dX12_isBlank_27 ⟨Nat.le_of_ble_eq_true rfl, Nat.le_of_ble_eq_true rfl⟩ ⟨Nat.le_of_ble_eq_true rfl, Nat.le_of_ble_eq_true rfl⟩ (fun x1 h H locs S w => ?_)
    refine W.cs (cells' := 0) (slots' := 0) rfl rfl ?_
    exact ql_zret C S hr hlocks dX12_isBlank_30 ⟨Nat.le_of_ble_eq_true rfl, Nat.le_of_ble_eq_true rfl⟩ w
  have hB22 : ∀ (rs0 : Option Nat) (h : ql_H) (H : Heap) (locs : List Loc) (ls : Array Slot), ql_S D h0 s H locs h → lv_has ls 3 [] → qw_X12_isBlank_22 a0 Q rs0 h → W p l e ({ frames := 6, cells := 0, slots := 0, locals := 110 } : Room) s m ([.ref a0, .int xp1, .int xp2] : List Value).toArray below meth c H locs 0 0 (vx_MQ below (ql_Q D h0 (ql_rI Q)) (ql_X D h0 X) ([.ref a0, .int xp1, .int xp2] : List Value).toArray s 0 0 (ql_A h0)) (F0 m 22 ls [va_rf rs0]) := by
    intro rs0 h H locs ls S hl w
    unfold qw_X12_isBlank_22 at w
    refine lv_iconst (v := (1 : Int32)) C.1.1 C.1.2.1 dX12_isBlank_22 (by decide) ?_
    refine lv_goto (tgt := 27) C.1.1 C.1.2.1 dX12_isBlank_23 (by decide) ?_
    exact hB27 rs0 (1 : Int32) _ _ _ _ S (lv_sub hl [] rfl) w
  unfold qw_X12_isBlank at w
  refine ql_aload_n (r := (some a0)) C dX12_isBlank_0 rfl (lv_at hl 0 rfl) ?_
  refine ql_aload_n (r := (some a0)) C dX12_isBlank_1 rfl (lv_at hl 0 rfl) ?_
  refine lv_iload_n C.1.1 C.1.2.1 dX12_isBlank_2 rfl (lv_at hl 1 rfl) ?_
  refine ql_VI (As := [.int xp1]) (rest := [.ref a0]) C S htab hlocks hl qy_X12_placeOf qi_X12_placeOf qs_X12_placeOf gw_1772 (ci := 13) rfl w (fun b w => qm_X12_placeOf l hl9 D _ b xp1 _ _ w) rfl ⟨Nat.le_of_ble_eq_true rfl, Nat.le_of_ble_eq_true rfl⟩ ⟨rfl, rfl⟩ (by exact Nat.le_of_ble_eq_true rfl) (fun b e9 => by cases e9; rfl) dX12_isBlank_3 ⟨Nat.le_of_ble_eq_true rfl, Nat.le_of_ble_eq_true rfl⟩ ⟨Nat.le_of_ble_eq_true rfl, Nat.le_of_ble_eq_true rfl⟩ (fun x3 h H locs S w => ?_)
  refine W.cs (cells' := 0) (slots' := 0) rfl rfl ?_
  refine lv_if_lt (tgt := 22) C.1.1 C.1.2.1 dX12_isBlank_6 (by decide) (fun c9 => ?_) (fun c9 => ?_)
  · replace w := ql_if w c9
    exact hB22 (some a0) _ _ _ _ S (lv_sub hl [] rfl) w
  · replace w := ql_ifn w c9
    refine ql_aload_n (r := (some a0)) C dX12_isBlank_9 rfl (lv_at hl 0 rfl) ?_
    refine ql_aload_n (r := (some a0)) C dX12_isBlank_10 rfl (lv_at hl 0 rfl) ?_
    refine lv_iload_n C.1.1 C.1.2.1 dX12_isBlank_11 rfl (lv_at hl 1 rfl) ?_
    refine ql_VI (As := [.int xp1]) (rest := [.ref a0, .ref a0]) C S htab hlocks hl qy_X12_placeOf qi_X12_placeOf qs_X12_placeOf gw_1772 (ci := 13) rfl w (fun b w => qm_X12_placeOf l hl9 D _ b xp1 _ _ w) rfl ⟨Nat.le_of_ble_eq_true rfl, Nat.le_of_ble_eq_true rfl⟩ ⟨rfl, rfl⟩ (by exact Nat.le_of_ble_eq_true rfl) (fun b e9 => by cases e9; rfl) dX12_isBlank_12 ⟨Nat.le_of_ble_eq_true rfl, Nat.le_of_ble_eq_true rfl⟩ ⟨Nat.le_of_ble_eq_true rfl, Nat.le_of_ble_eq_true rfl⟩ (fun x5 h H locs S w => ?_)
    refine W.cs (cells' := 0) (slots' := 0) rfl rfl ?_
    refine lv_iload_n C.1.1 C.1.2.1 dX12_isBlank_15 rfl (lv_at hl 2 rfl) ?_
    refine ql_VI (As := [.int x5, .int xp2]) (rest := [.ref a0]) C S htab hlocks hl qy_X12_versionOn qi_X12_versionOn qs_X12_versionOn gw_1931 (ci := 13) rfl w (fun b w => qm_X12_versionOn l hl9 D _ b x5 xp2 _ _ w) rfl ⟨Nat.le_of_ble_eq_true rfl, Nat.le_of_ble_eq_true rfl⟩ ⟨rfl, rfl⟩ (by exact Nat.le_of_ble_eq_true rfl) (fun b e9 => by cases e9; rfl) dX12_isBlank_16 ⟨Nat.le_of_ble_eq_true rfl, Nat.le_of_ble_eq_true rfl⟩ ⟨Nat.le_of_ble_eq_true rfl, Nat.le_of_ble_eq_true rfl⟩ (fun x7 h H locs S w => ?_)
    refine W.cs (cells' := 0) (slots' := 0) rfl rfl ?_
    refine lv_if_ge (tgt := 26) C.1.1 C.1.2.1 dX12_isBlank_19 (by decide) (fun c9 => ?_) (fun c9 => ?_)
    · replace w := ql_if w c9
      refine lv_iconst (v := (0 : Int32)) C.1.1 C.1.2.1 dX12_isBlank_26 (by decide) ?_
      exact hB27 (some a0) (0 : Int32) _ _ _ _ S (lv_sub hl [] rfl) w
    · replace w := ql_ifn w c9
      exact hB22 (some a0) _ _ _ _ S (lv_sub hl [] rfl) w
def qw_X12_lengthOn (a0 : Nat) (xp1 : Int32) (xp2 : Int32) (h : ql_H) (Q : Int32 → ql_H → Prop) : Prop :=
ql_rv h (some a0) 13 fun b1 => qw_X12_isBlank b1 xp1 xp2 h (fun x1 h =>
if x1 = 0 then (ql_rv h (some a0) 13 fun b3 => qw_X12_placeOf b3 xp1 h (fun x3 h =>
ql_rv h (some a0) 13 fun b5 => qw_X12_placeOf b5 xp1 h (fun x5 h =>
ql_rv h (some a0) 13 fun b7 => qw_X12_versionOn b7 x5 xp2 h (fun x7 h =>
ql_rv h (some a0) 13 fun b9 => qw_X12_of b9 x3 (x7 + (1 : Int32)) h (fun x9 h =>
Q x9 h))))) else (Q (0 : Int32) h))
set_option maxHeartbeats 4000000 in
set_option maxRecDepth 100000 in
theorem qm_X12_lengthOn (l : Launch) (hl9 : l.stackTraces = false) (D : ql_D) (h0 : ql_H) (a0 : Nat) (xp1 : Int32) (xp2 : Int32) (Q : Int32 → ql_H → Prop) (X : String → ql_H → Prop) (w : qw_X12_lengthOn a0 xp1 xp2 h0 Q) : ql_M D l yX12_lengthOn cX12_lengthOn 3 (some .int) ({ frames := 8, cells := 0, slots := 0, locals := 140 } : Room) h0 [.ref a0, .int xp1, .int xp2] (ql_rI Q) X 0 0 := by
  refine ql_ofW (by decide) (Nat.le_of_ble_eq_true rfl) ?_
  intro p e s m below meth c ls C hr hlocks hnm htab S hl
  have hl : lv_has ls 3 [(0, .ref a0), (1, .int xp1), (2, .int xp2)] := hl
  unfold qw_X12_lengthOn at w
  refine ql_aload_n (r := (some a0)) C dX12_lengthOn_0 rfl (lv_at hl 0 rfl) ?_
  refine lv_iload_n C.1.1 C.1.2.1 dX12_lengthOn_1 rfl (lv_at hl 1 rfl) ?_
  refine lv_iload_n C.1.1 C.1.2.1 dX12_lengthOn_2 rfl (lv_at hl 2 rfl) ?_
  refine ql_VI (As := [.int xp1, .int xp2]) (rest := []) C S htab hlocks hl qy_X12_isBlank qi_X12_isBlank qs_X12_isBlank gw_1927 (ci := 13) rfl w (fun b w => qm_X12_isBlank l hl9 D _ b xp1 xp2 _ _ w) rfl ⟨Nat.le_of_ble_eq_true rfl, Nat.le_of_ble_eq_true rfl⟩ ⟨rfl, rfl⟩ (by exact Nat.le_of_ble_eq_true rfl) (fun b e9 => by cases e9; rfl) dX12_lengthOn_3 ⟨Nat.le_of_ble_eq_true rfl, Nat.le_of_ble_eq_true rfl⟩ ⟨Nat.le_of_ble_eq_true rfl, Nat.le_of_ble_eq_true rfl⟩ (fun x1 h H locs S w => ?_)
  refine W.cs (cells' := 0) (slots' := 0) rfl rfl ?_
  refine lv_if_eq (tgt := 13) C.1.1 C.1.2.1 dX12_lengthOn_6 (by decide) (fun c9 => ?_) (fun c9 => ?_)
  · replace w := ql_if w c9
    refine ql_aload_n (r := (some a0)) C dX12_lengthOn_13 rfl (lv_at hl 0 rfl) ?_
    refine ql_aload_n (r := (some a0)) C dX12_lengthOn_14 rfl (lv_at hl 0 rfl) ?_
    refine lv_iload_n C.1.1 C.1.2.1 dX12_lengthOn_15 rfl (lv_at hl 1 rfl) ?_
    refine ql_VI (As := [.int xp1]) (rest := [.ref a0]) C S htab hlocks hl qy_X12_placeOf qi_X12_placeOf qs_X12_placeOf gw_1772 (ci := 13) rfl w (fun b w => qm_X12_placeOf l hl9 D _ b xp1 _ _ w) rfl ⟨Nat.le_of_ble_eq_true rfl, Nat.le_of_ble_eq_true rfl⟩ ⟨rfl, rfl⟩ (by exact Nat.le_of_ble_eq_true rfl) (fun b e9 => by cases e9; rfl) dX12_lengthOn_16 ⟨Nat.le_of_ble_eq_true rfl, Nat.le_of_ble_eq_true rfl⟩ ⟨Nat.le_of_ble_eq_true rfl, Nat.le_of_ble_eq_true rfl⟩ (fun x3 h H locs S w => ?_)
    refine W.cs (cells' := 0) (slots' := 0) rfl rfl ?_
    refine ql_aload_n (r := (some a0)) C dX12_lengthOn_19 rfl (lv_at hl 0 rfl) ?_
    refine ql_aload_n (r := (some a0)) C dX12_lengthOn_20 rfl (lv_at hl 0 rfl) ?_
    refine lv_iload_n C.1.1 C.1.2.1 dX12_lengthOn_21 rfl (lv_at hl 1 rfl) ?_
    refine ql_VI (As := [.int xp1]) (rest := [.ref a0, .int x3, .ref a0]) C S htab hlocks hl qy_X12_placeOf qi_X12_placeOf qs_X12_placeOf gw_1772 (ci := 13) rfl w (fun b w => qm_X12_placeOf l hl9 D _ b xp1 _ _ w) rfl ⟨Nat.le_of_ble_eq_true rfl, Nat.le_of_ble_eq_true rfl⟩ ⟨rfl, rfl⟩ (by exact Nat.le_of_ble_eq_true rfl) (fun b e9 => by cases e9; rfl) dX12_lengthOn_22 ⟨Nat.le_of_ble_eq_true rfl, Nat.le_of_ble_eq_true rfl⟩ ⟨Nat.le_of_ble_eq_true rfl, Nat.le_of_ble_eq_true rfl⟩ (fun x5 h H locs S w => ?_)
    refine W.cs (cells' := 0) (slots' := 0) rfl rfl ?_
    refine lv_iload_n C.1.1 C.1.2.1 dX12_lengthOn_25 rfl (lv_at hl 2 rfl) ?_
    refine ql_VI (As := [.int x5, .int xp2]) (rest := [.int x3, .ref a0]) C S htab hlocks hl qy_X12_versionOn qi_X12_versionOn qs_X12_versionOn gw_1931 (ci := 13) rfl w (fun b w => qm_X12_versionOn l hl9 D _ b x5 xp2 _ _ w) rfl ⟨Nat.le_of_ble_eq_true rfl, Nat.le_of_ble_eq_true rfl⟩ ⟨rfl, rfl⟩ (by exact Nat.le_of_ble_eq_true rfl) (fun b e9 => by cases e9; rfl) dX12_lengthOn_26 ⟨Nat.le_of_ble_eq_true rfl, Nat.le_of_ble_eq_true rfl⟩ ⟨Nat.le_of_ble_eq_true rfl, Nat.le_of_ble_eq_true rfl⟩ (fun x7 h H locs S w => ?_)
    refine W.cs (cells' := 0) (slots' := 0) rfl rfl ?_
    refine lv_iconst (v := (1 : Int32)) C.1.1 C.1.2.1 dX12_lengthOn_29 (by decide) ?_
    refine lv_iadd C.1.1 C.1.2.1 dX12_lengthOn_30 ?_
    refine ql_VI (As := [.int x3, .int (x7 + (1 : Int32))]) (rest := []) C S htab hlocks hl qy_X12_of qi_X12_of qs_X12_of gw_1745 (ci := 13) rfl w (fun b w => qm_X12_of l hl9 D _ b x3 (x7 + (1 : Int32)) _ _ w) rfl ⟨Nat.le_of_ble_eq_true rfl, Nat.le_of_ble_eq_true rfl⟩ ⟨rfl, rfl⟩ (by exact Nat.le_of_ble_eq_true rfl) (fun b e9 => by cases e9; rfl) dX12_lengthOn_31 ⟨Nat.le_of_ble_eq_true rfl, Nat.le_of_ble_eq_true rfl⟩ ⟨Nat.le_of_ble_eq_true rfl, Nat.le_of_ble_eq_true rfl⟩ (fun x9 h H locs S w => ?_)
    refine W.cs (cells' := 0) (slots' := 0) rfl rfl ?_
    exact ql_iret C S hr hlocks dX12_lengthOn_34 ⟨Nat.le_of_ble_eq_true rfl, Nat.le_of_ble_eq_true rfl⟩ w
  · replace w := ql_ifn w c9
    refine lv_iconst (v := (0 : Int32)) C.1.1 C.1.2.1 dX12_lengthOn_9 (by decide) ?_
    refine lv_goto (tgt := 34) C.1.1 C.1.2.1 dX12_lengthOn_10 (by decide) ?_
    exact ql_iret C S hr hlocks dX12_lengthOn_34 ⟨Nat.le_of_ble_eq_true rfl, Nat.le_of_ble_eq_true rfl⟩ w
def qw_X12_noteOn_54 (a0 : Nat) (Q : Int32 → ql_H → Prop) (xl3 : Int32) (xl4 : Int32) (xl5 : Int32) (rs0 : Option Nat) (xs1 : Int32) (h : ql_H) : Prop :=
ql_rv h rs0 13 fun b1 => qw_X12_fails b1 xs1 h (fun x1 h =>
if x1 = 0 then (ql_rv h (some a0) 13 fun b3 => qw_X12_note b3 xl4 xl5 xl3 h (fun x3 h =>
ql_nz .char (x3.toUInt32 % 65536).toInt32 ∧ Q (x3.toUInt32 % 65536).toInt32 h)) else (ql_nz .char (32 : Int32) ∧ Q (32 : Int32) h))
def qw_X12_noteOn (a0 : Nat) (xp1 : Int32) (xp2 : Int32) (xp3 : Int32) (h : ql_H) (Q : Int32 → ql_H → Prop) : Prop :=
ql_rv h (some a0) 13 fun b5 => qw_X12_isBlank b5 xp1 xp2 h (fun x5 h =>
if x5 = 0 then (ql_rv h (some a0) 13 fun b7 => qw_X12_placeOf b7 xp1 h (fun x7 h =>
ql_rv h (some a0) 13 fun b9 => qw_X12_versionOn b9 x7 xp2 h (fun x9 h =>
ql_rv h (some a0) 13 fun b11 => qw_X12_of b11 x7 (x9 + (1 : Int32)) h (fun x11 h =>
qw_X12_in xp3 (0 : Int32) (x11 - (1 : Int32)) h (fun x13 h =>
if x13 = 0 then (qw_X12_noteOn_54 a0 Q xp3 x7 x9 (some a0) (2 : Int32) h) else (qw_X12_noteOn_54 a0 Q xp3 x7 x9 (some a0) (0 : Int32) h)))))) else (ql_nz .char (32 : Int32) ∧ Q (32 : Int32) h))
set_option maxHeartbeats 4000000 in
set_option maxRecDepth 100000 in
theorem qm_X12_noteOn (l : Launch) (hl9 : l.stackTraces = false) (D : ql_D) (h0 : ql_H) (a0 : Nat) (xp1 : Int32) (xp2 : Int32) (xp3 : Int32) (Q : Int32 → ql_H → Prop) (X : String → ql_H → Prop) (w : qw_X12_noteOn a0 xp1 xp2 xp3 h0 Q) : ql_M D l yX12_noteOn cX12_noteOn 6 (some .char) ({ frames := 8, cells := 0, slots := 0, locals := 140 } : Room) h0 [.ref a0, .int xp1, .int xp2, .int xp3] (ql_rI Q) X 0 0 := by
  refine ql_ofW (by decide) (Nat.le_of_ble_eq_true rfl) ?_
  intro p e s m below meth c ls C hr hlocks hnm htab S hl
  have hl : lv_has ls 6 [(0, .ref a0), (1, .int xp1), (2, .int xp2), (3, .int xp3)] := hl
  have hB54 : ∀ (xl3 : Int32) (xl4 : Int32) (xl5 : Int32) (rs0 : Option Nat) (xs1 : Int32) (h : ql_H) (H : Heap) (locs : List Loc) (ls : Array Slot), ql_S D h0 s H locs h → lv_has ls 6 [(0, .ref a0), (3, .int xl3), (4, .int xl4), (5, .int xl5)] → qw_X12_noteOn_54 a0 Q xl3 xl4 xl5 rs0 xs1 h → W p l e ({ frames := 8, cells := 0, slots := 0, locals := 140 } : Room) s m ([.ref a0, .int xp1, .int xp2, .int xp3] : List Value).toArray below meth c H locs 0 0 (vx_MQ below (ql_Q D h0 (ql_rI Q)) (ql_X D h0 X) ([.ref a0, .int xp1, .int xp2, .int xp3] : List Value).toArray s 0 0 (ql_A h0)) (F0 m 54 ls [.int xs1, va_rf rs0]) := by
    intro xl3 xl4 xl5 rs0 xs1 h H locs ls S hl w
    unfold qw_X12_noteOn_54 at w
    refine ql_VI (As := [.int xs1]) (rest := []) C S htab hlocks hl qy_X12_fails qi_X12_fails qs_X12_fails gw_1749 (ci := 13) rfl w (fun b w => qm_X12_fails l hl9 D _ b xs1 _ _ w) rfl ⟨Nat.le_of_ble_eq_true rfl, Nat.le_of_ble_eq_true rfl⟩ ⟨rfl, rfl⟩ (by exact Nat.le_of_ble_eq_true rfl) (fun b e9 => by cases e9; rfl) dX12_noteOn_54 ⟨Nat.le_of_ble_eq_true rfl, Nat.le_of_ble_eq_true rfl⟩ ⟨Nat.le_of_ble_eq_true rfl, Nat.le_of_ble_eq_true rfl⟩ (fun x1 h H locs S w => ?_)
    refine W.cs (cells' := 0) (slots' := 0) rfl rfl ?_
    refine lv_if_eq (tgt := 65) C.1.1 C.1.2.1 dX12_noteOn_57 (by decide) (fun c9 => ?_) (fun c9 => ?_)
    · replace w := ql_if w c9
      refine ql_aload_n (r := (some a0)) C dX12_noteOn_65 rfl (lv_at hl 0 rfl) ?_
      refine lv_iload C.1.1 C.1.2.1 dX12_noteOn_66 (lv_at hl 2 rfl) ?_
      refine lv_iload C.1.1 C.1.2.1 dX12_noteOn_68 (lv_at hl 3 rfl) ?_
      refine lv_iload_n C.1.1 C.1.2.1 dX12_noteOn_70 rfl (lv_at hl 1 rfl) ?_
      refine ql_VI (As := [.int xl4, .int xl5, .int xl3]) (rest := []) C S htab hlocks hl qy_X12_note qi_X12_note qs_X12_note gw_1796 (ci := 13) rfl w (fun b w => qm_X12_note l hl9 D _ b xl4 xl5 xl3 _ _ w) rfl ⟨Nat.le_of_ble_eq_true rfl, Nat.le_of_ble_eq_true rfl⟩ ⟨rfl, rfl⟩ (by exact Nat.le_of_ble_eq_true rfl) (fun b e9 => by cases e9; rfl) dX12_noteOn_71 ⟨Nat.le_of_ble_eq_true rfl, Nat.le_of_ble_eq_true rfl⟩ ⟨Nat.le_of_ble_eq_true rfl, Nat.le_of_ble_eq_true rfl⟩ (fun x3 h H locs S w => ?_)
      refine W.cs (cells' := 0) (slots' := 0) rfl rfl ?_
      refine lv_i2c C.1.1 C.1.2.1 dX12_noteOn_74 rfl ?_
      exact ql_zret C S hr hlocks dX12_noteOn_75 ⟨Nat.le_of_ble_eq_true rfl, Nat.le_of_ble_eq_true rfl⟩ w
    · replace w := ql_ifn w c9
      refine lv_bipush (v := (32 : Int32)) C.1.1 C.1.2.1 dX12_noteOn_60 (by decide) ?_
      refine lv_goto (tgt := 75) C.1.1 C.1.2.1 dX12_noteOn_62 (by decide) ?_
      exact ql_zret C S hr hlocks dX12_noteOn_75 ⟨Nat.le_of_ble_eq_true rfl, Nat.le_of_ble_eq_true rfl⟩ w
  unfold qw_X12_noteOn at w
  refine ql_aload_n (r := (some a0)) C dX12_noteOn_0 rfl (lv_at hl 0 rfl) ?_
  refine lv_iload_n C.1.1 C.1.2.1 dX12_noteOn_1 rfl (lv_at hl 1 rfl) ?_
  refine lv_iload_n C.1.1 C.1.2.1 dX12_noteOn_2 rfl (lv_at hl 2 rfl) ?_
  refine ql_VI (As := [.int xp1, .int xp2]) (rest := []) C S htab hlocks hl qy_X12_isBlank qi_X12_isBlank qs_X12_isBlank gw_1927 (ci := 13) rfl w (fun b w => qm_X12_isBlank l hl9 D _ b xp1 xp2 _ _ w) rfl ⟨Nat.le_of_ble_eq_true rfl, Nat.le_of_ble_eq_true rfl⟩ ⟨rfl, rfl⟩ (by exact Nat.le_of_ble_eq_true rfl) (fun b e9 => by cases e9; rfl) dX12_noteOn_3 ⟨Nat.le_of_ble_eq_true rfl, Nat.le_of_ble_eq_true rfl⟩ ⟨Nat.le_of_ble_eq_true rfl, Nat.le_of_ble_eq_true rfl⟩ (fun x5 h H locs S w => ?_)
  refine W.cs (cells' := 0) (slots' := 0) rfl rfl ?_
  refine lv_if_eq (tgt := 12) C.1.1 C.1.2.1 dX12_noteOn_6 (by decide) (fun c9 => ?_) (fun c9 => ?_)
  · replace w := ql_if w c9
    refine ql_aload_n (r := (some a0)) C dX12_noteOn_12 rfl (lv_at hl 0 rfl) ?_
    refine lv_iload_n C.1.1 C.1.2.1 dX12_noteOn_13 rfl (lv_at hl 1 rfl) ?_
    refine ql_VI (As := [.int xp1]) (rest := []) C S htab hlocks hl qy_X12_placeOf qi_X12_placeOf qs_X12_placeOf gw_1772 (ci := 13) rfl w (fun b w => qm_X12_placeOf l hl9 D _ b xp1 _ _ w) rfl ⟨Nat.le_of_ble_eq_true rfl, Nat.le_of_ble_eq_true rfl⟩ ⟨rfl, rfl⟩ (by exact Nat.le_of_ble_eq_true rfl) (fun b e9 => by cases e9; rfl) dX12_noteOn_14 ⟨Nat.le_of_ble_eq_true rfl, Nat.le_of_ble_eq_true rfl⟩ ⟨Nat.le_of_ble_eq_true rfl, Nat.le_of_ble_eq_true rfl⟩ (fun x7 h H locs S w => ?_)
    refine W.cs (cells' := 0) (slots' := 0) rfl rfl ?_
    refine lv_istore (lv' := [(4, .int x7), (0, .ref a0), (1, .int xp1), (2, .int xp2), (3, .int xp3)]) C.1.1 C.1.2.1 dX12_noteOn_17 hl (by decide) rfl (fun ls hl => ?_)
    refine ql_aload_n (r := (some a0)) C dX12_noteOn_19 rfl (lv_at hl 1 rfl) ?_
    refine lv_iload C.1.1 C.1.2.1 dX12_noteOn_20 (lv_at hl 0 rfl) ?_
    refine lv_iload_n C.1.1 C.1.2.1 dX12_noteOn_22 rfl (lv_at hl 3 rfl) ?_
    refine ql_VI (As := [.int x7, .int xp2]) (rest := []) C S htab hlocks hl qy_X12_versionOn qi_X12_versionOn qs_X12_versionOn gw_1931 (ci := 13) rfl w (fun b w => qm_X12_versionOn l hl9 D _ b x7 xp2 _ _ w) rfl ⟨Nat.le_of_ble_eq_true rfl, Nat.le_of_ble_eq_true rfl⟩ ⟨rfl, rfl⟩ (by exact Nat.le_of_ble_eq_true rfl) (fun b e9 => by cases e9; rfl) dX12_noteOn_23 ⟨Nat.le_of_ble_eq_true rfl, Nat.le_of_ble_eq_true rfl⟩ ⟨Nat.le_of_ble_eq_true rfl, Nat.le_of_ble_eq_true rfl⟩ (fun x9 h H locs S w => ?_)
    refine W.cs (cells' := 0) (slots' := 0) rfl rfl ?_
    refine lv_istore (lv' := [(5, .int x9), (4, .int x7), (0, .ref a0), (1, .int xp1), (2, .int xp2), (3, .int xp3)]) C.1.1 C.1.2.1 dX12_noteOn_26 hl (by decide) rfl (fun ls hl => ?_)
    refine ql_aload_n (r := (some a0)) C dX12_noteOn_28 rfl (lv_at hl 2 rfl) ?_
    refine lv_iload_n C.1.1 C.1.2.1 dX12_noteOn_29 rfl (lv_at hl 5 rfl) ?_
    refine lv_iconst (v := (0 : Int32)) C.1.1 C.1.2.1 dX12_noteOn_30 (by decide) ?_
    refine ql_aload_n (r := (some a0)) C dX12_noteOn_31 rfl (lv_at hl 2 rfl) ?_
    refine lv_iload C.1.1 C.1.2.1 dX12_noteOn_32 (lv_at hl 1 rfl) ?_
    refine lv_iload C.1.1 C.1.2.1 dX12_noteOn_34 (lv_at hl 0 rfl) ?_
    refine lv_iconst (v := (1 : Int32)) C.1.1 C.1.2.1 dX12_noteOn_36 (by decide) ?_
    refine lv_iadd C.1.1 C.1.2.1 dX12_noteOn_37 ?_
    refine ql_VI (As := [.int x7, .int (x9 + (1 : Int32))]) (rest := [.int (0 : Int32), .int xp3, .ref a0]) C S htab hlocks hl qy_X12_of qi_X12_of qs_X12_of gw_1745 (ci := 13) rfl w (fun b w => qm_X12_of l hl9 D _ b x7 (x9 + (1 : Int32)) _ _ w) rfl ⟨Nat.le_of_ble_eq_true rfl, Nat.le_of_ble_eq_true rfl⟩ ⟨rfl, rfl⟩ (by exact Nat.le_of_ble_eq_true rfl) (fun b e9 => by cases e9; rfl) dX12_noteOn_38 ⟨Nat.le_of_ble_eq_true rfl, Nat.le_of_ble_eq_true rfl⟩ ⟨Nat.le_of_ble_eq_true rfl, Nat.le_of_ble_eq_true rfl⟩ (fun x11 h H locs S w => ?_)
    refine W.cs (cells' := 0) (slots' := 0) rfl rfl ?_
    refine lv_iconst (v := (1 : Int32)) C.1.1 C.1.2.1 dX12_noteOn_41 (by decide) ?_
    refine lv_isub C.1.1 C.1.2.1 dX12_noteOn_42 ?_
    refine ql_SI (As := [.int xp3, .int (0 : Int32), .int (x11 - (1 : Int32))]) (rest := [.ref a0]) C S htab hlocks hl qy_X12_in qi_X12_in gw_1735 (qm_X12_in l hl9 D _ xp3 (0 : Int32) (x11 - (1 : Int32)) _ _ w) rfl ⟨Nat.le_of_ble_eq_true rfl, Nat.le_of_ble_eq_true rfl⟩ ⟨rfl, rfl⟩ (by exact Nat.le_of_ble_eq_true rfl) rfl dX12_noteOn_43 ⟨Nat.le_of_ble_eq_true rfl, Nat.le_of_ble_eq_true rfl⟩ ⟨Nat.le_of_ble_eq_true rfl, Nat.le_of_ble_eq_true rfl⟩ (fun x13 h H locs S w => ?_)
    refine W.cs (cells' := 0) (slots' := 0) rfl rfl ?_
    refine lv_if_eq (tgt := 53) C.1.1 C.1.2.1 dX12_noteOn_46 (by decide) (fun c9 => ?_) (fun c9 => ?_)
    · replace w := ql_if w c9
      refine lv_iconst (v := (2 : Int32)) C.1.1 C.1.2.1 dX12_noteOn_53 (by decide) ?_
      exact hB54 xp3 x7 x9 (some a0) (2 : Int32) _ _ _ _ S (lv_sub hl [2, 5, 1, 0] rfl) w
    · replace w := ql_ifn w c9
      refine lv_iconst (v := (0 : Int32)) C.1.1 C.1.2.1 dX12_noteOn_49 (by decide) ?_
      refine lv_goto (tgt := 54) C.1.1 C.1.2.1 dX12_noteOn_50 (by decide) ?_
      exact hB54 xp3 x7 x9 (some a0) (0 : Int32) _ _ _ _ S (lv_sub hl [2, 5, 1, 0] rfl) w
  · replace w := ql_ifn w c9
    refine lv_bipush (v := (32 : Int32)) C.1.1 C.1.2.1 dX12_noteOn_9 (by decide) ?_
    exact ql_zret C S hr hlocks dX12_noteOn_11 ⟨Nat.le_of_ble_eq_true rfl, Nat.le_of_ble_eq_true rfl⟩ w
def qw_X12_apart_169 (a0 : Nat) (Q : Int32 → ql_H → Prop) (k93 : Int32 → Int32 → Int32 → Int32 → Int32 → Int32 → ql_H → Prop) (xl4 : Int32) (xl5 : Int32) (xl6 : Int32) (xl7 : Int32) (xl9 : Int32) (xl10 : Int32) (rs0 : Option Nat) (xs1 : Int32) (xs2 : Int32) (h : ql_H) : Prop :=
ql_sI h rs0 0 xs1 xs2 fun h =>
k93 xl4 xl5 xl6 xl7 xl10 (xl9 + (1 : Int32)) h
def qw_X12_apart_93 (a0 : Nat) (Q : Int32 → ql_H → Prop) (k72 : Int32 → Int32 → Int32 → Int32 → ql_H → Prop) : Nat → Int32 → Int32 → Int32 → Int32 → Int32 → Int32 → ql_H → Prop
  | 0, _, _, _, _, _, _, _ => False
  | n + 1, xl4, xl5, xl6, xl7, xl8, xl9, h =>
    ql_rv h (some a0) 13 fun b1 => qw_X12_of b1 xl4 (xl6 + (1 : Int32)) h (fun x1 h =>
    if x1 ≤ xl9 then (k72 xl4 xl5 xl6 (xl7 + (1 : Int32)) h) else (ql_gR h (some a0) 13 15 fun r3 =>
    ql_lI h r3 0 (xl9 + (1 : Int32)) fun x4 =>
    ql_gR h (some a0) 13 15 fun r5 =>
    ql_rv h (some a0) 13 fun b6 => qw_X12_note b6 xl4 xl5 xl7 h (fun x6 h =>
    ql_rv h (some a0) 13 fun b8 => qw_X12_note b8 xl4 xl6 xl9 h (fun x8 h =>
    if x6 = x8 then (qw_X12_apart_169 a0 Q (qw_X12_apart_93 a0 Q k72 n) xl4 xl5 xl6 xl7 xl9 x4 r5 (xl9 + (1 : Int32)) (xl8 + (1 : Int32)) h) else (ql_gR h (some a0) 13 15 fun r10 =>
    ql_lI h r10 0 xl9 fun x11 =>
    qw_X12_most x4 x11 h (fun x12 h =>
    qw_X12_apart_169 a0 Q (qw_X12_apart_93 a0 Q k72 n) xl4 xl5 xl6 xl7 xl9 x4 r5 (xl9 + (1 : Int32)) x12 h))))))
def qw_X12_apart_72 (a0 : Nat) (Q : Int32 → ql_H → Prop) : Nat → Int32 → Int32 → Int32 → Int32 → ql_H → Prop
  | 0, _, _, _, _, _ => False
  | n + 1, xl4, xl5, xl6, xl7, h =>
    ql_rv h (some a0) 13 fun b13 => qw_X12_of b13 xl4 (xl5 + (1 : Int32)) h (fun x13 h =>
    if x13 ≤ xl7 then (ql_rv h (some a0) 13 fun b15 => qw_X12_of b15 xl4 (xl5 + (1 : Int32)) h (fun x15 h =>
    ql_rv h (some a0) 13 fun b17 => qw_X12_of b17 xl4 (xl6 + (1 : Int32)) h (fun x17 h =>
    ql_gR h (some a0) 13 15 fun r19 =>
    ql_rv h (some a0) 13 fun b20 => qw_X12_of b20 xl4 (xl6 + (1 : Int32)) h (fun x20 h =>
    ql_lI h r19 0 x20 fun x22 =>
    Q ((x15 + x17) - ((2 : Int32) * x22)) h)))) else (qw_X12_apart_93 a0 Q (qw_X12_apart_72 a0 Q n) ql_FU xl4 xl5 xl6 xl7 (0 : Int32) (0 : Int32) h))
def qw_X12_apart_48 (a0 : Nat) (Q : Int32 → ql_H → Prop) : Nat → Int32 → Int32 → Int32 → Int32 → ql_H → Prop
  | 0, _, _, _, _, _ => False
  | n + 1, xl4, xl5, xl6, xl7, h =>
    if (13 : Int32) ≤ xl7 then (qw_X12_apart_72 a0 Q ql_FU xl4 xl5 xl6 (0 : Int32) h) else (ql_gR h (some a0) 13 15 fun r23 =>
    ql_sI h r23 0 xl7 (0 : Int32) fun h =>
    qw_X12_apart_48 a0 Q n xl4 xl5 xl6 (xl7 + (1 : Int32)) h)
def qw_X12_apart (a0 : Nat) (xp1 : Int32) (xp2 : Int32) (xp3 : Int32) (h : ql_H) (Q : Int32 → ql_H → Prop) : Prop :=
ql_rv h (some a0) 13 fun b24 => qw_X12_isBlank b24 xp1 xp2 h (fun x24 h =>
if x24 = 0 then (ql_rv h (some a0) 13 fun b26 => qw_X12_isBlank b26 xp1 xp3 h (fun x26 h =>
if x26 = 0 then (ql_rv h (some a0) 13 fun b28 => qw_X12_placeOf b28 xp1 h (fun x28 h =>
ql_rv h (some a0) 13 fun b30 => qw_X12_versionOn b30 x28 xp2 h (fun x30 h =>
ql_rv h (some a0) 13 fun b32 => qw_X12_versionOn b32 x28 xp3 h (fun x32 h =>
qw_X12_apart_48 a0 Q ql_FU x28 x30 x32 (0 : Int32) h)))) else (Q (0 : Int32) h))) else (Q (0 : Int32) h))
set_option maxHeartbeats 4000000 in
set_option maxRecDepth 100000 in
theorem qm_X12_apart (l : Launch) (hl9 : l.stackTraces = false) (D : ql_D) (h0 : ql_H) (a0 : Nat) (xp1 : Int32) (xp2 : Int32) (xp3 : Int32) (Q : Int32 → ql_H → Prop) (X : String → ql_H → Prop) (w : qw_X12_apart a0 xp1 xp2 xp3 h0 Q) : ql_M D l yX12_apart cX12_apart 11 (some .int) ({ frames := 8, cells := 0, slots := 0, locals := 140 } : Room) h0 [.ref a0, .int xp1, .int xp2, .int xp3] (ql_rI Q) X 0 0 := by
  refine ql_ofW (by decide) (Nat.le_of_ble_eq_true rfl) ?_
  intro p e s m below meth c ls C hr hlocks hnm htab S hl
  have hl : lv_has ls 11 [(0, .ref a0), (1, .int xp1), (2, .int xp2), (3, .int xp3)] := hl
  have hB169 : ∀ (k93 : Int32 → Int32 → Int32 → Int32 → Int32 → Int32 → ql_H → Prop) (hk93 : ∀ (xl4 : Int32) (xl5 : Int32) (xl6 : Int32) (xl7 : Int32) (xl8 : Int32) (xl9 : Int32) (h : ql_H) (H : Heap) (locs : List Loc) (ls : Array Slot), ql_S D h0 s H locs h → lv_has ls 11 [(0, .ref a0), (4, .int xl4), (5, .int xl5), (6, .int xl6), (7, .int xl7), (8, .int xl8), (9, .int xl9)] → k93 xl4 xl5 xl6 xl7 xl8 xl9 h → W p l e ({ frames := 8, cells := 0, slots := 0, locals := 140 } : Room) s m ([.ref a0, .int xp1, .int xp2, .int xp3] : List Value).toArray below meth c H locs 0 0 (vx_MQ below (ql_Q D h0 (ql_rI Q)) (ql_X D h0 X) ([.ref a0, .int xp1, .int xp2, .int xp3] : List Value).toArray s 0 0 (ql_A h0)) (F0 m 93 ls [])) , ∀ (xl4 : Int32) (xl5 : Int32) (xl6 : Int32) (xl7 : Int32) (xl9 : Int32) (xl10 : Int32) (rs0 : Option Nat) (xs1 : Int32) (xs2 : Int32) (h : ql_H) (H : Heap) (locs : List Loc) (ls : Array Slot), ql_S D h0 s H locs h → lv_has ls 11 [(0, .ref a0), (4, .int xl4), (5, .int xl5), (6, .int xl6), (7, .int xl7), (9, .int xl9), (10, .int xl10)] → qw_X12_apart_169 a0 Q k93 xl4 xl5 xl6 xl7 xl9 xl10 rs0 xs1 xs2 h → W p l e ({ frames := 8, cells := 0, slots := 0, locals := 140 } : Room) s m ([.ref a0, .int xp1, .int xp2, .int xp3] : List Value).toArray below meth c H locs 0 0 (vx_MQ below (ql_Q D h0 (ql_rI Q)) (ql_X D h0 X) ([.ref a0, .int xp1, .int xp2, .int xp3] : List Value).toArray s 0 0 (ql_A h0)) (F0 m 169 ls [.int xs2, .int xs1, va_rf rs0]) := by
    intro k93 hk93 xl4 xl5 xl6 xl7 xl9 xl10 rs0 xs1 xs2 h H locs ls S hl w
    unfold qw_X12_apart_169 at w
    refine ql_iast C S dX12_apart_169 w (fun h H locs S w => ?_)
    refine lv_iload C.1.1 C.1.2.1 dX12_apart_170 (lv_at hl 6 rfl) ?_
    refine lv_istore (lv' := [(8, .int xl10), (0, .ref a0), (4, .int xl4), (5, .int xl5), (6, .int xl6), (7, .int xl7), (9, .int xl9), (10, .int xl10)]) C.1.1 C.1.2.1 dX12_apart_172 hl (by decide) rfl (fun ls hl => ?_)
    refine lv_iinc (v := (xl9 + (1 : Int32))) (lv' := [(9, .int (xl9 + (1 : Int32))), (8, .int xl10), (0, .ref a0), (4, .int xl4), (5, .int xl5), (6, .int xl6), (7, .int xl7), (10, .int xl10)]) C.1.1 C.1.2.1 dX12_apart_174 hl (k := 6) rfl rfl (by decide) rfl (fun ls hl => ?_)
    refine lv_goto (tgt := 93) C.1.1 C.1.2.1 dX12_apart_177 (by decide) ?_
    exact hk93 xl4 xl5 xl6 xl7 xl10 (xl9 + (1 : Int32)) _ _ _ _ S (lv_sub hl [2, 3, 4, 5, 6, 1, 0] rfl) w
  have hB93 : ∀ (k72 : Int32 → Int32 → Int32 → Int32 → ql_H → Prop) (hk72 : ∀ (xl4 : Int32) (xl5 : Int32) (xl6 : Int32) (xl7 : Int32) (h : ql_H) (H : Heap) (locs : List Loc) (ls : Array Slot), ql_S D h0 s H locs h → lv_has ls 11 [(0, .ref a0), (4, .int xl4), (5, .int xl5), (6, .int xl6), (7, .int xl7)] → k72 xl4 xl5 xl6 xl7 h → W p l e ({ frames := 8, cells := 0, slots := 0, locals := 140 } : Room) s m ([.ref a0, .int xp1, .int xp2, .int xp3] : List Value).toArray below meth c H locs 0 0 (vx_MQ below (ql_Q D h0 (ql_rI Q)) (ql_X D h0 X) ([.ref a0, .int xp1, .int xp2, .int xp3] : List Value).toArray s 0 0 (ql_A h0)) (F0 m 72 ls [])) , ∀ n : Nat, ∀ (xl4 : Int32) (xl5 : Int32) (xl6 : Int32) (xl7 : Int32) (xl8 : Int32) (xl9 : Int32) (h : ql_H) (H : Heap) (locs : List Loc) (ls : Array Slot), ql_S D h0 s H locs h → lv_has ls 11 [(0, .ref a0), (4, .int xl4), (5, .int xl5), (6, .int xl6), (7, .int xl7), (8, .int xl8), (9, .int xl9)] → qw_X12_apart_93 a0 Q k72 n xl4 xl5 xl6 xl7 xl8 xl9 h → W p l e ({ frames := 8, cells := 0, slots := 0, locals := 140 } : Room) s m ([.ref a0, .int xp1, .int xp2, .int xp3] : List Value).toArray below meth c H locs 0 0 (vx_MQ below (ql_Q D h0 (ql_rI Q)) (ql_X D h0 X) ([.ref a0, .int xp1, .int xp2, .int xp3] : List Value).toArray s 0 0 (ql_A h0)) (F0 m 93 ls []) := by
    intro k72 hk72 n
    induction n with
    | zero => intro xl4 xl5 xl6 xl7 xl8 xl9 h H locs ls S hl w; rw [qw_X12_apart_93] at w; exact w.elim
    | succ n ih =>
      intro xl4 xl5 xl6 xl7 xl8 xl9 h H locs ls S hl w
      rw [qw_X12_apart_93] at w
      refine lv_iload C.1.1 C.1.2.1 dX12_apart_93 (lv_at hl 6 rfl) ?_
      refine ql_aload_n (r := (some a0)) C dX12_apart_95 rfl (lv_at hl 0 rfl) ?_
      refine lv_iload C.1.1 C.1.2.1 dX12_apart_96 (lv_at hl 1 rfl) ?_
      refine lv_iload C.1.1 C.1.2.1 dX12_apart_98 (lv_at hl 3 rfl) ?_
      refine lv_iconst (v := (1 : Int32)) C.1.1 C.1.2.1 dX12_apart_100 (by decide) ?_
      refine lv_iadd C.1.1 C.1.2.1 dX12_apart_101 ?_
      refine ql_VI (As := [.int xl4, .int (xl6 + (1 : Int32))]) (rest := [.int xl9]) C S htab hlocks hl qy_X12_of qi_X12_of qs_X12_of gw_1745 (ci := 13) rfl w (fun b w => qm_X12_of l hl9 D _ b xl4 (xl6 + (1 : Int32)) _ _ w) rfl ⟨Nat.le_of_ble_eq_true rfl, Nat.le_of_ble_eq_true rfl⟩ ⟨rfl, rfl⟩ (by exact Nat.le_of_ble_eq_true rfl) (fun b e9 => by cases e9; rfl) dX12_apart_102 ⟨Nat.le_of_ble_eq_true rfl, Nat.le_of_ble_eq_true rfl⟩ ⟨Nat.le_of_ble_eq_true rfl, Nat.le_of_ble_eq_true rfl⟩ (fun x1 h H locs S w => ?_)
      refine W.cs (cells' := 0) (slots' := 0) rfl rfl ?_
      refine lv_icmp_ge (tgt := 180) C.1.1 C.1.2.1 dX12_apart_105 (by decide) (fun c9 => ?_) (fun c9 => ?_)
      · replace w := ql_if w c9
        refine lv_iinc (v := (xl7 + (1 : Int32))) (lv' := [(7, .int (xl7 + (1 : Int32))), (0, .ref a0), (4, .int xl4), (5, .int xl5), (6, .int xl6), (8, .int xl8), (9, .int xl9)]) C.1.1 C.1.2.1 dX12_apart_180 hl (k := 4) rfl rfl (by decide) rfl (fun ls hl => ?_)
        refine lv_goto (tgt := 72) C.1.1 C.1.2.1 dX12_apart_183 (by decide) ?_
        exact hk72 xl4 xl5 xl6 (xl7 + (1 : Int32)) _ _ _ _ S (lv_sub hl [1, 2, 3, 4, 0] rfl) w
      · replace w := ql_ifn w c9
        refine ql_aload_n (r := (some a0)) C dX12_apart_108 rfl (lv_at hl 0 rfl) ?_
        refine ql_getR C S qf_13_15 gw_1683 dX12_apart_109 w (fun r3 w => ?_)
        refine lv_iload C.1.1 C.1.2.1 dX12_apart_112 (lv_at hl 6 rfl) ?_
        refine lv_iconst (v := (1 : Int32)) C.1.1 C.1.2.1 dX12_apart_114 (by decide) ?_
        refine lv_iadd C.1.1 C.1.2.1 dX12_apart_115 ?_
        refine ql_iald C S dX12_apart_116 w (fun x4 w => ?_)
        refine lv_istore (lv' := [(10, .int x4), (0, .ref a0), (4, .int xl4), (5, .int xl5), (6, .int xl6), (7, .int xl7), (8, .int xl8), (9, .int xl9)]) C.1.1 C.1.2.1 dX12_apart_117 hl (by decide) rfl (fun ls hl => ?_)
        refine ql_aload_n (r := (some a0)) C dX12_apart_119 rfl (lv_at hl 1 rfl) ?_
        refine ql_getR C S qf_13_15 gw_1683 dX12_apart_120 w (fun r5 w => ?_)
        refine lv_iload C.1.1 C.1.2.1 dX12_apart_123 (lv_at hl 7 rfl) ?_
        refine lv_iconst (v := (1 : Int32)) C.1.1 C.1.2.1 dX12_apart_125 (by decide) ?_
        refine lv_iadd C.1.1 C.1.2.1 dX12_apart_126 ?_
        refine ql_aload_n (r := (some a0)) C dX12_apart_127 rfl (lv_at hl 1 rfl) ?_
        refine lv_iload C.1.1 C.1.2.1 dX12_apart_128 (lv_at hl 2 rfl) ?_
        refine lv_iload C.1.1 C.1.2.1 dX12_apart_130 (lv_at hl 3 rfl) ?_
        refine lv_iload C.1.1 C.1.2.1 dX12_apart_132 (lv_at hl 5 rfl) ?_
        refine ql_VI (As := [.int xl4, .int xl5, .int xl7]) (rest := [.int (xl9 + (1 : Int32)), va_rf r5]) C S htab hlocks hl qy_X12_note qi_X12_note qs_X12_note gw_1796 (ci := 13) rfl w (fun b w => qm_X12_note l hl9 D _ b xl4 xl5 xl7 _ _ w) rfl ⟨Nat.le_of_ble_eq_true rfl, Nat.le_of_ble_eq_true rfl⟩ ⟨rfl, rfl⟩ (by generalize r5 = z0; cases z0 <;> exact Nat.le_of_ble_eq_true rfl) (fun b e9 => by cases e9; rfl) dX12_apart_134 ⟨Nat.le_of_ble_eq_true rfl, Nat.le_of_ble_eq_true rfl⟩ ⟨Nat.le_of_ble_eq_true rfl, Nat.le_of_ble_eq_true rfl⟩ (fun x6 h H locs S w => ?_)
        refine W.cs (cells' := 0) (slots' := 0) rfl rfl ?_
        refine ql_aload_n (r := (some a0)) C dX12_apart_137 rfl (lv_at hl 1 rfl) ?_
        refine lv_iload C.1.1 C.1.2.1 dX12_apart_138 (lv_at hl 2 rfl) ?_
        refine lv_iload C.1.1 C.1.2.1 dX12_apart_140 (lv_at hl 4 rfl) ?_
        refine lv_iload C.1.1 C.1.2.1 dX12_apart_142 (lv_at hl 7 rfl) ?_
        refine ql_VI (As := [.int xl4, .int xl6, .int xl9]) (rest := [.int x6, .int (xl9 + (1 : Int32)), va_rf r5]) C S htab hlocks hl qy_X12_note qi_X12_note qs_X12_note gw_1796 (ci := 13) rfl w (fun b w => qm_X12_note l hl9 D _ b xl4 xl6 xl9 _ _ w) rfl ⟨Nat.le_of_ble_eq_true rfl, Nat.le_of_ble_eq_true rfl⟩ ⟨rfl, rfl⟩ (by generalize r5 = z0; cases z0 <;> exact Nat.le_of_ble_eq_true rfl) (fun b e9 => by cases e9; rfl) dX12_apart_144 ⟨Nat.le_of_ble_eq_true rfl, Nat.le_of_ble_eq_true rfl⟩ ⟨Nat.le_of_ble_eq_true rfl, Nat.le_of_ble_eq_true rfl⟩ (fun x8 h H locs S w => ?_)
        refine W.cs (cells' := 0) (slots' := 0) rfl rfl ?_
        refine lv_icmp_ne (tgt := 157) C.1.1 C.1.2.1 dX12_apart_147 (by decide) (fun c9 => ?_) (fun c9 => ?_)
        · replace w := ql_ifn w c9
          refine lv_iload C.1.1 C.1.2.1 dX12_apart_157 (lv_at hl 0 rfl) ?_
          refine ql_aload_n (r := (some a0)) C dX12_apart_159 rfl (lv_at hl 1 rfl) ?_
          refine ql_getR C S qf_13_15 gw_1683 dX12_apart_160 w (fun r10 w => ?_)
          refine lv_iload C.1.1 C.1.2.1 dX12_apart_163 (lv_at hl 7 rfl) ?_
          refine ql_iald C S dX12_apart_165 w (fun x11 w => ?_)
          refine ql_SI (As := [.int x4, .int x11]) (rest := [.int (xl9 + (1 : Int32)), va_rf r5]) C S htab hlocks hl qy_X12_most qi_X12_most gw_1908 (qm_X12_most l hl9 D _ x4 x11 _ _ w) rfl ⟨Nat.le_of_ble_eq_true rfl, Nat.le_of_ble_eq_true rfl⟩ ⟨rfl, rfl⟩ (by generalize r5 = z0; cases z0 <;> exact Nat.le_of_ble_eq_true rfl) rfl dX12_apart_166 ⟨Nat.le_of_ble_eq_true rfl, Nat.le_of_ble_eq_true rfl⟩ ⟨Nat.le_of_ble_eq_true rfl, Nat.le_of_ble_eq_true rfl⟩ (fun x12 h H locs S w => ?_)
          refine W.cs (cells' := 0) (slots' := 0) rfl rfl ?_
          exact hB169 (qw_X12_apart_93 a0 Q k72 n) ih xl4 xl5 xl6 xl7 xl9 x4 r5 (xl9 + (1 : Int32)) x12 _ _ _ _ S (lv_sub hl [1, 2, 3, 4, 5, 7, 0] rfl) w
        · replace w := ql_if w c9
          refine lv_iload C.1.1 C.1.2.1 dX12_apart_150 (lv_at hl 6 rfl) ?_
          refine lv_iconst (v := (1 : Int32)) C.1.1 C.1.2.1 dX12_apart_152 (by decide) ?_
          refine lv_iadd C.1.1 C.1.2.1 dX12_apart_153 ?_
          refine lv_goto (tgt := 169) C.1.1 C.1.2.1 dX12_apart_154 (by decide) ?_
          exact hB169 (qw_X12_apart_93 a0 Q k72 n) ih xl4 xl5 xl6 xl7 xl9 x4 r5 (xl9 + (1 : Int32)) (xl8 + (1 : Int32)) _ _ _ _ S (lv_sub hl [1, 2, 3, 4, 5, 7, 0] rfl) w
  have hB72 : ∀ n : Nat, ∀ (xl4 : Int32) (xl5 : Int32) (xl6 : Int32) (xl7 : Int32) (h : ql_H) (H : Heap) (locs : List Loc) (ls : Array Slot), ql_S D h0 s H locs h → lv_has ls 11 [(0, .ref a0), (4, .int xl4), (5, .int xl5), (6, .int xl6), (7, .int xl7)] → qw_X12_apart_72 a0 Q n xl4 xl5 xl6 xl7 h → W p l e ({ frames := 8, cells := 0, slots := 0, locals := 140 } : Room) s m ([.ref a0, .int xp1, .int xp2, .int xp3] : List Value).toArray below meth c H locs 0 0 (vx_MQ below (ql_Q D h0 (ql_rI Q)) (ql_X D h0 X) ([.ref a0, .int xp1, .int xp2, .int xp3] : List Value).toArray s 0 0 (ql_A h0)) (F0 m 72 ls []) := by
    intro n
    induction n with
    | zero => intro xl4 xl5 xl6 xl7 h H locs ls S hl w; rw [qw_X12_apart_72] at w; exact w.elim
    | succ n ih =>
      intro xl4 xl5 xl6 xl7 h H locs ls S hl w
      rw [qw_X12_apart_72] at w
      refine lv_iload C.1.1 C.1.2.1 dX12_apart_72 (lv_at hl 4 rfl) ?_
      refine ql_aload_n (r := (some a0)) C dX12_apart_74 rfl (lv_at hl 0 rfl) ?_
      refine lv_iload C.1.1 C.1.2.1 dX12_apart_75 (lv_at hl 1 rfl) ?_
      refine lv_iload C.1.1 C.1.2.1 dX12_apart_77 (lv_at hl 2 rfl) ?_
      refine lv_iconst (v := (1 : Int32)) C.1.1 C.1.2.1 dX12_apart_79 (by decide) ?_
      refine lv_iadd C.1.1 C.1.2.1 dX12_apart_80 ?_
      refine ql_VI (As := [.int xl4, .int (xl5 + (1 : Int32))]) (rest := [.int xl7]) C S htab hlocks hl qy_X12_of qi_X12_of qs_X12_of gw_1745 (ci := 13) rfl w (fun b w => qm_X12_of l hl9 D _ b xl4 (xl5 + (1 : Int32)) _ _ w) rfl ⟨Nat.le_of_ble_eq_true rfl, Nat.le_of_ble_eq_true rfl⟩ ⟨rfl, rfl⟩ (by exact Nat.le_of_ble_eq_true rfl) (fun b e9 => by cases e9; rfl) dX12_apart_81 ⟨Nat.le_of_ble_eq_true rfl, Nat.le_of_ble_eq_true rfl⟩ ⟨Nat.le_of_ble_eq_true rfl, Nat.le_of_ble_eq_true rfl⟩ (fun x13 h H locs S w => ?_)
      refine W.cs (cells' := 0) (slots' := 0) rfl rfl ?_
      refine lv_icmp_ge (tgt := 186) C.1.1 C.1.2.1 dX12_apart_84 (by decide) (fun c9 => ?_) (fun c9 => ?_)
      · replace w := ql_if w c9
        refine ql_aload_n (r := (some a0)) C dX12_apart_186 rfl (lv_at hl 0 rfl) ?_
        refine lv_iload C.1.1 C.1.2.1 dX12_apart_187 (lv_at hl 1 rfl) ?_
        refine lv_iload C.1.1 C.1.2.1 dX12_apart_189 (lv_at hl 2 rfl) ?_
        refine lv_iconst (v := (1 : Int32)) C.1.1 C.1.2.1 dX12_apart_191 (by decide) ?_
        refine lv_iadd C.1.1 C.1.2.1 dX12_apart_192 ?_
        refine ql_VI (As := [.int xl4, .int (xl5 + (1 : Int32))]) (rest := []) C S htab hlocks hl qy_X12_of qi_X12_of qs_X12_of gw_1745 (ci := 13) rfl w (fun b w => qm_X12_of l hl9 D _ b xl4 (xl5 + (1 : Int32)) _ _ w) rfl ⟨Nat.le_of_ble_eq_true rfl, Nat.le_of_ble_eq_true rfl⟩ ⟨rfl, rfl⟩ (by exact Nat.le_of_ble_eq_true rfl) (fun b e9 => by cases e9; rfl) dX12_apart_193 ⟨Nat.le_of_ble_eq_true rfl, Nat.le_of_ble_eq_true rfl⟩ ⟨Nat.le_of_ble_eq_true rfl, Nat.le_of_ble_eq_true rfl⟩ (fun x15 h H locs S w => ?_)
        refine W.cs (cells' := 0) (slots' := 0) rfl rfl ?_
        refine ql_aload_n (r := (some a0)) C dX12_apart_196 rfl (lv_at hl 0 rfl) ?_
        refine lv_iload C.1.1 C.1.2.1 dX12_apart_197 (lv_at hl 1 rfl) ?_
        refine lv_iload C.1.1 C.1.2.1 dX12_apart_199 (lv_at hl 3 rfl) ?_
        refine lv_iconst (v := (1 : Int32)) C.1.1 C.1.2.1 dX12_apart_201 (by decide) ?_
        refine lv_iadd C.1.1 C.1.2.1 dX12_apart_202 ?_
        refine ql_VI (As := [.int xl4, .int (xl6 + (1 : Int32))]) (rest := [.int x15]) C S htab hlocks hl qy_X12_of qi_X12_of qs_X12_of gw_1745 (ci := 13) rfl w (fun b w => qm_X12_of l hl9 D _ b xl4 (xl6 + (1 : Int32)) _ _ w) rfl ⟨Nat.le_of_ble_eq_true rfl, Nat.le_of_ble_eq_true rfl⟩ ⟨rfl, rfl⟩ (by exact Nat.le_of_ble_eq_true rfl) (fun b e9 => by cases e9; rfl) dX12_apart_203 ⟨Nat.le_of_ble_eq_true rfl, Nat.le_of_ble_eq_true rfl⟩ ⟨Nat.le_of_ble_eq_true rfl, Nat.le_of_ble_eq_true rfl⟩ (fun x17 h H locs S w => ?_)
        refine W.cs (cells' := 0) (slots' := 0) rfl rfl ?_
        refine lv_iadd C.1.1 C.1.2.1 dX12_apart_206 ?_
        refine lv_iconst (v := (2 : Int32)) C.1.1 C.1.2.1 dX12_apart_207 (by decide) ?_
        refine ql_aload_n (r := (some a0)) C dX12_apart_208 rfl (lv_at hl 0 rfl) ?_
        refine ql_getR C S qf_13_15 gw_1683 dX12_apart_209 w (fun r19 w => ?_)
        refine ql_aload_n (r := (some a0)) C dX12_apart_212 rfl (lv_at hl 0 rfl) ?_
        refine lv_iload C.1.1 C.1.2.1 dX12_apart_213 (lv_at hl 1 rfl) ?_
        refine lv_iload C.1.1 C.1.2.1 dX12_apart_215 (lv_at hl 3 rfl) ?_
        refine lv_iconst (v := (1 : Int32)) C.1.1 C.1.2.1 dX12_apart_217 (by decide) ?_
        refine lv_iadd C.1.1 C.1.2.1 dX12_apart_218 ?_
        refine ql_VI (As := [.int xl4, .int (xl6 + (1 : Int32))]) (rest := [va_rf r19, .int (2 : Int32), .int (x15 + x17)]) C S htab hlocks hl qy_X12_of qi_X12_of qs_X12_of gw_1745 (ci := 13) rfl w (fun b w => qm_X12_of l hl9 D _ b xl4 (xl6 + (1 : Int32)) _ _ w) rfl ⟨Nat.le_of_ble_eq_true rfl, Nat.le_of_ble_eq_true rfl⟩ ⟨rfl, rfl⟩ (by generalize r19 = z0; cases z0 <;> exact Nat.le_of_ble_eq_true rfl) (fun b e9 => by cases e9; rfl) dX12_apart_219 ⟨Nat.le_of_ble_eq_true rfl, Nat.le_of_ble_eq_true rfl⟩ ⟨Nat.le_of_ble_eq_true rfl, Nat.le_of_ble_eq_true rfl⟩ (fun x20 h H locs S w => ?_)
        refine W.cs (cells' := 0) (slots' := 0) rfl rfl ?_
        refine ql_iald C S dX12_apart_222 w (fun x22 w => ?_)
        refine lv_imul C.1.1 C.1.2.1 dX12_apart_223 ?_
        refine lv_isub C.1.1 C.1.2.1 dX12_apart_224 ?_
        exact ql_iret C S hr hlocks dX12_apart_225 ⟨Nat.le_of_ble_eq_true rfl, Nat.le_of_ble_eq_true rfl⟩ w
      · replace w := ql_ifn w c9
        refine lv_iconst (v := (0 : Int32)) C.1.1 C.1.2.1 dX12_apart_87 (by decide) ?_
        refine lv_istore (lv' := [(8, .int (0 : Int32)), (0, .ref a0), (4, .int xl4), (5, .int xl5), (6, .int xl6), (7, .int xl7)]) C.1.1 C.1.2.1 dX12_apart_88 hl (by decide) rfl (fun ls hl => ?_)
        refine lv_iconst (v := (0 : Int32)) C.1.1 C.1.2.1 dX12_apart_90 (by decide) ?_
        refine lv_istore (lv' := [(9, .int (0 : Int32)), (8, .int (0 : Int32)), (0, .ref a0), (4, .int xl4), (5, .int xl5), (6, .int xl6), (7, .int xl7)]) C.1.1 C.1.2.1 dX12_apart_91 hl (by decide) rfl (fun ls hl => ?_)
        exact hB93 (qw_X12_apart_72 a0 Q n) ih ql_FU xl4 xl5 xl6 xl7 (0 : Int32) (0 : Int32) _ _ _ _ S (lv_sub hl [2, 3, 4, 5, 6, 1, 0] rfl) w
  have hB48 : ∀ n : Nat, ∀ (xl4 : Int32) (xl5 : Int32) (xl6 : Int32) (xl7 : Int32) (h : ql_H) (H : Heap) (locs : List Loc) (ls : Array Slot), ql_S D h0 s H locs h → lv_has ls 11 [(0, .ref a0), (4, .int xl4), (5, .int xl5), (6, .int xl6), (7, .int xl7)] → qw_X12_apart_48 a0 Q n xl4 xl5 xl6 xl7 h → W p l e ({ frames := 8, cells := 0, slots := 0, locals := 140 } : Room) s m ([.ref a0, .int xp1, .int xp2, .int xp3] : List Value).toArray below meth c H locs 0 0 (vx_MQ below (ql_Q D h0 (ql_rI Q)) (ql_X D h0 X) ([.ref a0, .int xp1, .int xp2, .int xp3] : List Value).toArray s 0 0 (ql_A h0)) (F0 m 48 ls []) := by
    intro n
    induction n with
    | zero => intro xl4 xl5 xl6 xl7 h H locs ls S hl w; rw [qw_X12_apart_48] at w; exact w.elim
    | succ n ih =>
      intro xl4 xl5 xl6 xl7 h H locs ls S hl w
      rw [qw_X12_apart_48] at w
      refine lv_iload C.1.1 C.1.2.1 dX12_apart_48 (lv_at hl 4 rfl) ?_
      refine lv_bipush (v := (13 : Int32)) C.1.1 C.1.2.1 dX12_apart_50 (by decide) ?_
      refine lv_icmp_ge (tgt := 69) C.1.1 C.1.2.1 dX12_apart_52 (by decide) (fun c9 => ?_) (fun c9 => ?_)
      · replace w := ql_if w c9
        refine lv_iconst (v := (0 : Int32)) C.1.1 C.1.2.1 dX12_apart_69 (by decide) ?_
        refine lv_istore (lv' := [(7, .int (0 : Int32)), (0, .ref a0), (4, .int xl4), (5, .int xl5), (6, .int xl6)]) C.1.1 C.1.2.1 dX12_apart_70 hl (by decide) rfl (fun ls hl => ?_)
        exact hB72 ql_FU xl4 xl5 xl6 (0 : Int32) _ _ _ _ S (lv_sub hl [1, 2, 3, 4, 0] rfl) w
      · replace w := ql_ifn w c9
        refine ql_aload_n (r := (some a0)) C dX12_apart_55 rfl (lv_at hl 0 rfl) ?_
        refine ql_getR C S qf_13_15 gw_1683 dX12_apart_56 w (fun r23 w => ?_)
        refine lv_iload C.1.1 C.1.2.1 dX12_apart_59 (lv_at hl 4 rfl) ?_
        refine lv_iconst (v := (0 : Int32)) C.1.1 C.1.2.1 dX12_apart_61 (by decide) ?_
        refine ql_iast C S dX12_apart_62 w (fun h H locs S w => ?_)
        refine lv_iinc (v := (xl7 + (1 : Int32))) (lv' := [(7, .int (xl7 + (1 : Int32))), (0, .ref a0), (4, .int xl4), (5, .int xl5), (6, .int xl6)]) C.1.1 C.1.2.1 dX12_apart_63 hl (k := 4) rfl rfl (by decide) rfl (fun ls hl => ?_)
        refine lv_goto (tgt := 48) C.1.1 C.1.2.1 dX12_apart_66 (by decide) ?_
        exact ih xl4 xl5 xl6 (xl7 + (1 : Int32)) _ _ _ _ S (lv_sub hl [1, 2, 3, 4, 0] rfl) w
  unfold qw_X12_apart at w
  refine ql_aload_n (r := (some a0)) C dX12_apart_0 rfl (lv_at hl 0 rfl) ?_
  refine lv_iload_n C.1.1 C.1.2.1 dX12_apart_1 rfl (lv_at hl 1 rfl) ?_
  refine lv_iload_n C.1.1 C.1.2.1 dX12_apart_2 rfl (lv_at hl 2 rfl) ?_
  refine ql_VI (As := [.int xp1, .int xp2]) (rest := []) C S htab hlocks hl qy_X12_isBlank qi_X12_isBlank qs_X12_isBlank gw_1927 (ci := 13) rfl w (fun b w => qm_X12_isBlank l hl9 D _ b xp1 xp2 _ _ w) rfl ⟨Nat.le_of_ble_eq_true rfl, Nat.le_of_ble_eq_true rfl⟩ ⟨rfl, rfl⟩ (by exact Nat.le_of_ble_eq_true rfl) (fun b e9 => by cases e9; rfl) dX12_apart_3 ⟨Nat.le_of_ble_eq_true rfl, Nat.le_of_ble_eq_true rfl⟩ ⟨Nat.le_of_ble_eq_true rfl, Nat.le_of_ble_eq_true rfl⟩ (fun x24 h H locs S w => ?_)
  refine W.cs (cells' := 0) (slots' := 0) rfl rfl ?_
  refine lv_if_ne (tgt := 18) C.1.1 C.1.2.1 dX12_apart_6 (by decide) (fun c9 => ?_) (fun c9 => ?_)
  · replace w := ql_ifn w c9
    refine lv_iconst (v := (0 : Int32)) C.1.1 C.1.2.1 dX12_apart_18 (by decide) ?_
    exact ql_iret C S hr hlocks dX12_apart_19 ⟨Nat.le_of_ble_eq_true rfl, Nat.le_of_ble_eq_true rfl⟩ w
  · replace w := ql_if w c9
    refine ql_aload_n (r := (some a0)) C dX12_apart_9 rfl (lv_at hl 0 rfl) ?_
    refine lv_iload_n C.1.1 C.1.2.1 dX12_apart_10 rfl (lv_at hl 1 rfl) ?_
    refine lv_iload_n C.1.1 C.1.2.1 dX12_apart_11 rfl (lv_at hl 3 rfl) ?_
    refine ql_VI (As := [.int xp1, .int xp3]) (rest := []) C S htab hlocks hl qy_X12_isBlank qi_X12_isBlank qs_X12_isBlank gw_1927 (ci := 13) rfl w (fun b w => qm_X12_isBlank l hl9 D _ b xp1 xp3 _ _ w) rfl ⟨Nat.le_of_ble_eq_true rfl, Nat.le_of_ble_eq_true rfl⟩ ⟨rfl, rfl⟩ (by exact Nat.le_of_ble_eq_true rfl) (fun b e9 => by cases e9; rfl) dX12_apart_12 ⟨Nat.le_of_ble_eq_true rfl, Nat.le_of_ble_eq_true rfl⟩ ⟨Nat.le_of_ble_eq_true rfl, Nat.le_of_ble_eq_true rfl⟩ (fun x26 h H locs S w => ?_)
    refine W.cs (cells' := 0) (slots' := 0) rfl rfl ?_
    refine lv_if_eq (tgt := 20) C.1.1 C.1.2.1 dX12_apart_15 (by decide) (fun c9 => ?_) (fun c9 => ?_)
    · replace w := ql_if w c9
      refine ql_aload_n (r := (some a0)) C dX12_apart_20 rfl (lv_at hl 0 rfl) ?_
      refine lv_iload_n C.1.1 C.1.2.1 dX12_apart_21 rfl (lv_at hl 1 rfl) ?_
      refine ql_VI (As := [.int xp1]) (rest := []) C S htab hlocks hl qy_X12_placeOf qi_X12_placeOf qs_X12_placeOf gw_1772 (ci := 13) rfl w (fun b w => qm_X12_placeOf l hl9 D _ b xp1 _ _ w) rfl ⟨Nat.le_of_ble_eq_true rfl, Nat.le_of_ble_eq_true rfl⟩ ⟨rfl, rfl⟩ (by exact Nat.le_of_ble_eq_true rfl) (fun b e9 => by cases e9; rfl) dX12_apart_22 ⟨Nat.le_of_ble_eq_true rfl, Nat.le_of_ble_eq_true rfl⟩ ⟨Nat.le_of_ble_eq_true rfl, Nat.le_of_ble_eq_true rfl⟩ (fun x28 h H locs S w => ?_)
      refine W.cs (cells' := 0) (slots' := 0) rfl rfl ?_
      refine lv_istore (lv' := [(4, .int x28), (0, .ref a0), (1, .int xp1), (2, .int xp2), (3, .int xp3)]) C.1.1 C.1.2.1 dX12_apart_25 hl (by decide) rfl (fun ls hl => ?_)
      refine ql_aload_n (r := (some a0)) C dX12_apart_27 rfl (lv_at hl 1 rfl) ?_
      refine lv_iload C.1.1 C.1.2.1 dX12_apart_28 (lv_at hl 0 rfl) ?_
      refine lv_iload_n C.1.1 C.1.2.1 dX12_apart_30 rfl (lv_at hl 3 rfl) ?_
      refine ql_VI (As := [.int x28, .int xp2]) (rest := []) C S htab hlocks hl qy_X12_versionOn qi_X12_versionOn qs_X12_versionOn gw_1931 (ci := 13) rfl w (fun b w => qm_X12_versionOn l hl9 D _ b x28 xp2 _ _ w) rfl ⟨Nat.le_of_ble_eq_true rfl, Nat.le_of_ble_eq_true rfl⟩ ⟨rfl, rfl⟩ (by exact Nat.le_of_ble_eq_true rfl) (fun b e9 => by cases e9; rfl) dX12_apart_31 ⟨Nat.le_of_ble_eq_true rfl, Nat.le_of_ble_eq_true rfl⟩ ⟨Nat.le_of_ble_eq_true rfl, Nat.le_of_ble_eq_true rfl⟩ (fun x30 h H locs S w => ?_)
      refine W.cs (cells' := 0) (slots' := 0) rfl rfl ?_
      refine lv_istore (lv' := [(5, .int x30), (4, .int x28), (0, .ref a0), (1, .int xp1), (2, .int xp2), (3, .int xp3)]) C.1.1 C.1.2.1 dX12_apart_34 hl (by decide) rfl (fun ls hl => ?_)
      refine ql_aload_n (r := (some a0)) C dX12_apart_36 rfl (lv_at hl 2 rfl) ?_
      refine lv_iload C.1.1 C.1.2.1 dX12_apart_37 (lv_at hl 1 rfl) ?_
      refine lv_iload_n C.1.1 C.1.2.1 dX12_apart_39 rfl (lv_at hl 5 rfl) ?_
      refine ql_VI (As := [.int x28, .int xp3]) (rest := []) C S htab hlocks hl qy_X12_versionOn qi_X12_versionOn qs_X12_versionOn gw_1931 (ci := 13) rfl w (fun b w => qm_X12_versionOn l hl9 D _ b x28 xp3 _ _ w) rfl ⟨Nat.le_of_ble_eq_true rfl, Nat.le_of_ble_eq_true rfl⟩ ⟨rfl, rfl⟩ (by exact Nat.le_of_ble_eq_true rfl) (fun b e9 => by cases e9; rfl) dX12_apart_40 ⟨Nat.le_of_ble_eq_true rfl, Nat.le_of_ble_eq_true rfl⟩ ⟨Nat.le_of_ble_eq_true rfl, Nat.le_of_ble_eq_true rfl⟩ (fun x32 h H locs S w => ?_)
      refine W.cs (cells' := 0) (slots' := 0) rfl rfl ?_
      refine lv_istore (lv' := [(6, .int x32), (5, .int x30), (4, .int x28), (0, .ref a0), (1, .int xp1), (2, .int xp2), (3, .int xp3)]) C.1.1 C.1.2.1 dX12_apart_43 hl (by decide) rfl (fun ls hl => ?_)
      refine lv_iconst (v := (0 : Int32)) C.1.1 C.1.2.1 dX12_apart_45 (by decide) ?_
      refine lv_istore (lv' := [(7, .int (0 : Int32)), (6, .int x32), (5, .int x30), (4, .int x28), (0, .ref a0), (1, .int xp1), (2, .int xp2), (3, .int xp3)]) C.1.1 C.1.2.1 dX12_apart_46 hl (by decide) rfl (fun ls hl => ?_)
      exact hB48 ql_FU x28 x30 x32 (0 : Int32) _ _ _ _ S (lv_sub hl [4, 3, 2, 1, 0] rfl) w
    · replace w := ql_ifn w c9
      refine lv_iconst (v := (0 : Int32)) C.1.1 C.1.2.1 dX12_apart_18 (by decide) ?_
      exact ql_iret C S hr hlocks dX12_apart_19 ⟨Nat.le_of_ble_eq_true rfl, Nat.le_of_ble_eq_true rfl⟩ w
def qw_X12_difference (a0 : Nat) (xp1 : Int32) (xp2 : Int32) (xp3 : Int32) (h : ql_H) (Q : Int32 → ql_H → Prop) : Prop :=
ql_rv h (some a0) 13 fun b1 => qw_X12_apart b1 xp1 xp2 xp3 h (fun x1 h =>
Q x1 h)
set_option maxHeartbeats 4000000 in
set_option maxRecDepth 100000 in
theorem qm_X12_difference (l : Launch) (hl9 : l.stackTraces = false) (D : ql_D) (h0 : ql_H) (a0 : Nat) (xp1 : Int32) (xp2 : Int32) (xp3 : Int32) (Q : Int32 → ql_H → Prop) (X : String → ql_H → Prop) (w : qw_X12_difference a0 xp1 xp2 xp3 h0 Q) : ql_M D l yX12_difference cX12_difference 4 (some .int) ({ frames := 10, cells := 0, slots := 0, locals := 178 } : Room) h0 [.ref a0, .int xp1, .int xp2, .int xp3] (ql_rI Q) X 0 0 := by
  refine ql_ofW (by decide) (Nat.le_of_ble_eq_true rfl) ?_
  intro p e s m below meth c ls C hr hlocks hnm htab S hl
  have hl : lv_has ls 4 [(0, .ref a0), (1, .int xp1), (2, .int xp2), (3, .int xp3)] := hl
  unfold qw_X12_difference at w
  refine ql_aload_n (r := (some a0)) C dX12_difference_0 rfl (lv_at hl 0 rfl) ?_
  refine lv_iload_n C.1.1 C.1.2.1 dX12_difference_1 rfl (lv_at hl 1 rfl) ?_
  refine lv_iload_n C.1.1 C.1.2.1 dX12_difference_2 rfl (lv_at hl 2 rfl) ?_
  refine lv_iload_n C.1.1 C.1.2.1 dX12_difference_3 rfl (lv_at hl 3 rfl) ?_
  refine ql_VI (As := [.int xp1, .int xp2, .int xp3]) (rest := []) C S htab hlocks hl qy_X12_apart qi_X12_apart qs_X12_apart gw_1943 (ci := 13) rfl w (fun b w => qm_X12_apart l hl9 D _ b xp1 xp2 xp3 _ _ w) rfl ⟨Nat.le_of_ble_eq_true rfl, Nat.le_of_ble_eq_true rfl⟩ ⟨rfl, rfl⟩ (by exact Nat.le_of_ble_eq_true rfl) (fun b e9 => by cases e9; rfl) dX12_difference_4 ⟨Nat.le_of_ble_eq_true rfl, Nat.le_of_ble_eq_true rfl⟩ ⟨Nat.le_of_ble_eq_true rfl, Nat.le_of_ble_eq_true rfl⟩ (fun x1 h H locs S w => ?_)
  refine W.cs (cells' := 0) (slots' := 0) rfl rfl ?_
  exact ql_iret C S hr hlocks dX12_difference_7 ⟨Nat.le_of_ble_eq_true rfl, Nat.le_of_ble_eq_true rfl⟩ w
def qw_X12_differenceByEnds (a0 : Nat) (xp1 : Int32) (xp2 : Int32) (xp3 : Int32) (h : ql_H) (Q : Int32 → ql_H → Prop) : Prop :=
ql_rv h (some a0) 13 fun b1 => qw_X12_apart b1 xp1 xp2 xp3 h (fun x1 h =>
Q x1 h)
set_option maxHeartbeats 4000000 in
set_option maxRecDepth 100000 in
theorem qm_X12_differenceByEnds (l : Launch) (hl9 : l.stackTraces = false) (D : ql_D) (h0 : ql_H) (a0 : Nat) (xp1 : Int32) (xp2 : Int32) (xp3 : Int32) (Q : Int32 → ql_H → Prop) (X : String → ql_H → Prop) (w : qw_X12_differenceByEnds a0 xp1 xp2 xp3 h0 Q) : ql_M D l yX12_differenceByEnds cX12_differenceByEnds 4 (some .int) ({ frames := 10, cells := 0, slots := 0, locals := 178 } : Room) h0 [.ref a0, .int xp1, .int xp2, .int xp3] (ql_rI Q) X 0 0 := by
  refine ql_ofW (by decide) (Nat.le_of_ble_eq_true rfl) ?_
  intro p e s m below meth c ls C hr hlocks hnm htab S hl
  have hl : lv_has ls 4 [(0, .ref a0), (1, .int xp1), (2, .int xp2), (3, .int xp3)] := hl
  unfold qw_X12_differenceByEnds at w
  refine ql_aload_n (r := (some a0)) C dX12_differenceByEnds_0 rfl (lv_at hl 0 rfl) ?_
  refine lv_iload_n C.1.1 C.1.2.1 dX12_differenceByEnds_1 rfl (lv_at hl 1 rfl) ?_
  refine lv_iload_n C.1.1 C.1.2.1 dX12_differenceByEnds_2 rfl (lv_at hl 2 rfl) ?_
  refine lv_iload_n C.1.1 C.1.2.1 dX12_differenceByEnds_3 rfl (lv_at hl 3 rfl) ?_
  refine ql_VI (As := [.int xp1, .int xp2, .int xp3]) (rest := []) C S htab hlocks hl qy_X12_apart qi_X12_apart qs_X12_apart gw_1943 (ci := 13) rfl w (fun b w => qm_X12_apart l hl9 D _ b xp1 xp2 xp3 _ _ w) rfl ⟨Nat.le_of_ble_eq_true rfl, Nat.le_of_ble_eq_true rfl⟩ ⟨rfl, rfl⟩ (by exact Nat.le_of_ble_eq_true rfl) (fun b e9 => by cases e9; rfl) dX12_differenceByEnds_4 ⟨Nat.le_of_ble_eq_true rfl, Nat.le_of_ble_eq_true rfl⟩ ⟨Nat.le_of_ble_eq_true rfl, Nat.le_of_ble_eq_true rfl⟩ (fun x1 h H locs S w => ?_)
  refine W.cs (cells' := 0) (slots' := 0) rfl rfl ?_
  exact ql_iret C S hr hlocks dX12_differenceByEnds_7 ⟨Nat.le_of_ble_eq_true rfl, Nat.le_of_ble_eq_true rfl⟩ w
def qw_X12_areAlike_17 (a0 : Nat) (Q : Int32 → ql_H → Prop) : Nat → Int32 → Int32 → Int32 → ql_H → Prop
  | 0, _, _, _, _ => False
  | n + 1, xl1, xl2, xl3, h =>
    ql_rv h (some a0) 13 fun b1 => qw_X12_long0 b1 xl1 h (fun x1 h =>
    if x1 ≤ xl3 then (ql_nz .boolean (1 : Int32) ∧ Q (1 : Int32) h) else (ql_rv h (some a0) 13 fun b3 => qw_X12_lastVersion b3 xl1 h (fun x3 h =>
    ql_rv h (some a0) 13 fun b5 => qw_X12_note b5 xl1 x3 xl3 h (fun x5 h =>
    ql_rv h (some a0) 13 fun b7 => qw_X12_lastVersion b7 xl2 h (fun x7 h =>
    ql_rv h (some a0) 13 fun b9 => qw_X12_note b9 xl2 x7 xl3 h (fun x9 h =>
    if x5 = x9 then (qw_X12_areAlike_17 a0 Q n xl1 xl2 (xl3 + (1 : Int32)) h) else (ql_nz .boolean (0 : Int32) ∧ Q (0 : Int32) h)))))))
def qw_X12_areAlike (a0 : Nat) (xp1 : Int32) (xp2 : Int32) (h : ql_H) (Q : Int32 → ql_H → Prop) : Prop :=
ql_rv h (some a0) 13 fun b11 => qw_X12_long0 b11 xp1 h (fun x11 h =>
ql_rv h (some a0) 13 fun b13 => qw_X12_long0 b13 xp2 h (fun x13 h =>
if x11 = x13 then (qw_X12_areAlike_17 a0 Q ql_FU xp1 xp2 (0 : Int32) h) else (ql_nz .boolean (0 : Int32) ∧ Q (0 : Int32) h)))
set_option maxHeartbeats 4000000 in
set_option maxRecDepth 100000 in
theorem qm_X12_areAlike (l : Launch) (hl9 : l.stackTraces = false) (D : ql_D) (h0 : ql_H) (a0 : Nat) (xp1 : Int32) (xp2 : Int32) (Q : Int32 → ql_H → Prop) (X : String → ql_H → Prop) (w : qw_X12_areAlike a0 xp1 xp2 h0 Q) : ql_M D l yX12_areAlike cX12_areAlike 4 (some .boolean) ({ frames := 8, cells := 0, slots := 0, locals := 136 } : Room) h0 [.ref a0, .int xp1, .int xp2] (ql_rI Q) X 0 0 := by
  refine ql_ofW (by decide) (Nat.le_of_ble_eq_true rfl) ?_
  intro p e s m below meth c ls C hr hlocks hnm htab S hl
  have hl : lv_has ls 4 [(0, .ref a0), (1, .int xp1), (2, .int xp2)] := hl
  have hB17 : ∀ n : Nat, ∀ (xl1 : Int32) (xl2 : Int32) (xl3 : Int32) (h : ql_H) (H : Heap) (locs : List Loc) (ls : Array Slot), ql_S D h0 s H locs h → lv_has ls 4 [(0, .ref a0), (1, .int xl1), (2, .int xl2), (3, .int xl3)] → qw_X12_areAlike_17 a0 Q n xl1 xl2 xl3 h → W p l e ({ frames := 8, cells := 0, slots := 0, locals := 136 } : Room) s m ([.ref a0, .int xp1, .int xp2] : List Value).toArray below meth c H locs 0 0 (vx_MQ below (ql_Q D h0 (ql_rI Q)) (ql_X D h0 X) ([.ref a0, .int xp1, .int xp2] : List Value).toArray s 0 0 (ql_A h0)) (F0 m 17 ls []) := by
    intro n
    induction n with
    | zero => intro xl1 xl2 xl3 h H locs ls S hl w; rw [qw_X12_areAlike_17] at w; exact w.elim
    | succ n ih =>
      intro xl1 xl2 xl3 h H locs ls S hl w
      rw [qw_X12_areAlike_17] at w
      refine lv_iload_n C.1.1 C.1.2.1 dX12_areAlike_17 rfl (lv_at hl 3 rfl) ?_
      refine ql_aload_n (r := (some a0)) C dX12_areAlike_18 rfl (lv_at hl 0 rfl) ?_
      refine lv_iload_n C.1.1 C.1.2.1 dX12_areAlike_19 rfl (lv_at hl 1 rfl) ?_
      refine ql_VI (As := [.int xl1]) (rest := [.int xl3]) C S htab hlocks hl qy_X12_long0 qi_X12_long0 qs_X12_long0 gw_1776 (ci := 13) rfl w (fun b w => qm_X12_long0 l hl9 D _ b xl1 _ _ w) rfl ⟨Nat.le_of_ble_eq_true rfl, Nat.le_of_ble_eq_true rfl⟩ ⟨rfl, rfl⟩ (by exact Nat.le_of_ble_eq_true rfl) (fun b e9 => by cases e9; rfl) dX12_areAlike_20 ⟨Nat.le_of_ble_eq_true rfl, Nat.le_of_ble_eq_true rfl⟩ ⟨Nat.le_of_ble_eq_true rfl, Nat.le_of_ble_eq_true rfl⟩ (fun x1 h H locs S w => ?_)
      refine W.cs (cells' := 0) (slots' := 0) rfl rfl ?_
      refine lv_icmp_ge (tgt := 59) C.1.1 C.1.2.1 dX12_areAlike_23 (by decide) (fun c9 => ?_) (fun c9 => ?_)
      · replace w := ql_if w c9
        refine lv_iconst (v := (1 : Int32)) C.1.1 C.1.2.1 dX12_areAlike_59 (by decide) ?_
        exact ql_zret C S hr hlocks dX12_areAlike_60 ⟨Nat.le_of_ble_eq_true rfl, Nat.le_of_ble_eq_true rfl⟩ w
      · replace w := ql_ifn w c9
        refine ql_aload_n (r := (some a0)) C dX12_areAlike_26 rfl (lv_at hl 0 rfl) ?_
        refine lv_iload_n C.1.1 C.1.2.1 dX12_areAlike_27 rfl (lv_at hl 1 rfl) ?_
        refine ql_aload_n (r := (some a0)) C dX12_areAlike_28 rfl (lv_at hl 0 rfl) ?_
        refine lv_iload_n C.1.1 C.1.2.1 dX12_areAlike_29 rfl (lv_at hl 1 rfl) ?_
        refine ql_VI (As := [.int xl1]) (rest := [.int xl1, .ref a0]) C S htab hlocks hl qy_X12_lastVersion qi_X12_lastVersion qs_X12_lastVersion gw_1780 (ci := 13) rfl w (fun b w => qm_X12_lastVersion l hl9 D _ b xl1 _ _ w) rfl ⟨Nat.le_of_ble_eq_true rfl, Nat.le_of_ble_eq_true rfl⟩ ⟨rfl, rfl⟩ (by exact Nat.le_of_ble_eq_true rfl) (fun b e9 => by cases e9; rfl) dX12_areAlike_30 ⟨Nat.le_of_ble_eq_true rfl, Nat.le_of_ble_eq_true rfl⟩ ⟨Nat.le_of_ble_eq_true rfl, Nat.le_of_ble_eq_true rfl⟩ (fun x3 h H locs S w => ?_)
        refine W.cs (cells' := 0) (slots' := 0) rfl rfl ?_
        refine lv_iload_n C.1.1 C.1.2.1 dX12_areAlike_33 rfl (lv_at hl 3 rfl) ?_
        refine ql_VI (As := [.int xl1, .int x3, .int xl3]) (rest := []) C S htab hlocks hl qy_X12_note qi_X12_note qs_X12_note gw_1796 (ci := 13) rfl w (fun b w => qm_X12_note l hl9 D _ b xl1 x3 xl3 _ _ w) rfl ⟨Nat.le_of_ble_eq_true rfl, Nat.le_of_ble_eq_true rfl⟩ ⟨rfl, rfl⟩ (by exact Nat.le_of_ble_eq_true rfl) (fun b e9 => by cases e9; rfl) dX12_areAlike_34 ⟨Nat.le_of_ble_eq_true rfl, Nat.le_of_ble_eq_true rfl⟩ ⟨Nat.le_of_ble_eq_true rfl, Nat.le_of_ble_eq_true rfl⟩ (fun x5 h H locs S w => ?_)
        refine W.cs (cells' := 0) (slots' := 0) rfl rfl ?_
        refine ql_aload_n (r := (some a0)) C dX12_areAlike_37 rfl (lv_at hl 0 rfl) ?_
        refine lv_iload_n C.1.1 C.1.2.1 dX12_areAlike_38 rfl (lv_at hl 2 rfl) ?_
        refine ql_aload_n (r := (some a0)) C dX12_areAlike_39 rfl (lv_at hl 0 rfl) ?_
        refine lv_iload_n C.1.1 C.1.2.1 dX12_areAlike_40 rfl (lv_at hl 2 rfl) ?_
        refine ql_VI (As := [.int xl2]) (rest := [.int xl2, .ref a0, .int x5]) C S htab hlocks hl qy_X12_lastVersion qi_X12_lastVersion qs_X12_lastVersion gw_1780 (ci := 13) rfl w (fun b w => qm_X12_lastVersion l hl9 D _ b xl2 _ _ w) rfl ⟨Nat.le_of_ble_eq_true rfl, Nat.le_of_ble_eq_true rfl⟩ ⟨rfl, rfl⟩ (by exact Nat.le_of_ble_eq_true rfl) (fun b e9 => by cases e9; rfl) dX12_areAlike_41 ⟨Nat.le_of_ble_eq_true rfl, Nat.le_of_ble_eq_true rfl⟩ ⟨Nat.le_of_ble_eq_true rfl, Nat.le_of_ble_eq_true rfl⟩ (fun x7 h H locs S w => ?_)
        refine W.cs (cells' := 0) (slots' := 0) rfl rfl ?_
        refine lv_iload_n C.1.1 C.1.2.1 dX12_areAlike_44 rfl (lv_at hl 3 rfl) ?_
        refine ql_VI (As := [.int xl2, .int x7, .int xl3]) (rest := [.int x5]) C S htab hlocks hl qy_X12_note qi_X12_note qs_X12_note gw_1796 (ci := 13) rfl w (fun b w => qm_X12_note l hl9 D _ b xl2 x7 xl3 _ _ w) rfl ⟨Nat.le_of_ble_eq_true rfl, Nat.le_of_ble_eq_true rfl⟩ ⟨rfl, rfl⟩ (by exact Nat.le_of_ble_eq_true rfl) (fun b e9 => by cases e9; rfl) dX12_areAlike_45 ⟨Nat.le_of_ble_eq_true rfl, Nat.le_of_ble_eq_true rfl⟩ ⟨Nat.le_of_ble_eq_true rfl, Nat.le_of_ble_eq_true rfl⟩ (fun x9 h H locs S w => ?_)
        refine W.cs (cells' := 0) (slots' := 0) rfl rfl ?_
        refine lv_icmp_eq (tgt := 53) C.1.1 C.1.2.1 dX12_areAlike_48 (by decide) (fun c9 => ?_) (fun c9 => ?_)
        · replace w := ql_if w c9
          refine lv_iinc (v := (xl3 + (1 : Int32))) (lv' := [(3, .int (xl3 + (1 : Int32))), (0, .ref a0), (1, .int xl1), (2, .int xl2)]) C.1.1 C.1.2.1 dX12_areAlike_53 hl (k := 3) rfl rfl (by decide) rfl (fun ls hl => ?_)
          refine lv_goto (tgt := 17) C.1.1 C.1.2.1 dX12_areAlike_56 (by decide) ?_
          exact ih xl1 xl2 (xl3 + (1 : Int32)) _ _ _ _ S (lv_sub hl [1, 2, 3, 0] rfl) w
        · replace w := ql_ifn w c9
          refine lv_iconst (v := (0 : Int32)) C.1.1 C.1.2.1 dX12_areAlike_51 (by decide) ?_
          exact ql_zret C S hr hlocks dX12_areAlike_52 ⟨Nat.le_of_ble_eq_true rfl, Nat.le_of_ble_eq_true rfl⟩ w
  unfold qw_X12_areAlike at w
  refine ql_aload_n (r := (some a0)) C dX12_areAlike_0 rfl (lv_at hl 0 rfl) ?_
  refine lv_iload_n C.1.1 C.1.2.1 dX12_areAlike_1 rfl (lv_at hl 1 rfl) ?_
  refine ql_VI (As := [.int xp1]) (rest := []) C S htab hlocks hl qy_X12_long0 qi_X12_long0 qs_X12_long0 gw_1776 (ci := 13) rfl w (fun b w => qm_X12_long0 l hl9 D _ b xp1 _ _ w) rfl ⟨Nat.le_of_ble_eq_true rfl, Nat.le_of_ble_eq_true rfl⟩ ⟨rfl, rfl⟩ (by exact Nat.le_of_ble_eq_true rfl) (fun b e9 => by cases e9; rfl) dX12_areAlike_2 ⟨Nat.le_of_ble_eq_true rfl, Nat.le_of_ble_eq_true rfl⟩ ⟨Nat.le_of_ble_eq_true rfl, Nat.le_of_ble_eq_true rfl⟩ (fun x11 h H locs S w => ?_)
  refine W.cs (cells' := 0) (slots' := 0) rfl rfl ?_
  refine ql_aload_n (r := (some a0)) C dX12_areAlike_5 rfl (lv_at hl 0 rfl) ?_
  refine lv_iload_n C.1.1 C.1.2.1 dX12_areAlike_6 rfl (lv_at hl 2 rfl) ?_
  refine ql_VI (As := [.int xp2]) (rest := [.int x11]) C S htab hlocks hl qy_X12_long0 qi_X12_long0 qs_X12_long0 gw_1776 (ci := 13) rfl w (fun b w => qm_X12_long0 l hl9 D _ b xp2 _ _ w) rfl ⟨Nat.le_of_ble_eq_true rfl, Nat.le_of_ble_eq_true rfl⟩ ⟨rfl, rfl⟩ (by exact Nat.le_of_ble_eq_true rfl) (fun b e9 => by cases e9; rfl) dX12_areAlike_7 ⟨Nat.le_of_ble_eq_true rfl, Nat.le_of_ble_eq_true rfl⟩ ⟨Nat.le_of_ble_eq_true rfl, Nat.le_of_ble_eq_true rfl⟩ (fun x13 h H locs S w => ?_)
  refine W.cs (cells' := 0) (slots' := 0) rfl rfl ?_
  refine lv_icmp_eq (tgt := 15) C.1.1 C.1.2.1 dX12_areAlike_10 (by decide) (fun c9 => ?_) (fun c9 => ?_)
  · replace w := ql_if w c9
    refine lv_iconst (v := (0 : Int32)) C.1.1 C.1.2.1 dX12_areAlike_15 (by decide) ?_
    refine lv_istore_n (lv' := [(3, .int (0 : Int32)), (0, .ref a0), (1, .int xp1), (2, .int xp2)]) C.1.1 C.1.2.1 dX12_areAlike_16 rfl hl (by decide) rfl (fun ls hl => ?_)
    exact hB17 ql_FU xp1 xp2 (0 : Int32) _ _ _ _ S (lv_sub hl [1, 2, 3, 0] rfl) w
  · replace w := ql_ifn w c9
    refine lv_iconst (v := (0 : Int32)) C.1.1 C.1.2.1 dX12_areAlike_13 (by decide) ?_
    exact ql_zret C S hr hlocks dX12_areAlike_14 ⟨Nat.le_of_ble_eq_true rfl, Nat.le_of_ble_eq_true rfl⟩ w
def qw_X12_pairs_41 (a0 : Nat) (Q : Int32 → ql_H → Prop) (k21 : Int32 → Int32 → Int32 → ql_H → Prop) (xl2 : Int32) (xl3 : Int32) (xs0 : Int32) (xs1 : Int32) (h : ql_H) : Prop :=
k21 (xs0 + xs1) xl2 (xl3 + (1 : Int32)) h
def qw_X12_pairs_21 (a0 : Nat) (Q : Int32 → ql_H → Prop) (k9 : Int32 → Int32 → ql_H → Prop) : Nat → Int32 → Int32 → Int32 → ql_H → Prop
  | 0, _, _, _, _ => False
  | n + 1, xl1, xl2, xl3, h =>
    if xl2 ≤ xl3 then (k9 xl1 (xl2 + (1 : Int32)) h) else (ql_rv h (some a0) 13 fun b1 => qw_X12_areAlike b1 xl2 xl3 h (fun x1 h =>
    if x1 = 0 then (qw_X12_pairs_41 a0 Q (qw_X12_pairs_21 a0 Q k9 n) xl2 xl3 xl1 (0 : Int32) h) else (qw_X12_pairs_41 a0 Q (qw_X12_pairs_21 a0 Q k9 n) xl2 xl3 xl1 (1 : Int32) h)))
def qw_X12_pairs_9 (a0 : Nat) (Q : Int32 → ql_H → Prop) : Nat → Int32 → Int32 → ql_H → Prop
  | 0, _, _, _ => False
  | n + 1, xl1, xl2, h =>
    ql_gR h (some a0) 13 0 fun r3 =>
    ql_lI h r3 0 (0 : Int32) fun x4 =>
    if x4 ≤ xl2 then (Q xl1 h) else (qw_X12_pairs_21 a0 Q (qw_X12_pairs_9 a0 Q n) ql_FU xl1 xl2 (0 : Int32) h)
def qw_X12_pairs (a0 : Nat) (h : ql_H) (Q : Int32 → ql_H → Prop) : Prop :=
ql_pV h (some a0) 13 7 (.int (0 : Int32)) fun h =>
qw_X12_pairs_9 a0 Q ql_FU (0 : Int32) (0 : Int32) h
set_option maxHeartbeats 4000000 in
set_option maxRecDepth 100000 in
theorem qm_X12_pairs (l : Launch) (hl9 : l.stackTraces = false) (D : ql_D) (h0 : ql_H) (a0 : Nat) (Q : Int32 → ql_H → Prop) (X : String → ql_H → Prop) (w : qw_X12_pairs a0 h0 Q) : ql_M D l yX12_pairs cX12_pairs 4 (some .int) ({ frames := 10, cells := 0, slots := 0, locals := 167 } : Room) h0 [.ref a0] (ql_rI Q) X 0 0 := by
  refine ql_ofW (by decide) (Nat.le_of_ble_eq_true rfl) ?_
  intro p e s m below meth c ls C hr hlocks hnm htab S hl
  have hl : lv_has ls 4 [(0, .ref a0)] := hl
  have hB41 : ∀ (k21 : Int32 → Int32 → Int32 → ql_H → Prop) (hk21 : ∀ (xl1 : Int32) (xl2 : Int32) (xl3 : Int32) (h : ql_H) (H : Heap) (locs : List Loc) (ls : Array Slot), ql_S D h0 s H locs h → lv_has ls 4 [(0, .ref a0), (1, .int xl1), (2, .int xl2), (3, .int xl3)] → k21 xl1 xl2 xl3 h → W p l e ({ frames := 10, cells := 0, slots := 0, locals := 167 } : Room) s m ([.ref a0] : List Value).toArray below meth c H locs 0 0 (vx_MQ below (ql_Q D h0 (ql_rI Q)) (ql_X D h0 X) ([.ref a0] : List Value).toArray s 0 0 (ql_A h0)) (F0 m 21 ls [])) , ∀ (xl2 : Int32) (xl3 : Int32) (xs0 : Int32) (xs1 : Int32) (h : ql_H) (H : Heap) (locs : List Loc) (ls : Array Slot), ql_S D h0 s H locs h → lv_has ls 4 [(0, .ref a0), (2, .int xl2), (3, .int xl3)] → qw_X12_pairs_41 a0 Q k21 xl2 xl3 xs0 xs1 h → W p l e ({ frames := 10, cells := 0, slots := 0, locals := 167 } : Room) s m ([.ref a0] : List Value).toArray below meth c H locs 0 0 (vx_MQ below (ql_Q D h0 (ql_rI Q)) (ql_X D h0 X) ([.ref a0] : List Value).toArray s 0 0 (ql_A h0)) (F0 m 41 ls [.int xs1, .int xs0]) := by
    intro k21 hk21 xl2 xl3 xs0 xs1 h H locs ls S hl w
    unfold qw_X12_pairs_41 at w
    refine lv_iadd C.1.1 C.1.2.1 dX12_pairs_41 ?_
    refine lv_istore_n (lv' := [(1, .int (xs0 + xs1)), (0, .ref a0), (2, .int xl2), (3, .int xl3)]) C.1.1 C.1.2.1 dX12_pairs_42 rfl hl (by decide) rfl (fun ls hl => ?_)
    refine lv_iinc (v := (xl3 + (1 : Int32))) (lv' := [(3, .int (xl3 + (1 : Int32))), (1, .int (xs0 + xs1)), (0, .ref a0), (2, .int xl2)]) C.1.1 C.1.2.1 dX12_pairs_43 hl (k := 3) rfl rfl (by decide) rfl (fun ls hl => ?_)
    refine lv_goto (tgt := 21) C.1.1 C.1.2.1 dX12_pairs_46 (by decide) ?_
    exact hk21 (xs0 + xs1) xl2 (xl3 + (1 : Int32)) _ _ _ _ S (lv_sub hl [2, 1, 3, 0] rfl) w
  have hB21 : ∀ (k9 : Int32 → Int32 → ql_H → Prop) (hk9 : ∀ (xl1 : Int32) (xl2 : Int32) (h : ql_H) (H : Heap) (locs : List Loc) (ls : Array Slot), ql_S D h0 s H locs h → lv_has ls 4 [(0, .ref a0), (1, .int xl1), (2, .int xl2)] → k9 xl1 xl2 h → W p l e ({ frames := 10, cells := 0, slots := 0, locals := 167 } : Room) s m ([.ref a0] : List Value).toArray below meth c H locs 0 0 (vx_MQ below (ql_Q D h0 (ql_rI Q)) (ql_X D h0 X) ([.ref a0] : List Value).toArray s 0 0 (ql_A h0)) (F0 m 9 ls [])) , ∀ n : Nat, ∀ (xl1 : Int32) (xl2 : Int32) (xl3 : Int32) (h : ql_H) (H : Heap) (locs : List Loc) (ls : Array Slot), ql_S D h0 s H locs h → lv_has ls 4 [(0, .ref a0), (1, .int xl1), (2, .int xl2), (3, .int xl3)] → qw_X12_pairs_21 a0 Q k9 n xl1 xl2 xl3 h → W p l e ({ frames := 10, cells := 0, slots := 0, locals := 167 } : Room) s m ([.ref a0] : List Value).toArray below meth c H locs 0 0 (vx_MQ below (ql_Q D h0 (ql_rI Q)) (ql_X D h0 X) ([.ref a0] : List Value).toArray s 0 0 (ql_A h0)) (F0 m 21 ls []) := by
    intro k9 hk9 n
    induction n with
    | zero => intro xl1 xl2 xl3 h H locs ls S hl w; rw [qw_X12_pairs_21] at w; exact w.elim
    | succ n ih =>
      intro xl1 xl2 xl3 h H locs ls S hl w
      rw [qw_X12_pairs_21] at w
      refine lv_iload_n C.1.1 C.1.2.1 dX12_pairs_21 rfl (lv_at hl 3 rfl) ?_
      refine lv_iload_n C.1.1 C.1.2.1 dX12_pairs_22 rfl (lv_at hl 2 rfl) ?_
      refine lv_icmp_ge (tgt := 49) C.1.1 C.1.2.1 dX12_pairs_23 (by decide) (fun c9 => ?_) (fun c9 => ?_)
      · replace w := ql_if w c9
        refine lv_iinc (v := (xl2 + (1 : Int32))) (lv' := [(2, .int (xl2 + (1 : Int32))), (0, .ref a0), (1, .int xl1), (3, .int xl3)]) C.1.1 C.1.2.1 dX12_pairs_49 hl (k := 2) rfl rfl (by decide) rfl (fun ls hl => ?_)
        refine lv_goto (tgt := 9) C.1.1 C.1.2.1 dX12_pairs_52 (by decide) ?_
        exact hk9 xl1 (xl2 + (1 : Int32)) _ _ _ _ S (lv_sub hl [1, 2, 0] rfl) w
      · replace w := ql_ifn w c9
        refine lv_iload_n C.1.1 C.1.2.1 dX12_pairs_26 rfl (lv_at hl 1 rfl) ?_
        refine ql_aload_n (r := (some a0)) C dX12_pairs_27 rfl (lv_at hl 0 rfl) ?_
        refine lv_iload_n C.1.1 C.1.2.1 dX12_pairs_28 rfl (lv_at hl 2 rfl) ?_
        refine lv_iload_n C.1.1 C.1.2.1 dX12_pairs_29 rfl (lv_at hl 3 rfl) ?_
        refine ql_VI (As := [.int xl2, .int xl3]) (rest := [.int xl1]) C S htab hlocks hl qy_X12_areAlike qi_X12_areAlike qs_X12_areAlike gw_1959 (ci := 13) rfl w (fun b w => qm_X12_areAlike l hl9 D _ b xl2 xl3 _ _ w) rfl ⟨Nat.le_of_ble_eq_true rfl, Nat.le_of_ble_eq_true rfl⟩ ⟨rfl, rfl⟩ (by exact Nat.le_of_ble_eq_true rfl) (fun b e9 => by cases e9; rfl) dX12_pairs_30 ⟨Nat.le_of_ble_eq_true rfl, Nat.le_of_ble_eq_true rfl⟩ ⟨Nat.le_of_ble_eq_true rfl, Nat.le_of_ble_eq_true rfl⟩ (fun x1 h H locs S w => ?_)
        refine W.cs (cells' := 0) (slots' := 0) rfl rfl ?_
        refine lv_if_eq (tgt := 40) C.1.1 C.1.2.1 dX12_pairs_33 (by decide) (fun c9 => ?_) (fun c9 => ?_)
        · replace w := ql_if w c9
          refine lv_iconst (v := (0 : Int32)) C.1.1 C.1.2.1 dX12_pairs_40 (by decide) ?_
          exact hB41 (qw_X12_pairs_21 a0 Q k9 n) ih xl2 xl3 xl1 (0 : Int32) _ _ _ _ S (lv_sub hl [0, 2, 3] rfl) w
        · replace w := ql_ifn w c9
          refine lv_iconst (v := (1 : Int32)) C.1.1 C.1.2.1 dX12_pairs_36 (by decide) ?_
          refine lv_goto (tgt := 41) C.1.1 C.1.2.1 dX12_pairs_37 (by decide) ?_
          exact hB41 (qw_X12_pairs_21 a0 Q k9 n) ih xl2 xl3 xl1 (1 : Int32) _ _ _ _ S (lv_sub hl [0, 2, 3] rfl) w
  have hB9 : ∀ n : Nat, ∀ (xl1 : Int32) (xl2 : Int32) (h : ql_H) (H : Heap) (locs : List Loc) (ls : Array Slot), ql_S D h0 s H locs h → lv_has ls 4 [(0, .ref a0), (1, .int xl1), (2, .int xl2)] → qw_X12_pairs_9 a0 Q n xl1 xl2 h → W p l e ({ frames := 10, cells := 0, slots := 0, locals := 167 } : Room) s m ([.ref a0] : List Value).toArray below meth c H locs 0 0 (vx_MQ below (ql_Q D h0 (ql_rI Q)) (ql_X D h0 X) ([.ref a0] : List Value).toArray s 0 0 (ql_A h0)) (F0 m 9 ls []) := by
    intro n
    induction n with
    | zero => intro xl1 xl2 h H locs ls S hl w; rw [qw_X12_pairs_9] at w; exact w.elim
    | succ n ih =>
      intro xl1 xl2 h H locs ls S hl w
      rw [qw_X12_pairs_9] at w
      refine lv_iload_n C.1.1 C.1.2.1 dX12_pairs_9 rfl (lv_at hl 2 rfl) ?_
      refine ql_aload_n (r := (some a0)) C dX12_pairs_10 rfl (lv_at hl 0 rfl) ?_
      refine ql_getR C S qf_13_0 gw_1668 dX12_pairs_11 w (fun r3 w => ?_)
      refine lv_iconst (v := (0 : Int32)) C.1.1 C.1.2.1 dX12_pairs_14 (by decide) ?_
      refine ql_iald C S dX12_pairs_15 w (fun x4 w => ?_)
      refine lv_icmp_ge (tgt := 55) C.1.1 C.1.2.1 dX12_pairs_16 (by decide) (fun c9 => ?_) (fun c9 => ?_)
      · replace w := ql_if w c9
        refine lv_iload_n C.1.1 C.1.2.1 dX12_pairs_55 rfl (lv_at hl 1 rfl) ?_
        exact ql_iret C S hr hlocks dX12_pairs_56 ⟨Nat.le_of_ble_eq_true rfl, Nat.le_of_ble_eq_true rfl⟩ w
      · replace w := ql_ifn w c9
        refine lv_iconst (v := (0 : Int32)) C.1.1 C.1.2.1 dX12_pairs_19 (by decide) ?_
        refine lv_istore_n (lv' := [(3, .int (0 : Int32)), (0, .ref a0), (1, .int xl1), (2, .int xl2)]) C.1.1 C.1.2.1 dX12_pairs_20 rfl hl (by decide) rfl (fun ls hl => ?_)
        exact hB21 (qw_X12_pairs_9 a0 Q n) ih ql_FU xl1 xl2 (0 : Int32) _ _ _ _ S (lv_sub hl [1, 2, 3, 0] rfl) w
  unfold qw_X12_pairs at w
  refine ql_aload_n (r := (some a0)) C dX12_pairs_0 rfl (lv_at hl 0 rfl) ?_
  refine lv_iconst (v := (0 : Int32)) C.1.1 C.1.2.1 dX12_pairs_1 (by decide) ?_
  refine ql_putV C S qf_13_7 gw_1675 (tyX12) tyX12_ok nmX12 rfl dX12_pairs_2 (v := .int (0 : Int32)) rfl rfl w (fun h H locs S w => ?_)
  refine lv_iconst (v := (0 : Int32)) C.1.1 C.1.2.1 dX12_pairs_5 (by decide) ?_
  refine lv_istore_n (lv' := [(1, .int (0 : Int32)), (0, .ref a0)]) C.1.1 C.1.2.1 dX12_pairs_6 rfl hl (by decide) rfl (fun ls hl => ?_)
  refine lv_iconst (v := (0 : Int32)) C.1.1 C.1.2.1 dX12_pairs_7 (by decide) ?_
  refine lv_istore_n (lv' := [(2, .int (0 : Int32)), (1, .int (0 : Int32)), (0, .ref a0)]) C.1.1 C.1.2.1 dX12_pairs_8 rfl hl (by decide) rfl (fun ls hl => ?_)
  exact hB9 ql_FU (0 : Int32) (0 : Int32) _ _ _ _ S (lv_sub hl [2, 1, 0] rfl) w
def qw_X12_duplicatePairs (a0 : Nat) (h : ql_H) (Q : Int32 → ql_H → Prop) : Prop :=
ql_rv h (some a0) 13 fun b1 => qw_X12_pairs b1  h (fun x1 h =>
Q x1 h)
set_option maxHeartbeats 4000000 in
set_option maxRecDepth 100000 in
theorem qm_X12_duplicatePairs (l : Launch) (hl9 : l.stackTraces = false) (D : ql_D) (h0 : ql_H) (a0 : Nat) (Q : Int32 → ql_H → Prop) (X : String → ql_H → Prop) (w : qw_X12_duplicatePairs a0 h0 Q) : ql_M D l yX12_duplicatePairs cX12_duplicatePairs 1 (some .int) ({ frames := 12, cells := 0, slots := 0, locals := 198 } : Room) h0 [.ref a0] (ql_rI Q) X 0 0 := by
  refine ql_ofW (by decide) (Nat.le_of_ble_eq_true rfl) ?_
  intro p e s m below meth c ls C hr hlocks hnm htab S hl
  have hl : lv_has ls 1 [(0, .ref a0)] := hl
  unfold qw_X12_duplicatePairs at w
  refine ql_aload_n (r := (some a0)) C dX12_duplicatePairs_0 rfl (lv_at hl 0 rfl) ?_
  refine ql_VI (As := []) (rest := []) C S htab hlocks hl qy_X12_pairs qi_X12_pairs qs_X12_pairs gw_1955 (ci := 13) rfl w (fun b w => qm_X12_pairs l hl9 D _ b _ _ w) rfl ⟨Nat.le_of_ble_eq_true rfl, Nat.le_of_ble_eq_true rfl⟩ ⟨rfl, rfl⟩ (by exact Nat.le_of_ble_eq_true rfl) (fun b e9 => by cases e9; rfl) dX12_duplicatePairs_1 ⟨Nat.le_of_ble_eq_true rfl, Nat.le_of_ble_eq_true rfl⟩ ⟨Nat.le_of_ble_eq_true rfl, Nat.le_of_ble_eq_true rfl⟩ (fun x1 h H locs S w => ?_)
  refine W.cs (cells' := 0) (slots' := 0) rfl rfl ?_
  exact ql_iret C S hr hlocks dX12_duplicatePairs_4 ⟨Nat.le_of_ble_eq_true rfl, Nat.le_of_ble_eq_true rfl⟩ w
def qw_X12_duplicatePairsByComparing (a0 : Nat) (h : ql_H) (Q : Int32 → ql_H → Prop) : Prop :=
ql_rv h (some a0) 13 fun b1 => qw_X12_pairs b1  h (fun x1 h =>
Q x1 h)
set_option maxHeartbeats 4000000 in
set_option maxRecDepth 100000 in
theorem qm_X12_duplicatePairsByComparing (l : Launch) (hl9 : l.stackTraces = false) (D : ql_D) (h0 : ql_H) (a0 : Nat) (Q : Int32 → ql_H → Prop) (X : String → ql_H → Prop) (w : qw_X12_duplicatePairsByComparing a0 h0 Q) : ql_M D l yX12_duplicatePairsByComparing cX12_duplicatePairsByComparing 1 (some .int) ({ frames := 12, cells := 0, slots := 0, locals := 198 } : Room) h0 [.ref a0] (ql_rI Q) X 0 0 := by
  refine ql_ofW (by decide) (Nat.le_of_ble_eq_true rfl) ?_
  intro p e s m below meth c ls C hr hlocks hnm htab S hl
  have hl : lv_has ls 1 [(0, .ref a0)] := hl
  unfold qw_X12_duplicatePairsByComparing at w
  refine ql_aload_n (r := (some a0)) C dX12_duplicatePairsByComparing_0 rfl (lv_at hl 0 rfl) ?_
  refine ql_VI (As := []) (rest := []) C S htab hlocks hl qy_X12_pairs qi_X12_pairs qs_X12_pairs gw_1955 (ci := 13) rfl w (fun b w => qm_X12_pairs l hl9 D _ b _ _ w) rfl ⟨Nat.le_of_ble_eq_true rfl, Nat.le_of_ble_eq_true rfl⟩ ⟨rfl, rfl⟩ (by exact Nat.le_of_ble_eq_true rfl) (fun b e9 => by cases e9; rfl) dX12_duplicatePairsByComparing_1 ⟨Nat.le_of_ble_eq_true rfl, Nat.le_of_ble_eq_true rfl⟩ ⟨Nat.le_of_ble_eq_true rfl, Nat.le_of_ble_eq_true rfl⟩ (fun x1 h H locs S w => ?_)
  refine W.cs (cells' := 0) (slots' := 0) rfl rfl ?_
  exact ql_iret C S hr hlocks dX12_duplicatePairsByComparing_4 ⟨Nat.le_of_ble_eq_true rfl, Nat.le_of_ble_eq_true rfl⟩ w
def qw_X12_citeCount (a0 : Nat) (xp1 : Int32) (h : ql_H) (Q : Int32 → ql_H → Prop) : Prop :=
ql_rv h (some a0) 13 fun b1 => qw_X12_isNone b1 xp1 h (fun x1 h =>
if x1 = 0 then (ql_rv h (some a0) 13 fun b3 => qw_X12_placeOf b3 xp1 h (fun x3 h =>
ql_rv h (some a0) 13 fun b5 => qw_X12_of b5 x3 (37 : Int32) h (fun x5 h =>
Q x5 h))) else (Q (0 : Int32) h))
set_option maxHeartbeats 4000000 in
set_option maxRecDepth 100000 in
theorem qm_X12_citeCount (l : Launch) (hl9 : l.stackTraces = false) (D : ql_D) (h0 : ql_H) (a0 : Nat) (xp1 : Int32) (Q : Int32 → ql_H → Prop) (X : String → ql_H → Prop) (w : qw_X12_citeCount a0 xp1 h0 Q) : ql_M D l yX12_citeCount cX12_citeCount 2 (some .int) ({ frames := 8, cells := 0, slots := 0, locals := 137 } : Room) h0 [.ref a0, .int xp1] (ql_rI Q) X 0 0 := by
  refine ql_ofW (by decide) (Nat.le_of_ble_eq_true rfl) ?_
  intro p e s m below meth c ls C hr hlocks hnm htab S hl
  have hl : lv_has ls 2 [(0, .ref a0), (1, .int xp1)] := hl
  unfold qw_X12_citeCount at w
  refine ql_aload_n (r := (some a0)) C dX12_citeCount_0 rfl (lv_at hl 0 rfl) ?_
  refine lv_iload_n C.1.1 C.1.2.1 dX12_citeCount_1 rfl (lv_at hl 1 rfl) ?_
  refine ql_VI (As := [.int xp1]) (rest := []) C S htab hlocks hl qy_X12_isNone qi_X12_isNone qs_X12_isNone gw_1872 (ci := 13) rfl w (fun b w => qm_X12_isNone l hl9 D _ b xp1 _ _ w) rfl ⟨Nat.le_of_ble_eq_true rfl, Nat.le_of_ble_eq_true rfl⟩ ⟨rfl, rfl⟩ (by exact Nat.le_of_ble_eq_true rfl) (fun b e9 => by cases e9; rfl) dX12_citeCount_2 ⟨Nat.le_of_ble_eq_true rfl, Nat.le_of_ble_eq_true rfl⟩ ⟨Nat.le_of_ble_eq_true rfl, Nat.le_of_ble_eq_true rfl⟩ (fun x1 h H locs S w => ?_)
  refine W.cs (cells' := 0) (slots' := 0) rfl rfl ?_
  refine lv_if_eq (tgt := 12) C.1.1 C.1.2.1 dX12_citeCount_5 (by decide) (fun c9 => ?_) (fun c9 => ?_)
  · replace w := ql_if w c9
    refine ql_aload_n (r := (some a0)) C dX12_citeCount_12 rfl (lv_at hl 0 rfl) ?_
    refine ql_aload_n (r := (some a0)) C dX12_citeCount_13 rfl (lv_at hl 0 rfl) ?_
    refine lv_iload_n C.1.1 C.1.2.1 dX12_citeCount_14 rfl (lv_at hl 1 rfl) ?_
    refine ql_VI (As := [.int xp1]) (rest := [.ref a0]) C S htab hlocks hl qy_X12_placeOf qi_X12_placeOf qs_X12_placeOf gw_1772 (ci := 13) rfl w (fun b w => qm_X12_placeOf l hl9 D _ b xp1 _ _ w) rfl ⟨Nat.le_of_ble_eq_true rfl, Nat.le_of_ble_eq_true rfl⟩ ⟨rfl, rfl⟩ (by exact Nat.le_of_ble_eq_true rfl) (fun b e9 => by cases e9; rfl) dX12_citeCount_15 ⟨Nat.le_of_ble_eq_true rfl, Nat.le_of_ble_eq_true rfl⟩ ⟨Nat.le_of_ble_eq_true rfl, Nat.le_of_ble_eq_true rfl⟩ (fun x3 h H locs S w => ?_)
    refine W.cs (cells' := 0) (slots' := 0) rfl rfl ?_
    refine lv_bipush (v := (37 : Int32)) C.1.1 C.1.2.1 dX12_citeCount_18 (by decide) ?_
    refine ql_VI (As := [.int x3, .int (37 : Int32)]) (rest := []) C S htab hlocks hl qy_X12_of qi_X12_of qs_X12_of gw_1745 (ci := 13) rfl w (fun b w => qm_X12_of l hl9 D _ b x3 (37 : Int32) _ _ w) rfl ⟨Nat.le_of_ble_eq_true rfl, Nat.le_of_ble_eq_true rfl⟩ ⟨rfl, rfl⟩ (by exact Nat.le_of_ble_eq_true rfl) (fun b e9 => by cases e9; rfl) dX12_citeCount_20 ⟨Nat.le_of_ble_eq_true rfl, Nat.le_of_ble_eq_true rfl⟩ ⟨Nat.le_of_ble_eq_true rfl, Nat.le_of_ble_eq_true rfl⟩ (fun x5 h H locs S w => ?_)
    refine W.cs (cells' := 0) (slots' := 0) rfl rfl ?_
    exact ql_iret C S hr hlocks dX12_citeCount_23 ⟨Nat.le_of_ble_eq_true rfl, Nat.le_of_ble_eq_true rfl⟩ w
  · replace w := ql_ifn w c9
    refine lv_iconst (v := (0 : Int32)) C.1.1 C.1.2.1 dX12_citeCount_8 (by decide) ?_
    refine lv_goto (tgt := 23) C.1.1 C.1.2.1 dX12_citeCount_9 (by decide) ?_
    exact ql_iret C S hr hlocks dX12_citeCount_23 ⟨Nat.le_of_ble_eq_true rfl, Nat.le_of_ble_eq_true rfl⟩ w
def qw_X12_citeAt_37 (a0 : Nat) (Q : Int32 → ql_H → Prop) (xl2 : Int32) (xl3 : Int32) (rs0 : Option Nat) (xs1 : Int32) (h : ql_H) : Prop :=
ql_rv h rs0 13 fun b1 => qw_X12_fails b1 xs1 h (fun x1 h =>
if x1 = 0 then (ql_rv h (some a0) 13 fun b3 => qw_X12_of b3 xl3 ((38 : Int32) + xl2) h (fun x3 h =>
Q x3 h)) else (Q (0 : Int32) h))
def qw_X12_citeAt (a0 : Nat) (xp1 : Int32) (xp2 : Int32) (h : ql_H) (Q : Int32 → ql_H → Prop) : Prop :=
ql_rv h (some a0) 13 fun b5 => qw_X12_placeOf b5 xp1 h (fun x5 h =>
if 0 ≤ x5 then (ql_rv h (some a0) 13 fun b7 => qw_X12_of b7 x5 (37 : Int32) h (fun x7 h =>
qw_X12_in xp2 (0 : Int32) (x7 - (1 : Int32)) h (fun x9 h =>
if x9 = 0 then (qw_X12_citeAt_37 a0 Q xp2 x5 (some a0) (2 : Int32) h) else (qw_X12_citeAt_37 a0 Q xp2 x5 (some a0) (0 : Int32) h)))) else (qw_X12_citeAt_37 a0 Q xp2 x5 (some a0) (1 : Int32) h))
set_option maxHeartbeats 4000000 in
set_option maxRecDepth 100000 in
theorem qm_X12_citeAt (l : Launch) (hl9 : l.stackTraces = false) (D : ql_D) (h0 : ql_H) (a0 : Nat) (xp1 : Int32) (xp2 : Int32) (Q : Int32 → ql_H → Prop) (X : String → ql_H → Prop) (w : qw_X12_citeAt a0 xp1 xp2 h0 Q) : ql_M D l yX12_citeAt cX12_citeAt 4 (some .int) ({ frames := 6, cells := 0, slots := 0, locals := 108 } : Room) h0 [.ref a0, .int xp1, .int xp2] (ql_rI Q) X 0 0 := by
  refine ql_ofW (by decide) (Nat.le_of_ble_eq_true rfl) ?_
  intro p e s m below meth c ls C hr hlocks hnm htab S hl
  have hl : lv_has ls 4 [(0, .ref a0), (1, .int xp1), (2, .int xp2)] := hl
  have hB37 : ∀ (xl2 : Int32) (xl3 : Int32) (rs0 : Option Nat) (xs1 : Int32) (h : ql_H) (H : Heap) (locs : List Loc) (ls : Array Slot), ql_S D h0 s H locs h → lv_has ls 4 [(0, .ref a0), (2, .int xl2), (3, .int xl3)] → qw_X12_citeAt_37 a0 Q xl2 xl3 rs0 xs1 h → W p l e ({ frames := 6, cells := 0, slots := 0, locals := 108 } : Room) s m ([.ref a0, .int xp1, .int xp2] : List Value).toArray below meth c H locs 0 0 (vx_MQ below (ql_Q D h0 (ql_rI Q)) (ql_X D h0 X) ([.ref a0, .int xp1, .int xp2] : List Value).toArray s 0 0 (ql_A h0)) (F0 m 37 ls [.int xs1, va_rf rs0]) := by
    intro xl2 xl3 rs0 xs1 h H locs ls S hl w
    unfold qw_X12_citeAt_37 at w
    refine ql_VI (As := [.int xs1]) (rest := []) C S htab hlocks hl qy_X12_fails qi_X12_fails qs_X12_fails gw_1749 (ci := 13) rfl w (fun b w => qm_X12_fails l hl9 D _ b xs1 _ _ w) rfl ⟨Nat.le_of_ble_eq_true rfl, Nat.le_of_ble_eq_true rfl⟩ ⟨rfl, rfl⟩ (by exact Nat.le_of_ble_eq_true rfl) (fun b e9 => by cases e9; rfl) dX12_citeAt_37 ⟨Nat.le_of_ble_eq_true rfl, Nat.le_of_ble_eq_true rfl⟩ ⟨Nat.le_of_ble_eq_true rfl, Nat.le_of_ble_eq_true rfl⟩ (fun x1 h H locs S w => ?_)
    refine W.cs (cells' := 0) (slots' := 0) rfl rfl ?_
    refine lv_if_eq (tgt := 47) C.1.1 C.1.2.1 dX12_citeAt_40 (by decide) (fun c9 => ?_) (fun c9 => ?_)
    · replace w := ql_if w c9
      refine ql_aload_n (r := (some a0)) C dX12_citeAt_47 rfl (lv_at hl 0 rfl) ?_
      refine lv_iload_n C.1.1 C.1.2.1 dX12_citeAt_48 rfl (lv_at hl 2 rfl) ?_
      refine lv_bipush (v := (38 : Int32)) C.1.1 C.1.2.1 dX12_citeAt_49 (by decide) ?_
      refine lv_iload_n C.1.1 C.1.2.1 dX12_citeAt_51 rfl (lv_at hl 1 rfl) ?_
      refine lv_iadd C.1.1 C.1.2.1 dX12_citeAt_52 ?_
      refine ql_VI (As := [.int xl3, .int ((38 : Int32) + xl2)]) (rest := []) C S htab hlocks hl qy_X12_of qi_X12_of qs_X12_of gw_1745 (ci := 13) rfl w (fun b w => qm_X12_of l hl9 D _ b xl3 ((38 : Int32) + xl2) _ _ w) rfl ⟨Nat.le_of_ble_eq_true rfl, Nat.le_of_ble_eq_true rfl⟩ ⟨rfl, rfl⟩ (by exact Nat.le_of_ble_eq_true rfl) (fun b e9 => by cases e9; rfl) dX12_citeAt_53 ⟨Nat.le_of_ble_eq_true rfl, Nat.le_of_ble_eq_true rfl⟩ ⟨Nat.le_of_ble_eq_true rfl, Nat.le_of_ble_eq_true rfl⟩ (fun x3 h H locs S w => ?_)
      refine W.cs (cells' := 0) (slots' := 0) rfl rfl ?_
      exact ql_iret C S hr hlocks dX12_citeAt_56 ⟨Nat.le_of_ble_eq_true rfl, Nat.le_of_ble_eq_true rfl⟩ w
    · replace w := ql_ifn w c9
      refine lv_iconst (v := (0 : Int32)) C.1.1 C.1.2.1 dX12_citeAt_43 (by decide) ?_
      refine lv_goto (tgt := 56) C.1.1 C.1.2.1 dX12_citeAt_44 (by decide) ?_
      exact ql_iret C S hr hlocks dX12_citeAt_56 ⟨Nat.le_of_ble_eq_true rfl, Nat.le_of_ble_eq_true rfl⟩ w
  unfold qw_X12_citeAt at w
  refine ql_aload_n (r := (some a0)) C dX12_citeAt_0 rfl (lv_at hl 0 rfl) ?_
  refine lv_iload_n C.1.1 C.1.2.1 dX12_citeAt_1 rfl (lv_at hl 1 rfl) ?_
  refine ql_VI (As := [.int xp1]) (rest := []) C S htab hlocks hl qy_X12_placeOf qi_X12_placeOf qs_X12_placeOf gw_1772 (ci := 13) rfl w (fun b w => qm_X12_placeOf l hl9 D _ b xp1 _ _ w) rfl ⟨Nat.le_of_ble_eq_true rfl, Nat.le_of_ble_eq_true rfl⟩ ⟨rfl, rfl⟩ (by exact Nat.le_of_ble_eq_true rfl) (fun b e9 => by cases e9; rfl) dX12_citeAt_2 ⟨Nat.le_of_ble_eq_true rfl, Nat.le_of_ble_eq_true rfl⟩ ⟨Nat.le_of_ble_eq_true rfl, Nat.le_of_ble_eq_true rfl⟩ (fun x5 h H locs S w => ?_)
  refine W.cs (cells' := 0) (slots' := 0) rfl rfl ?_
  refine lv_istore_n (lv' := [(3, .int x5), (0, .ref a0), (1, .int xp1), (2, .int xp2)]) C.1.1 C.1.2.1 dX12_citeAt_5 rfl hl (by decide) rfl (fun ls hl => ?_)
  refine ql_aload_n (r := (some a0)) C dX12_citeAt_6 rfl (lv_at hl 1 rfl) ?_
  refine lv_iload_n C.1.1 C.1.2.1 dX12_citeAt_7 rfl (lv_at hl 0 rfl) ?_
  refine lv_if_ge (tgt := 15) C.1.1 C.1.2.1 dX12_citeAt_8 (by decide) (fun c9 => ?_) (fun c9 => ?_)
  · replace w := ql_if w c9
    refine lv_iload_n C.1.1 C.1.2.1 dX12_citeAt_15 rfl (lv_at hl 3 rfl) ?_
    refine lv_iconst (v := (0 : Int32)) C.1.1 C.1.2.1 dX12_citeAt_16 (by decide) ?_
    refine ql_aload_n (r := (some a0)) C dX12_citeAt_17 rfl (lv_at hl 1 rfl) ?_
    refine lv_iload_n C.1.1 C.1.2.1 dX12_citeAt_18 rfl (lv_at hl 0 rfl) ?_
    refine lv_bipush (v := (37 : Int32)) C.1.1 C.1.2.1 dX12_citeAt_19 (by decide) ?_
    refine ql_VI (As := [.int x5, .int (37 : Int32)]) (rest := [.int (0 : Int32), .int xp2, .ref a0]) C S htab hlocks hl qy_X12_of qi_X12_of qs_X12_of gw_1745 (ci := 13) rfl w (fun b w => qm_X12_of l hl9 D _ b x5 (37 : Int32) _ _ w) rfl ⟨Nat.le_of_ble_eq_true rfl, Nat.le_of_ble_eq_true rfl⟩ ⟨rfl, rfl⟩ (by exact Nat.le_of_ble_eq_true rfl) (fun b e9 => by cases e9; rfl) dX12_citeAt_21 ⟨Nat.le_of_ble_eq_true rfl, Nat.le_of_ble_eq_true rfl⟩ ⟨Nat.le_of_ble_eq_true rfl, Nat.le_of_ble_eq_true rfl⟩ (fun x7 h H locs S w => ?_)
    refine W.cs (cells' := 0) (slots' := 0) rfl rfl ?_
    refine lv_iconst (v := (1 : Int32)) C.1.1 C.1.2.1 dX12_citeAt_24 (by decide) ?_
    refine lv_isub C.1.1 C.1.2.1 dX12_citeAt_25 ?_
    refine ql_SI (As := [.int xp2, .int (0 : Int32), .int (x7 - (1 : Int32))]) (rest := [.ref a0]) C S htab hlocks hl qy_X12_in qi_X12_in gw_1735 (qm_X12_in l hl9 D _ xp2 (0 : Int32) (x7 - (1 : Int32)) _ _ w) rfl ⟨Nat.le_of_ble_eq_true rfl, Nat.le_of_ble_eq_true rfl⟩ ⟨rfl, rfl⟩ (by exact Nat.le_of_ble_eq_true rfl) rfl dX12_citeAt_26 ⟨Nat.le_of_ble_eq_true rfl, Nat.le_of_ble_eq_true rfl⟩ ⟨Nat.le_of_ble_eq_true rfl, Nat.le_of_ble_eq_true rfl⟩ (fun x9 h H locs S w => ?_)
    refine W.cs (cells' := 0) (slots' := 0) rfl rfl ?_
    refine lv_if_eq (tgt := 36) C.1.1 C.1.2.1 dX12_citeAt_29 (by decide) (fun c9 => ?_) (fun c9 => ?_)
    · replace w := ql_if w c9
      refine lv_iconst (v := (2 : Int32)) C.1.1 C.1.2.1 dX12_citeAt_36 (by decide) ?_
      exact hB37 xp2 x5 (some a0) (2 : Int32) _ _ _ _ S (lv_sub hl [1, 3, 0] rfl) w
    · replace w := ql_ifn w c9
      refine lv_iconst (v := (0 : Int32)) C.1.1 C.1.2.1 dX12_citeAt_32 (by decide) ?_
      refine lv_goto (tgt := 37) C.1.1 C.1.2.1 dX12_citeAt_33 (by decide) ?_
      exact hB37 xp2 x5 (some a0) (0 : Int32) _ _ _ _ S (lv_sub hl [1, 3, 0] rfl) w
  · replace w := ql_ifn w c9
    refine lv_iconst (v := (1 : Int32)) C.1.1 C.1.2.1 dX12_citeAt_11 (by decide) ?_
    refine lv_goto (tgt := 37) C.1.1 C.1.2.1 dX12_citeAt_12 (by decide) ?_
    exact hB37 xp2 x5 (some a0) (1 : Int32) _ _ _ _ S (lv_sub hl [1, 3, 0] rfl) w
def qw_X12_brokenCites_73 (a0 : Nat) (Q : Int32 → ql_H → Prop) (k21 : Int32 → Int32 → Int32 → ql_H → Prop) (xl2 : Int32) (xl3 : Int32) (xs0 : Int32) (xs1 : Int32) (h : ql_H) : Prop :=
k21 (xs0 + xs1) xl2 (xl3 + (1 : Int32)) h
def qw_X12_brokenCites_68 (a0 : Nat) (Q : Int32 → ql_H → Prop) (k21 : Int32 → Int32 → Int32 → ql_H → Prop) (xl2 : Int32) (xl3 : Int32) (xs0 : Int32) (h : ql_H) : Prop :=
qw_X12_brokenCites_73 a0 Q k21 xl2 xl3 xs0 (1 : Int32) h
def qw_X12_brokenCites_21 (a0 : Nat) (Q : Int32 → ql_H → Prop) (k9 : Int32 → Int32 → ql_H → Prop) : Nat → Int32 → Int32 → Int32 → ql_H → Prop
  | 0, _, _, _, _ => False
  | n + 1, xl1, xl2, xl3, h =>
    ql_rv h (some a0) 13 fun b1 => qw_X12_of b1 xl2 (37 : Int32) h (fun x1 h =>
    if x1 ≤ xl3 then (k9 xl1 (xl2 + (1 : Int32)) h) else (ql_rv h (some a0) 13 fun b3 => qw_X12_of b3 xl2 ((38 : Int32) + xl3) h (fun x3 h =>
    ql_rv h (some a0) 13 fun b5 => qw_X12_placeOf b5 x3 h (fun x5 h =>
    if x5 < 0 then (qw_X12_brokenCites_68 a0 Q (qw_X12_brokenCites_21 a0 Q k9 n) xl2 xl3 xl1 h) else (ql_gR h (some a0) 13 0 fun r7 =>
    ql_lI h r7 0 (2 : Int32) fun x8 =>
    ql_rv h (some a0) 13 fun b9 => qw_X12_isValid b9 x5 x8 h (fun x9 h =>
    if x9 = 0 then (qw_X12_brokenCites_68 a0 Q (qw_X12_brokenCites_21 a0 Q k9 n) xl2 xl3 xl1 h) else (qw_X12_brokenCites_73 a0 Q (qw_X12_brokenCites_21 a0 Q k9 n) xl2 xl3 xl1 (0 : Int32) h)))))))
def qw_X12_brokenCites_9 (a0 : Nat) (Q : Int32 → ql_H → Prop) : Nat → Int32 → Int32 → ql_H → Prop
  | 0, _, _, _ => False
  | n + 1, xl1, xl2, h =>
    ql_gR h (some a0) 13 0 fun r11 =>
    ql_lI h r11 0 (0 : Int32) fun x12 =>
    if x12 ≤ xl2 then (Q xl1 h) else (qw_X12_brokenCites_21 a0 Q (qw_X12_brokenCites_9 a0 Q n) ql_FU xl1 xl2 (0 : Int32) h)
def qw_X12_brokenCites (a0 : Nat) (h : ql_H) (Q : Int32 → ql_H → Prop) : Prop :=
ql_pV h (some a0) 13 7 (.int (0 : Int32)) fun h =>
qw_X12_brokenCites_9 a0 Q ql_FU (0 : Int32) (0 : Int32) h
set_option maxHeartbeats 4000000 in
set_option maxRecDepth 100000 in
theorem qm_X12_brokenCites (l : Launch) (hl9 : l.stackTraces = false) (D : ql_D) (h0 : ql_H) (a0 : Nat) (Q : Int32 → ql_H → Prop) (X : String → ql_H → Prop) (w : qw_X12_brokenCites a0 h0 Q) : ql_M D l yX12_brokenCites cX12_brokenCites 5 (some .int) ({ frames := 6, cells := 0, slots := 0, locals := 108 } : Room) h0 [.ref a0] (ql_rI Q) X 0 0 := by
  refine ql_ofW (by decide) (Nat.le_of_ble_eq_true rfl) ?_
  intro p e s m below meth c ls C hr hlocks hnm htab S hl
  have hl : lv_has ls 5 [(0, .ref a0)] := hl
  have hB73 : ∀ (k21 : Int32 → Int32 → Int32 → ql_H → Prop) (hk21 : ∀ (xl1 : Int32) (xl2 : Int32) (xl3 : Int32) (h : ql_H) (H : Heap) (locs : List Loc) (ls : Array Slot), ql_S D h0 s H locs h → lv_has ls 5 [(0, .ref a0), (1, .int xl1), (2, .int xl2), (3, .int xl3)] → k21 xl1 xl2 xl3 h → W p l e ({ frames := 6, cells := 0, slots := 0, locals := 108 } : Room) s m ([.ref a0] : List Value).toArray below meth c H locs 0 0 (vx_MQ below (ql_Q D h0 (ql_rI Q)) (ql_X D h0 X) ([.ref a0] : List Value).toArray s 0 0 (ql_A h0)) (F0 m 21 ls [])) , ∀ (xl2 : Int32) (xl3 : Int32) (xs0 : Int32) (xs1 : Int32) (h : ql_H) (H : Heap) (locs : List Loc) (ls : Array Slot), ql_S D h0 s H locs h → lv_has ls 5 [(0, .ref a0), (2, .int xl2), (3, .int xl3)] → qw_X12_brokenCites_73 a0 Q k21 xl2 xl3 xs0 xs1 h → W p l e ({ frames := 6, cells := 0, slots := 0, locals := 108 } : Room) s m ([.ref a0] : List Value).toArray below meth c H locs 0 0 (vx_MQ below (ql_Q D h0 (ql_rI Q)) (ql_X D h0 X) ([.ref a0] : List Value).toArray s 0 0 (ql_A h0)) (F0 m 73 ls [.int xs1, .int xs0]) := by
    intro k21 hk21 xl2 xl3 xs0 xs1 h H locs ls S hl w
    unfold qw_X12_brokenCites_73 at w
    refine lv_iadd C.1.1 C.1.2.1 dX12_brokenCites_73 ?_
    refine lv_istore_n (lv' := [(1, .int (xs0 + xs1)), (0, .ref a0), (2, .int xl2), (3, .int xl3)]) C.1.1 C.1.2.1 dX12_brokenCites_74 rfl hl (by decide) rfl (fun ls hl => ?_)
    refine lv_iinc (v := (xl3 + (1 : Int32))) (lv' := [(3, .int (xl3 + (1 : Int32))), (1, .int (xs0 + xs1)), (0, .ref a0), (2, .int xl2)]) C.1.1 C.1.2.1 dX12_brokenCites_75 hl (k := 3) rfl rfl (by decide) rfl (fun ls hl => ?_)
    refine lv_goto (tgt := 21) C.1.1 C.1.2.1 dX12_brokenCites_78 (by decide) ?_
    exact hk21 (xs0 + xs1) xl2 (xl3 + (1 : Int32)) _ _ _ _ S (lv_sub hl [2, 1, 3, 0] rfl) w
  have hB68 : ∀ (k21 : Int32 → Int32 → Int32 → ql_H → Prop) (hk21 : ∀ (xl1 : Int32) (xl2 : Int32) (xl3 : Int32) (h : ql_H) (H : Heap) (locs : List Loc) (ls : Array Slot), ql_S D h0 s H locs h → lv_has ls 5 [(0, .ref a0), (1, .int xl1), (2, .int xl2), (3, .int xl3)] → k21 xl1 xl2 xl3 h → W p l e ({ frames := 6, cells := 0, slots := 0, locals := 108 } : Room) s m ([.ref a0] : List Value).toArray below meth c H locs 0 0 (vx_MQ below (ql_Q D h0 (ql_rI Q)) (ql_X D h0 X) ([.ref a0] : List Value).toArray s 0 0 (ql_A h0)) (F0 m 21 ls [])) , ∀ (xl2 : Int32) (xl3 : Int32) (xs0 : Int32) (h : ql_H) (H : Heap) (locs : List Loc) (ls : Array Slot), ql_S D h0 s H locs h → lv_has ls 5 [(0, .ref a0), (2, .int xl2), (3, .int xl3)] → qw_X12_brokenCites_68 a0 Q k21 xl2 xl3 xs0 h → W p l e ({ frames := 6, cells := 0, slots := 0, locals := 108 } : Room) s m ([.ref a0] : List Value).toArray below meth c H locs 0 0 (vx_MQ below (ql_Q D h0 (ql_rI Q)) (ql_X D h0 X) ([.ref a0] : List Value).toArray s 0 0 (ql_A h0)) (F0 m 68 ls [.int xs0]) := by
    intro k21 hk21 xl2 xl3 xs0 h H locs ls S hl w
    unfold qw_X12_brokenCites_68 at w
    refine lv_iconst (v := (1 : Int32)) C.1.1 C.1.2.1 dX12_brokenCites_68 (by decide) ?_
    refine lv_goto (tgt := 73) C.1.1 C.1.2.1 dX12_brokenCites_69 (by decide) ?_
    exact hB73 k21 hk21 xl2 xl3 xs0 (1 : Int32) _ _ _ _ S (lv_sub hl [0, 1, 2] rfl) w
  have hB21 : ∀ (k9 : Int32 → Int32 → ql_H → Prop) (hk9 : ∀ (xl1 : Int32) (xl2 : Int32) (h : ql_H) (H : Heap) (locs : List Loc) (ls : Array Slot), ql_S D h0 s H locs h → lv_has ls 5 [(0, .ref a0), (1, .int xl1), (2, .int xl2)] → k9 xl1 xl2 h → W p l e ({ frames := 6, cells := 0, slots := 0, locals := 108 } : Room) s m ([.ref a0] : List Value).toArray below meth c H locs 0 0 (vx_MQ below (ql_Q D h0 (ql_rI Q)) (ql_X D h0 X) ([.ref a0] : List Value).toArray s 0 0 (ql_A h0)) (F0 m 9 ls [])) , ∀ n : Nat, ∀ (xl1 : Int32) (xl2 : Int32) (xl3 : Int32) (h : ql_H) (H : Heap) (locs : List Loc) (ls : Array Slot), ql_S D h0 s H locs h → lv_has ls 5 [(0, .ref a0), (1, .int xl1), (2, .int xl2), (3, .int xl3)] → qw_X12_brokenCites_21 a0 Q k9 n xl1 xl2 xl3 h → W p l e ({ frames := 6, cells := 0, slots := 0, locals := 108 } : Room) s m ([.ref a0] : List Value).toArray below meth c H locs 0 0 (vx_MQ below (ql_Q D h0 (ql_rI Q)) (ql_X D h0 X) ([.ref a0] : List Value).toArray s 0 0 (ql_A h0)) (F0 m 21 ls []) := by
    intro k9 hk9 n
    induction n with
    | zero => intro xl1 xl2 xl3 h H locs ls S hl w; rw [qw_X12_brokenCites_21] at w; exact w.elim
    | succ n ih =>
      intro xl1 xl2 xl3 h H locs ls S hl w
      rw [qw_X12_brokenCites_21] at w
      refine lv_iload_n C.1.1 C.1.2.1 dX12_brokenCites_21 rfl (lv_at hl 3 rfl) ?_
      refine ql_aload_n (r := (some a0)) C dX12_brokenCites_22 rfl (lv_at hl 0 rfl) ?_
      refine lv_iload_n C.1.1 C.1.2.1 dX12_brokenCites_23 rfl (lv_at hl 2 rfl) ?_
      refine lv_bipush (v := (37 : Int32)) C.1.1 C.1.2.1 dX12_brokenCites_24 (by decide) ?_
      refine ql_VI (As := [.int xl2, .int (37 : Int32)]) (rest := [.int xl3]) C S htab hlocks hl qy_X12_of qi_X12_of qs_X12_of gw_1745 (ci := 13) rfl w (fun b w => qm_X12_of l hl9 D _ b xl2 (37 : Int32) _ _ w) rfl ⟨Nat.le_of_ble_eq_true rfl, Nat.le_of_ble_eq_true rfl⟩ ⟨rfl, rfl⟩ (by exact Nat.le_of_ble_eq_true rfl) (fun b e9 => by cases e9; rfl) dX12_brokenCites_26 ⟨Nat.le_of_ble_eq_true rfl, Nat.le_of_ble_eq_true rfl⟩ ⟨Nat.le_of_ble_eq_true rfl, Nat.le_of_ble_eq_true rfl⟩ (fun x1 h H locs S w => ?_)
      refine W.cs (cells' := 0) (slots' := 0) rfl rfl ?_
      refine lv_icmp_ge (tgt := 81) C.1.1 C.1.2.1 dX12_brokenCites_29 (by decide) (fun c9 => ?_) (fun c9 => ?_)
      · replace w := ql_if w c9
        refine lv_iinc (v := (xl2 + (1 : Int32))) (lv' := [(2, .int (xl2 + (1 : Int32))), (0, .ref a0), (1, .int xl1), (3, .int xl3)]) C.1.1 C.1.2.1 dX12_brokenCites_81 hl (k := 2) rfl rfl (by decide) rfl (fun ls hl => ?_)
        refine lv_goto (tgt := 9) C.1.1 C.1.2.1 dX12_brokenCites_84 (by decide) ?_
        exact hk9 xl1 (xl2 + (1 : Int32)) _ _ _ _ S (lv_sub hl [1, 2, 0] rfl) w
      · replace w := ql_ifn w c9
        refine ql_aload_n (r := (some a0)) C dX12_brokenCites_32 rfl (lv_at hl 0 rfl) ?_
        refine ql_aload_n (r := (some a0)) C dX12_brokenCites_33 rfl (lv_at hl 0 rfl) ?_
        refine lv_iload_n C.1.1 C.1.2.1 dX12_brokenCites_34 rfl (lv_at hl 2 rfl) ?_
        refine lv_bipush (v := (38 : Int32)) C.1.1 C.1.2.1 dX12_brokenCites_35 (by decide) ?_
        refine lv_iload_n C.1.1 C.1.2.1 dX12_brokenCites_37 rfl (lv_at hl 3 rfl) ?_
        refine lv_iadd C.1.1 C.1.2.1 dX12_brokenCites_38 ?_
        refine ql_VI (As := [.int xl2, .int ((38 : Int32) + xl3)]) (rest := [.ref a0]) C S htab hlocks hl qy_X12_of qi_X12_of qs_X12_of gw_1745 (ci := 13) rfl w (fun b w => qm_X12_of l hl9 D _ b xl2 ((38 : Int32) + xl3) _ _ w) rfl ⟨Nat.le_of_ble_eq_true rfl, Nat.le_of_ble_eq_true rfl⟩ ⟨rfl, rfl⟩ (by exact Nat.le_of_ble_eq_true rfl) (fun b e9 => by cases e9; rfl) dX12_brokenCites_39 ⟨Nat.le_of_ble_eq_true rfl, Nat.le_of_ble_eq_true rfl⟩ ⟨Nat.le_of_ble_eq_true rfl, Nat.le_of_ble_eq_true rfl⟩ (fun x3 h H locs S w => ?_)
        refine W.cs (cells' := 0) (slots' := 0) rfl rfl ?_
        refine ql_VI (As := [.int x3]) (rest := []) C S htab hlocks hl qy_X12_placeOf qi_X12_placeOf qs_X12_placeOf gw_1772 (ci := 13) rfl w (fun b w => qm_X12_placeOf l hl9 D _ b x3 _ _ w) rfl ⟨Nat.le_of_ble_eq_true rfl, Nat.le_of_ble_eq_true rfl⟩ ⟨rfl, rfl⟩ (by exact Nat.le_of_ble_eq_true rfl) (fun b e9 => by cases e9; rfl) dX12_brokenCites_42 ⟨Nat.le_of_ble_eq_true rfl, Nat.le_of_ble_eq_true rfl⟩ ⟨Nat.le_of_ble_eq_true rfl, Nat.le_of_ble_eq_true rfl⟩ (fun x5 h H locs S w => ?_)
        refine W.cs (cells' := 0) (slots' := 0) rfl rfl ?_
        refine lv_istore (lv' := [(4, .int x5), (0, .ref a0), (1, .int xl1), (2, .int xl2), (3, .int xl3)]) C.1.1 C.1.2.1 dX12_brokenCites_45 hl (by decide) rfl (fun ls hl => ?_)
        refine lv_iload_n C.1.1 C.1.2.1 dX12_brokenCites_47 rfl (lv_at hl 2 rfl) ?_
        refine lv_iload C.1.1 C.1.2.1 dX12_brokenCites_48 (lv_at hl 0 rfl) ?_
        refine lv_if_lt (tgt := 68) C.1.1 C.1.2.1 dX12_brokenCites_50 (by decide) (fun c9 => ?_) (fun c9 => ?_)
        · replace w := ql_if w c9
          exact hB68 (qw_X12_brokenCites_21 a0 Q k9 n) ih xl2 xl3 xl1 _ _ _ _ S (lv_sub hl [1, 3, 4] rfl) w
        · replace w := ql_ifn w c9
          refine ql_aload_n (r := (some a0)) C dX12_brokenCites_53 rfl (lv_at hl 1 rfl) ?_
          refine lv_iload C.1.1 C.1.2.1 dX12_brokenCites_54 (lv_at hl 0 rfl) ?_
          refine ql_aload_n (r := (some a0)) C dX12_brokenCites_56 rfl (lv_at hl 1 rfl) ?_
          refine ql_getR C S qf_13_0 gw_1668 dX12_brokenCites_57 w (fun r7 w => ?_)
          refine lv_iconst (v := (2 : Int32)) C.1.1 C.1.2.1 dX12_brokenCites_60 (by decide) ?_
          refine ql_iald C S dX12_brokenCites_61 w (fun x8 w => ?_)
          refine ql_VI (As := [.int x5, .int x8]) (rest := [.int xl1]) C S htab hlocks hl qy_X12_isValid qi_X12_isValid qs_X12_isValid gw_1788 (ci := 13) rfl w (fun b w => qm_X12_isValid l hl9 D _ b x5 x8 _ _ w) rfl ⟨Nat.le_of_ble_eq_true rfl, Nat.le_of_ble_eq_true rfl⟩ ⟨rfl, rfl⟩ (by exact Nat.le_of_ble_eq_true rfl) (fun b e9 => by cases e9; rfl) dX12_brokenCites_62 ⟨Nat.le_of_ble_eq_true rfl, Nat.le_of_ble_eq_true rfl⟩ ⟨Nat.le_of_ble_eq_true rfl, Nat.le_of_ble_eq_true rfl⟩ (fun x9 h H locs S w => ?_)
          refine W.cs (cells' := 0) (slots' := 0) rfl rfl ?_
          refine lv_if_ne (tgt := 72) C.1.1 C.1.2.1 dX12_brokenCites_65 (by decide) (fun c9 => ?_) (fun c9 => ?_)
          · replace w := ql_ifn w c9
            refine lv_iconst (v := (0 : Int32)) C.1.1 C.1.2.1 dX12_brokenCites_72 (by decide) ?_
            exact hB73 (qw_X12_brokenCites_21 a0 Q k9 n) ih xl2 xl3 xl1 (0 : Int32) _ _ _ _ S (lv_sub hl [1, 3, 4] rfl) w
          · replace w := ql_if w c9
            exact hB68 (qw_X12_brokenCites_21 a0 Q k9 n) ih xl2 xl3 xl1 _ _ _ _ S (lv_sub hl [1, 3, 4] rfl) w
  have hB9 : ∀ n : Nat, ∀ (xl1 : Int32) (xl2 : Int32) (h : ql_H) (H : Heap) (locs : List Loc) (ls : Array Slot), ql_S D h0 s H locs h → lv_has ls 5 [(0, .ref a0), (1, .int xl1), (2, .int xl2)] → qw_X12_brokenCites_9 a0 Q n xl1 xl2 h → W p l e ({ frames := 6, cells := 0, slots := 0, locals := 108 } : Room) s m ([.ref a0] : List Value).toArray below meth c H locs 0 0 (vx_MQ below (ql_Q D h0 (ql_rI Q)) (ql_X D h0 X) ([.ref a0] : List Value).toArray s 0 0 (ql_A h0)) (F0 m 9 ls []) := by
    intro n
    induction n with
    | zero => intro xl1 xl2 h H locs ls S hl w; rw [qw_X12_brokenCites_9] at w; exact w.elim
    | succ n ih =>
      intro xl1 xl2 h H locs ls S hl w
      rw [qw_X12_brokenCites_9] at w
      refine lv_iload_n C.1.1 C.1.2.1 dX12_brokenCites_9 rfl (lv_at hl 2 rfl) ?_
      refine ql_aload_n (r := (some a0)) C dX12_brokenCites_10 rfl (lv_at hl 0 rfl) ?_
      refine ql_getR C S qf_13_0 gw_1668 dX12_brokenCites_11 w (fun r11 w => ?_)
      refine lv_iconst (v := (0 : Int32)) C.1.1 C.1.2.1 dX12_brokenCites_14 (by decide) ?_
      refine ql_iald C S dX12_brokenCites_15 w (fun x12 w => ?_)
      refine lv_icmp_ge (tgt := 87) C.1.1 C.1.2.1 dX12_brokenCites_16 (by decide) (fun c9 => ?_) (fun c9 => ?_)
      · replace w := ql_if w c9
        refine lv_iload_n C.1.1 C.1.2.1 dX12_brokenCites_87 rfl (lv_at hl 1 rfl) ?_
        exact ql_iret C S hr hlocks dX12_brokenCites_88 ⟨Nat.le_of_ble_eq_true rfl, Nat.le_of_ble_eq_true rfl⟩ w
      · replace w := ql_ifn w c9
        refine lv_iconst (v := (0 : Int32)) C.1.1 C.1.2.1 dX12_brokenCites_19 (by decide) ?_
        refine lv_istore_n (lv' := [(3, .int (0 : Int32)), (0, .ref a0), (1, .int xl1), (2, .int xl2)]) C.1.1 C.1.2.1 dX12_brokenCites_20 rfl hl (by decide) rfl (fun ls hl => ?_)
        exact hB21 (qw_X12_brokenCites_9 a0 Q n) ih ql_FU xl1 xl2 (0 : Int32) _ _ _ _ S (lv_sub hl [1, 2, 3, 0] rfl) w
  unfold qw_X12_brokenCites at w
  refine ql_aload_n (r := (some a0)) C dX12_brokenCites_0 rfl (lv_at hl 0 rfl) ?_
  refine lv_iconst (v := (0 : Int32)) C.1.1 C.1.2.1 dX12_brokenCites_1 (by decide) ?_
  refine ql_putV C S qf_13_7 gw_1675 (tyX12) tyX12_ok nmX12 rfl dX12_brokenCites_2 (v := .int (0 : Int32)) rfl rfl w (fun h H locs S w => ?_)
  refine lv_iconst (v := (0 : Int32)) C.1.1 C.1.2.1 dX12_brokenCites_5 (by decide) ?_
  refine lv_istore_n (lv' := [(1, .int (0 : Int32)), (0, .ref a0)]) C.1.1 C.1.2.1 dX12_brokenCites_6 rfl hl (by decide) rfl (fun ls hl => ?_)
  refine lv_iconst (v := (0 : Int32)) C.1.1 C.1.2.1 dX12_brokenCites_7 (by decide) ?_
  refine lv_istore_n (lv' := [(2, .int (0 : Int32)), (1, .int (0 : Int32)), (0, .ref a0)]) C.1.1 C.1.2.1 dX12_brokenCites_8 rfl hl (by decide) rfl (fun ls hl => ?_)
  exact hB9 ql_FU (0 : Int32) (0 : Int32) _ _ _ _ S (lv_sub hl [2, 1, 0] rfl) w
def qw_X12_straight_49 (a0 : Nat) (Q : Int32 → ql_H → Prop) (k4 : Int32 → Int32 → Int32 → ql_H → Prop) (xl1 : Int32) (xl2 : Int32) (xl3 : Int32) (h : ql_H) : Prop :=
k4 xl1 xl2 (xl3 + (1 : Int32)) h
def qw_X12_straight_4 (a0 : Nat) (Q : Int32 → ql_H → Prop) : Nat → Int32 → Int32 → Int32 → ql_H → Prop
  | 0, _, _, _, _ => False
  | n + 1, xl1, xl2, xl3, h =>
    ql_rv h (some a0) 13 fun b1 => qw_X12_of b1 xl1 (37 : Int32) h (fun x1 h =>
    if x1 ≤ xl3 then (Q xl2 h) else (ql_rv h (some a0) 13 fun b3 => qw_X12_of b3 xl1 ((38 : Int32) + xl3) h (fun x3 h =>
    ql_rv h (some a0) 13 fun b5 => qw_X12_placeOf b5 x3 h (fun x5 h =>
    if x5 < 0 then (qw_X12_straight_49 a0 Q (qw_X12_straight_4 a0 Q n) xl1 xl2 xl3 h) else (ql_rv h (some a0) 13 fun b7 => qw_X12_of b7 xl1 ((38 : Int32) + xl3) h (fun x7 h =>
    ql_rv h (some a0) 13 fun b9 => qw_X12_placeOf b9 x7 h (fun x9 h =>
    qw_X12_straight_49 a0 Q (qw_X12_straight_4 a0 Q n) xl1 (xl2 ||| ((1 : Int32) <<< (x9 &&& 31))) xl3 h)))))))
def qw_X12_straight (a0 : Nat) (xp1 : Int32) (h : ql_H) (Q : Int32 → ql_H → Prop) : Prop :=
qw_X12_straight_4 a0 Q ql_FU xp1 (0 : Int32) (0 : Int32) h
set_option maxHeartbeats 4000000 in
set_option maxRecDepth 100000 in
theorem qm_X12_straight (l : Launch) (hl9 : l.stackTraces = false) (D : ql_D) (h0 : ql_H) (a0 : Nat) (xp1 : Int32) (Q : Int32 → ql_H → Prop) (X : String → ql_H → Prop) (w : qw_X12_straight a0 xp1 h0 Q) : ql_M D l yX12_straight cX12_straight 4 (some .int) ({ frames := 6, cells := 0, slots := 0, locals := 108 } : Room) h0 [.ref a0, .int xp1] (ql_rI Q) X 0 0 := by
  refine ql_ofW (by decide) (Nat.le_of_ble_eq_true rfl) ?_
  intro p e s m below meth c ls C hr hlocks hnm htab S hl
  have hl : lv_has ls 4 [(0, .ref a0), (1, .int xp1)] := hl
  have hB49 : ∀ (k4 : Int32 → Int32 → Int32 → ql_H → Prop) (hk4 : ∀ (xl1 : Int32) (xl2 : Int32) (xl3 : Int32) (h : ql_H) (H : Heap) (locs : List Loc) (ls : Array Slot), ql_S D h0 s H locs h → lv_has ls 4 [(0, .ref a0), (1, .int xl1), (2, .int xl2), (3, .int xl3)] → k4 xl1 xl2 xl3 h → W p l e ({ frames := 6, cells := 0, slots := 0, locals := 108 } : Room) s m ([.ref a0, .int xp1] : List Value).toArray below meth c H locs 0 0 (vx_MQ below (ql_Q D h0 (ql_rI Q)) (ql_X D h0 X) ([.ref a0, .int xp1] : List Value).toArray s 0 0 (ql_A h0)) (F0 m 4 ls [])) , ∀ (xl1 : Int32) (xl2 : Int32) (xl3 : Int32) (h : ql_H) (H : Heap) (locs : List Loc) (ls : Array Slot), ql_S D h0 s H locs h → lv_has ls 4 [(0, .ref a0), (1, .int xl1), (2, .int xl2), (3, .int xl3)] → qw_X12_straight_49 a0 Q k4 xl1 xl2 xl3 h → W p l e ({ frames := 6, cells := 0, slots := 0, locals := 108 } : Room) s m ([.ref a0, .int xp1] : List Value).toArray below meth c H locs 0 0 (vx_MQ below (ql_Q D h0 (ql_rI Q)) (ql_X D h0 X) ([.ref a0, .int xp1] : List Value).toArray s 0 0 (ql_A h0)) (F0 m 49 ls []) := by
    intro k4 hk4 xl1 xl2 xl3 h H locs ls S hl w
    unfold qw_X12_straight_49 at w
    refine lv_iinc (v := (xl3 + (1 : Int32))) (lv' := [(3, .int (xl3 + (1 : Int32))), (0, .ref a0), (1, .int xl1), (2, .int xl2)]) C.1.1 C.1.2.1 dX12_straight_49 hl (k := 3) rfl rfl (by decide) rfl (fun ls hl => ?_)
    refine lv_goto (tgt := 4) C.1.1 C.1.2.1 dX12_straight_52 (by decide) ?_
    exact hk4 xl1 xl2 (xl3 + (1 : Int32)) _ _ _ _ S (lv_sub hl [1, 2, 3, 0] rfl) w
  have hB4 : ∀ n : Nat, ∀ (xl1 : Int32) (xl2 : Int32) (xl3 : Int32) (h : ql_H) (H : Heap) (locs : List Loc) (ls : Array Slot), ql_S D h0 s H locs h → lv_has ls 4 [(0, .ref a0), (1, .int xl1), (2, .int xl2), (3, .int xl3)] → qw_X12_straight_4 a0 Q n xl1 xl2 xl3 h → W p l e ({ frames := 6, cells := 0, slots := 0, locals := 108 } : Room) s m ([.ref a0, .int xp1] : List Value).toArray below meth c H locs 0 0 (vx_MQ below (ql_Q D h0 (ql_rI Q)) (ql_X D h0 X) ([.ref a0, .int xp1] : List Value).toArray s 0 0 (ql_A h0)) (F0 m 4 ls []) := by
    intro n
    induction n with
    | zero => intro xl1 xl2 xl3 h H locs ls S hl w; rw [qw_X12_straight_4] at w; exact w.elim
    | succ n ih =>
      intro xl1 xl2 xl3 h H locs ls S hl w
      rw [qw_X12_straight_4] at w
      refine lv_iload_n C.1.1 C.1.2.1 dX12_straight_4 rfl (lv_at hl 3 rfl) ?_
      refine ql_aload_n (r := (some a0)) C dX12_straight_5 rfl (lv_at hl 0 rfl) ?_
      refine lv_iload_n C.1.1 C.1.2.1 dX12_straight_6 rfl (lv_at hl 1 rfl) ?_
      refine lv_bipush (v := (37 : Int32)) C.1.1 C.1.2.1 dX12_straight_7 (by decide) ?_
      refine ql_VI (As := [.int xl1, .int (37 : Int32)]) (rest := [.int xl3]) C S htab hlocks hl qy_X12_of qi_X12_of qs_X12_of gw_1745 (ci := 13) rfl w (fun b w => qm_X12_of l hl9 D _ b xl1 (37 : Int32) _ _ w) rfl ⟨Nat.le_of_ble_eq_true rfl, Nat.le_of_ble_eq_true rfl⟩ ⟨rfl, rfl⟩ (by exact Nat.le_of_ble_eq_true rfl) (fun b e9 => by cases e9; rfl) dX12_straight_9 ⟨Nat.le_of_ble_eq_true rfl, Nat.le_of_ble_eq_true rfl⟩ ⟨Nat.le_of_ble_eq_true rfl, Nat.le_of_ble_eq_true rfl⟩ (fun x1 h H locs S w => ?_)
      refine W.cs (cells' := 0) (slots' := 0) rfl rfl ?_
      refine lv_icmp_ge (tgt := 55) C.1.1 C.1.2.1 dX12_straight_12 (by decide) (fun c9 => ?_) (fun c9 => ?_)
      · replace w := ql_if w c9
        refine lv_iload_n C.1.1 C.1.2.1 dX12_straight_55 rfl (lv_at hl 2 rfl) ?_
        exact ql_iret C S hr hlocks dX12_straight_56 ⟨Nat.le_of_ble_eq_true rfl, Nat.le_of_ble_eq_true rfl⟩ w
      · replace w := ql_ifn w c9
        refine ql_aload_n (r := (some a0)) C dX12_straight_15 rfl (lv_at hl 0 rfl) ?_
        refine ql_aload_n (r := (some a0)) C dX12_straight_16 rfl (lv_at hl 0 rfl) ?_
        refine lv_iload_n C.1.1 C.1.2.1 dX12_straight_17 rfl (lv_at hl 1 rfl) ?_
        refine lv_bipush (v := (38 : Int32)) C.1.1 C.1.2.1 dX12_straight_18 (by decide) ?_
        refine lv_iload_n C.1.1 C.1.2.1 dX12_straight_20 rfl (lv_at hl 3 rfl) ?_
        refine lv_iadd C.1.1 C.1.2.1 dX12_straight_21 ?_
        refine ql_VI (As := [.int xl1, .int ((38 : Int32) + xl3)]) (rest := [.ref a0]) C S htab hlocks hl qy_X12_of qi_X12_of qs_X12_of gw_1745 (ci := 13) rfl w (fun b w => qm_X12_of l hl9 D _ b xl1 ((38 : Int32) + xl3) _ _ w) rfl ⟨Nat.le_of_ble_eq_true rfl, Nat.le_of_ble_eq_true rfl⟩ ⟨rfl, rfl⟩ (by exact Nat.le_of_ble_eq_true rfl) (fun b e9 => by cases e9; rfl) dX12_straight_22 ⟨Nat.le_of_ble_eq_true rfl, Nat.le_of_ble_eq_true rfl⟩ ⟨Nat.le_of_ble_eq_true rfl, Nat.le_of_ble_eq_true rfl⟩ (fun x3 h H locs S w => ?_)
        refine W.cs (cells' := 0) (slots' := 0) rfl rfl ?_
        refine ql_VI (As := [.int x3]) (rest := []) C S htab hlocks hl qy_X12_placeOf qi_X12_placeOf qs_X12_placeOf gw_1772 (ci := 13) rfl w (fun b w => qm_X12_placeOf l hl9 D _ b x3 _ _ w) rfl ⟨Nat.le_of_ble_eq_true rfl, Nat.le_of_ble_eq_true rfl⟩ ⟨rfl, rfl⟩ (by exact Nat.le_of_ble_eq_true rfl) (fun b e9 => by cases e9; rfl) dX12_straight_25 ⟨Nat.le_of_ble_eq_true rfl, Nat.le_of_ble_eq_true rfl⟩ ⟨Nat.le_of_ble_eq_true rfl, Nat.le_of_ble_eq_true rfl⟩ (fun x5 h H locs S w => ?_)
        refine W.cs (cells' := 0) (slots' := 0) rfl rfl ?_
        refine lv_if_lt (tgt := 49) C.1.1 C.1.2.1 dX12_straight_28 (by decide) (fun c9 => ?_) (fun c9 => ?_)
        · replace w := ql_if w c9
          exact hB49 (qw_X12_straight_4 a0 Q n) ih xl1 xl2 xl3 _ _ _ _ S (lv_sub hl [0, 1, 2, 3] rfl) w
        · replace w := ql_ifn w c9
          refine lv_iload_n C.1.1 C.1.2.1 dX12_straight_31 rfl (lv_at hl 2 rfl) ?_
          refine lv_iconst (v := (1 : Int32)) C.1.1 C.1.2.1 dX12_straight_32 (by decide) ?_
          refine ql_aload_n (r := (some a0)) C dX12_straight_33 rfl (lv_at hl 0 rfl) ?_
          refine ql_aload_n (r := (some a0)) C dX12_straight_34 rfl (lv_at hl 0 rfl) ?_
          refine lv_iload_n C.1.1 C.1.2.1 dX12_straight_35 rfl (lv_at hl 1 rfl) ?_
          refine lv_bipush (v := (38 : Int32)) C.1.1 C.1.2.1 dX12_straight_36 (by decide) ?_
          refine lv_iload_n C.1.1 C.1.2.1 dX12_straight_38 rfl (lv_at hl 3 rfl) ?_
          refine lv_iadd C.1.1 C.1.2.1 dX12_straight_39 ?_
          refine ql_VI (As := [.int xl1, .int ((38 : Int32) + xl3)]) (rest := [.ref a0, .int (1 : Int32), .int xl2]) C S htab hlocks hl qy_X12_of qi_X12_of qs_X12_of gw_1745 (ci := 13) rfl w (fun b w => qm_X12_of l hl9 D _ b xl1 ((38 : Int32) + xl3) _ _ w) rfl ⟨Nat.le_of_ble_eq_true rfl, Nat.le_of_ble_eq_true rfl⟩ ⟨rfl, rfl⟩ (by exact Nat.le_of_ble_eq_true rfl) (fun b e9 => by cases e9; rfl) dX12_straight_40 ⟨Nat.le_of_ble_eq_true rfl, Nat.le_of_ble_eq_true rfl⟩ ⟨Nat.le_of_ble_eq_true rfl, Nat.le_of_ble_eq_true rfl⟩ (fun x7 h H locs S w => ?_)
          refine W.cs (cells' := 0) (slots' := 0) rfl rfl ?_
          refine ql_VI (As := [.int x7]) (rest := [.int (1 : Int32), .int xl2]) C S htab hlocks hl qy_X12_placeOf qi_X12_placeOf qs_X12_placeOf gw_1772 (ci := 13) rfl w (fun b w => qm_X12_placeOf l hl9 D _ b x7 _ _ w) rfl ⟨Nat.le_of_ble_eq_true rfl, Nat.le_of_ble_eq_true rfl⟩ ⟨rfl, rfl⟩ (by exact Nat.le_of_ble_eq_true rfl) (fun b e9 => by cases e9; rfl) dX12_straight_43 ⟨Nat.le_of_ble_eq_true rfl, Nat.le_of_ble_eq_true rfl⟩ ⟨Nat.le_of_ble_eq_true rfl, Nat.le_of_ble_eq_true rfl⟩ (fun x9 h H locs S w => ?_)
          refine W.cs (cells' := 0) (slots' := 0) rfl rfl ?_
          refine lv_ishl C.1.1 C.1.2.1 dX12_straight_46 ?_
          refine lv_ior C.1.1 C.1.2.1 dX12_straight_47 ?_
          refine lv_istore_n (lv' := [(2, .int (xl2 ||| ((1 : Int32) <<< (x9 &&& 31)))), (0, .ref a0), (1, .int xl1), (3, .int xl3)]) C.1.1 C.1.2.1 dX12_straight_48 rfl hl (by decide) rfl (fun ls hl => ?_)
          exact hB49 (qw_X12_straight_4 a0 Q n) ih xl1 (xl2 ||| ((1 : Int32) <<< (x9 &&& 31))) xl3 _ _ _ _ S (lv_sub hl [1, 2, 0, 3] rfl) w
  unfold qw_X12_straight at w
  refine lv_iconst (v := (0 : Int32)) C.1.1 C.1.2.1 dX12_straight_0 (by decide) ?_
  refine lv_istore_n (lv' := [(2, .int (0 : Int32)), (0, .ref a0), (1, .int xp1)]) C.1.1 C.1.2.1 dX12_straight_1 rfl hl (by decide) rfl (fun ls hl => ?_)
  refine lv_iconst (v := (0 : Int32)) C.1.1 C.1.2.1 dX12_straight_2 (by decide) ?_
  refine lv_istore_n (lv' := [(3, .int (0 : Int32)), (2, .int (0 : Int32)), (0, .ref a0), (1, .int xp1)]) C.1.1 C.1.2.1 dX12_straight_3 rfl hl (by decide) rfl (fun ls hl => ?_)
  exact hB4 ql_FU xp1 (0 : Int32) (0 : Int32) _ _ _ _ S (lv_sub hl [2, 3, 1, 0] rfl) w
def qw_X12_reached_50 (a0 : Nat) (Q : Int32 → ql_H → Prop) (k14 : Int32 → Int32 → Int32 → Int32 → ql_H → Prop) (xl1 : Int32) (xl2 : Int32) (xl3 : Int32) (xl4 : Int32) (h : ql_H) : Prop :=
k14 xl1 xl2 xl3 (xl4 + (1 : Int32)) h
def qw_X12_reached_41 (a0 : Nat) (Q : Int32 → ql_H → Prop) (k14 : Int32 → Int32 → Int32 → Int32 → ql_H → Prop) (xl1 : Int32) (xl2 : Int32) (xl3 : Int32) (xl4 : Int32) (h : ql_H) : Prop :=
ql_rv h (some a0) 13 fun b1 => qw_X12_straight b1 xl4 h (fun x1 h =>
qw_X12_reached_50 a0 Q k14 xl1 (xl2 ||| x1) xl3 xl4 h)
def qw_X12_reached_14 (a0 : Nat) (Q : Int32 → ql_H → Prop) (k4 : Int32 → Int32 → Int32 → ql_H → Prop) : Nat → Int32 → Int32 → Int32 → Int32 → ql_H → Prop
  | 0, _, _, _, _, _ => False
  | n + 1, xl1, xl2, xl3, xl4, h =>
    ql_gR h (some a0) 13 0 fun r3 =>
    ql_lI h r3 0 (0 : Int32) fun x4 =>
    if x4 ≤ xl4 then (k4 xl1 xl2 xl3 h) else (if xl4 = xl1 then (qw_X12_reached_41 a0 Q (qw_X12_reached_14 a0 Q k4 n) xl1 xl2 xl3 xl4 h) else (if ((xl3 >>> (xl4 &&& 31)) &&& (1 : Int32)) = (1 : Int32) then (qw_X12_reached_41 a0 Q (qw_X12_reached_14 a0 Q k4 n) xl1 xl2 xl3 xl4 h) else (qw_X12_reached_50 a0 Q (qw_X12_reached_14 a0 Q k4 n) xl1 xl2 xl3 xl4 h)))
def qw_X12_reached_4 (a0 : Nat) (Q : Int32 → ql_H → Prop) : Nat → Int32 → Int32 → Int32 → ql_H → Prop
  | 0, _, _, _, _ => False
  | n + 1, xl1, xl2, xl3, h =>
    if xl2 = xl3 then (Q xl2 h) else (qw_X12_reached_14 a0 Q (qw_X12_reached_4 a0 Q n) ql_FU xl1 xl2 xl2 (0 : Int32) h)
def qw_X12_reached (a0 : Nat) (xp1 : Int32) (h : ql_H) (Q : Int32 → ql_H → Prop) : Prop :=
qw_X12_reached_4 a0 Q ql_FU xp1 (0 : Int32) (-1 : Int32) h
set_option maxHeartbeats 4000000 in
set_option maxRecDepth 100000 in
theorem qm_X12_reached (l : Launch) (hl9 : l.stackTraces = false) (D : ql_D) (h0 : ql_H) (a0 : Nat) (xp1 : Int32) (Q : Int32 → ql_H → Prop) (X : String → ql_H → Prop) (w : qw_X12_reached a0 xp1 h0 Q) : ql_M D l yX12_reached cX12_reached 5 (some .int) ({ frames := 8, cells := 0, slots := 0, locals := 139 } : Room) h0 [.ref a0, .int xp1] (ql_rI Q) X 0 0 := by
  refine ql_ofW (by decide) (Nat.le_of_ble_eq_true rfl) ?_
  intro p e s m below meth c ls C hr hlocks hnm htab S hl
  have hl : lv_has ls 5 [(0, .ref a0), (1, .int xp1)] := hl
  have hB50 : ∀ (k14 : Int32 → Int32 → Int32 → Int32 → ql_H → Prop) (hk14 : ∀ (xl1 : Int32) (xl2 : Int32) (xl3 : Int32) (xl4 : Int32) (h : ql_H) (H : Heap) (locs : List Loc) (ls : Array Slot), ql_S D h0 s H locs h → lv_has ls 5 [(0, .ref a0), (1, .int xl1), (2, .int xl2), (3, .int xl3), (4, .int xl4)] → k14 xl1 xl2 xl3 xl4 h → W p l e ({ frames := 8, cells := 0, slots := 0, locals := 139 } : Room) s m ([.ref a0, .int xp1] : List Value).toArray below meth c H locs 0 0 (vx_MQ below (ql_Q D h0 (ql_rI Q)) (ql_X D h0 X) ([.ref a0, .int xp1] : List Value).toArray s 0 0 (ql_A h0)) (F0 m 14 ls [])) , ∀ (xl1 : Int32) (xl2 : Int32) (xl3 : Int32) (xl4 : Int32) (h : ql_H) (H : Heap) (locs : List Loc) (ls : Array Slot), ql_S D h0 s H locs h → lv_has ls 5 [(0, .ref a0), (1, .int xl1), (2, .int xl2), (3, .int xl3), (4, .int xl4)] → qw_X12_reached_50 a0 Q k14 xl1 xl2 xl3 xl4 h → W p l e ({ frames := 8, cells := 0, slots := 0, locals := 139 } : Room) s m ([.ref a0, .int xp1] : List Value).toArray below meth c H locs 0 0 (vx_MQ below (ql_Q D h0 (ql_rI Q)) (ql_X D h0 X) ([.ref a0, .int xp1] : List Value).toArray s 0 0 (ql_A h0)) (F0 m 50 ls []) := by
    intro k14 hk14 xl1 xl2 xl3 xl4 h H locs ls S hl w
    unfold qw_X12_reached_50 at w
    refine lv_iinc (v := (xl4 + (1 : Int32))) (lv' := [(4, .int (xl4 + (1 : Int32))), (0, .ref a0), (1, .int xl1), (2, .int xl2), (3, .int xl3)]) C.1.1 C.1.2.1 dX12_reached_50 hl (k := 4) rfl rfl (by decide) rfl (fun ls hl => ?_)
    refine lv_goto (tgt := 14) C.1.1 C.1.2.1 dX12_reached_53 (by decide) ?_
    exact hk14 xl1 xl2 xl3 (xl4 + (1 : Int32)) _ _ _ _ S (lv_sub hl [1, 2, 3, 4, 0] rfl) w
  have hB41 : ∀ (k14 : Int32 → Int32 → Int32 → Int32 → ql_H → Prop) (hk14 : ∀ (xl1 : Int32) (xl2 : Int32) (xl3 : Int32) (xl4 : Int32) (h : ql_H) (H : Heap) (locs : List Loc) (ls : Array Slot), ql_S D h0 s H locs h → lv_has ls 5 [(0, .ref a0), (1, .int xl1), (2, .int xl2), (3, .int xl3), (4, .int xl4)] → k14 xl1 xl2 xl3 xl4 h → W p l e ({ frames := 8, cells := 0, slots := 0, locals := 139 } : Room) s m ([.ref a0, .int xp1] : List Value).toArray below meth c H locs 0 0 (vx_MQ below (ql_Q D h0 (ql_rI Q)) (ql_X D h0 X) ([.ref a0, .int xp1] : List Value).toArray s 0 0 (ql_A h0)) (F0 m 14 ls [])) , ∀ (xl1 : Int32) (xl2 : Int32) (xl3 : Int32) (xl4 : Int32) (h : ql_H) (H : Heap) (locs : List Loc) (ls : Array Slot), ql_S D h0 s H locs h → lv_has ls 5 [(0, .ref a0), (1, .int xl1), (2, .int xl2), (3, .int xl3), (4, .int xl4)] → qw_X12_reached_41 a0 Q k14 xl1 xl2 xl3 xl4 h → W p l e ({ frames := 8, cells := 0, slots := 0, locals := 139 } : Room) s m ([.ref a0, .int xp1] : List Value).toArray below meth c H locs 0 0 (vx_MQ below (ql_Q D h0 (ql_rI Q)) (ql_X D h0 X) ([.ref a0, .int xp1] : List Value).toArray s 0 0 (ql_A h0)) (F0 m 41 ls []) := by
    intro k14 hk14 xl1 xl2 xl3 xl4 h H locs ls S hl w
    unfold qw_X12_reached_41 at w
    refine lv_iload_n C.1.1 C.1.2.1 dX12_reached_41 rfl (lv_at hl 2 rfl) ?_
    refine ql_aload_n (r := (some a0)) C dX12_reached_42 rfl (lv_at hl 0 rfl) ?_
    refine lv_iload C.1.1 C.1.2.1 dX12_reached_43 (lv_at hl 4 rfl) ?_
    refine ql_VI (As := [.int xl4]) (rest := [.int xl2]) C S htab hlocks hl qy_X12_straight qi_X12_straight qs_X12_straight gw_1991 (ci := 13) rfl w (fun b w => qm_X12_straight l hl9 D _ b xl4 _ _ w) rfl ⟨Nat.le_of_ble_eq_true rfl, Nat.le_of_ble_eq_true rfl⟩ ⟨rfl, rfl⟩ (by exact Nat.le_of_ble_eq_true rfl) (fun b e9 => by cases e9; rfl) dX12_reached_45 ⟨Nat.le_of_ble_eq_true rfl, Nat.le_of_ble_eq_true rfl⟩ ⟨Nat.le_of_ble_eq_true rfl, Nat.le_of_ble_eq_true rfl⟩ (fun x1 h H locs S w => ?_)
    refine W.cs (cells' := 0) (slots' := 0) rfl rfl ?_
    refine lv_ior C.1.1 C.1.2.1 dX12_reached_48 ?_
    refine lv_istore_n (lv' := [(2, .int (xl2 ||| x1)), (0, .ref a0), (1, .int xl1), (3, .int xl3), (4, .int xl4)]) C.1.1 C.1.2.1 dX12_reached_49 rfl hl (by decide) rfl (fun ls hl => ?_)
    exact hB50 k14 hk14 xl1 (xl2 ||| x1) xl3 xl4 _ _ _ _ S (lv_sub hl [1, 2, 0, 3, 4] rfl) w
  have hB14 : ∀ (k4 : Int32 → Int32 → Int32 → ql_H → Prop) (hk4 : ∀ (xl1 : Int32) (xl2 : Int32) (xl3 : Int32) (h : ql_H) (H : Heap) (locs : List Loc) (ls : Array Slot), ql_S D h0 s H locs h → lv_has ls 5 [(0, .ref a0), (1, .int xl1), (2, .int xl2), (3, .int xl3)] → k4 xl1 xl2 xl3 h → W p l e ({ frames := 8, cells := 0, slots := 0, locals := 139 } : Room) s m ([.ref a0, .int xp1] : List Value).toArray below meth c H locs 0 0 (vx_MQ below (ql_Q D h0 (ql_rI Q)) (ql_X D h0 X) ([.ref a0, .int xp1] : List Value).toArray s 0 0 (ql_A h0)) (F0 m 4 ls [])) , ∀ n : Nat, ∀ (xl1 : Int32) (xl2 : Int32) (xl3 : Int32) (xl4 : Int32) (h : ql_H) (H : Heap) (locs : List Loc) (ls : Array Slot), ql_S D h0 s H locs h → lv_has ls 5 [(0, .ref a0), (1, .int xl1), (2, .int xl2), (3, .int xl3), (4, .int xl4)] → qw_X12_reached_14 a0 Q k4 n xl1 xl2 xl3 xl4 h → W p l e ({ frames := 8, cells := 0, slots := 0, locals := 139 } : Room) s m ([.ref a0, .int xp1] : List Value).toArray below meth c H locs 0 0 (vx_MQ below (ql_Q D h0 (ql_rI Q)) (ql_X D h0 X) ([.ref a0, .int xp1] : List Value).toArray s 0 0 (ql_A h0)) (F0 m 14 ls []) := by
    intro k4 hk4 n
    induction n with
    | zero => intro xl1 xl2 xl3 xl4 h H locs ls S hl w; rw [qw_X12_reached_14] at w; exact w.elim
    | succ n ih =>
      intro xl1 xl2 xl3 xl4 h H locs ls S hl w
      rw [qw_X12_reached_14] at w
      refine lv_iload C.1.1 C.1.2.1 dX12_reached_14 (lv_at hl 4 rfl) ?_
      refine ql_aload_n (r := (some a0)) C dX12_reached_16 rfl (lv_at hl 0 rfl) ?_
      refine ql_getR C S qf_13_0 gw_1668 dX12_reached_17 w (fun r3 w => ?_)
      refine lv_iconst (v := (0 : Int32)) C.1.1 C.1.2.1 dX12_reached_20 (by decide) ?_
      refine ql_iald C S dX12_reached_21 w (fun x4 w => ?_)
      refine lv_icmp_ge (tgt := 56) C.1.1 C.1.2.1 dX12_reached_22 (by decide) (fun c9 => ?_) (fun c9 => ?_)
      · replace w := ql_if w c9
        refine lv_goto (tgt := 4) C.1.1 C.1.2.1 dX12_reached_56 (by decide) ?_
        exact hk4 xl1 xl2 xl3 _ _ _ _ S (lv_sub hl [0, 1, 2, 3] rfl) w
      · replace w := ql_ifn w c9
        refine lv_iload C.1.1 C.1.2.1 dX12_reached_25 (lv_at hl 4 rfl) ?_
        refine lv_iload_n C.1.1 C.1.2.1 dX12_reached_27 rfl (lv_at hl 1 rfl) ?_
        refine lv_icmp_eq (tgt := 41) C.1.1 C.1.2.1 dX12_reached_28 (by decide) (fun c9 => ?_) (fun c9 => ?_)
        · replace w := ql_if w c9
          exact hB41 (qw_X12_reached_14 a0 Q k4 n) ih xl1 xl2 xl3 xl4 _ _ _ _ S (lv_sub hl [0, 1, 2, 3, 4] rfl) w
        · replace w := ql_ifn w c9
          refine lv_iload_n C.1.1 C.1.2.1 dX12_reached_31 rfl (lv_at hl 3 rfl) ?_
          refine lv_iload C.1.1 C.1.2.1 dX12_reached_32 (lv_at hl 4 rfl) ?_
          refine lv_ishr C.1.1 C.1.2.1 dX12_reached_34 ?_
          refine lv_iconst (v := (1 : Int32)) C.1.1 C.1.2.1 dX12_reached_35 (by decide) ?_
          refine lv_iand C.1.1 C.1.2.1 dX12_reached_36 ?_
          refine lv_iconst (v := (1 : Int32)) C.1.1 C.1.2.1 dX12_reached_37 (by decide) ?_
          refine lv_icmp_ne (tgt := 50) C.1.1 C.1.2.1 dX12_reached_38 (by decide) (fun c9 => ?_) (fun c9 => ?_)
          · replace w := ql_ifn w c9
            exact hB50 (qw_X12_reached_14 a0 Q k4 n) ih xl1 xl2 xl3 xl4 _ _ _ _ S (lv_sub hl [0, 1, 2, 3, 4] rfl) w
          · replace w := ql_if w c9
            exact hB41 (qw_X12_reached_14 a0 Q k4 n) ih xl1 xl2 xl3 xl4 _ _ _ _ S (lv_sub hl [0, 1, 2, 3, 4] rfl) w
  have hB4 : ∀ n : Nat, ∀ (xl1 : Int32) (xl2 : Int32) (xl3 : Int32) (h : ql_H) (H : Heap) (locs : List Loc) (ls : Array Slot), ql_S D h0 s H locs h → lv_has ls 5 [(0, .ref a0), (1, .int xl1), (2, .int xl2), (3, .int xl3)] → qw_X12_reached_4 a0 Q n xl1 xl2 xl3 h → W p l e ({ frames := 8, cells := 0, slots := 0, locals := 139 } : Room) s m ([.ref a0, .int xp1] : List Value).toArray below meth c H locs 0 0 (vx_MQ below (ql_Q D h0 (ql_rI Q)) (ql_X D h0 X) ([.ref a0, .int xp1] : List Value).toArray s 0 0 (ql_A h0)) (F0 m 4 ls []) := by
    intro n
    induction n with
    | zero => intro xl1 xl2 xl3 h H locs ls S hl w; rw [qw_X12_reached_4] at w; exact w.elim
    | succ n ih =>
      intro xl1 xl2 xl3 h H locs ls S hl w
      rw [qw_X12_reached_4] at w
      refine lv_iload_n C.1.1 C.1.2.1 dX12_reached_4 rfl (lv_at hl 2 rfl) ?_
      refine lv_iload_n C.1.1 C.1.2.1 dX12_reached_5 rfl (lv_at hl 3 rfl) ?_
      refine lv_icmp_eq (tgt := 59) C.1.1 C.1.2.1 dX12_reached_6 (by decide) (fun c9 => ?_) (fun c9 => ?_)
      · replace w := ql_if w c9
        refine lv_iload_n C.1.1 C.1.2.1 dX12_reached_59 rfl (lv_at hl 2 rfl) ?_
        exact ql_iret C S hr hlocks dX12_reached_60 ⟨Nat.le_of_ble_eq_true rfl, Nat.le_of_ble_eq_true rfl⟩ w
      · replace w := ql_ifn w c9
        refine lv_iload_n C.1.1 C.1.2.1 dX12_reached_9 rfl (lv_at hl 2 rfl) ?_
        refine lv_istore_n (lv' := [(3, .int xl2), (0, .ref a0), (1, .int xl1), (2, .int xl2)]) C.1.1 C.1.2.1 dX12_reached_10 rfl hl (by decide) rfl (fun ls hl => ?_)
        refine lv_iconst (v := (0 : Int32)) C.1.1 C.1.2.1 dX12_reached_11 (by decide) ?_
        refine lv_istore (lv' := [(4, .int (0 : Int32)), (3, .int xl2), (0, .ref a0), (1, .int xl1), (2, .int xl2)]) C.1.1 C.1.2.1 dX12_reached_12 hl (by decide) rfl (fun ls hl => ?_)
        exact hB14 (qw_X12_reached_4 a0 Q n) ih ql_FU xl1 xl2 xl2 (0 : Int32) _ _ _ _ S (lv_sub hl [2, 3, 4, 1, 0] rfl) w
  unfold qw_X12_reached at w
  refine lv_iconst (v := (0 : Int32)) C.1.1 C.1.2.1 dX12_reached_0 (by decide) ?_
  refine lv_istore_n (lv' := [(2, .int (0 : Int32)), (0, .ref a0), (1, .int xp1)]) C.1.1 C.1.2.1 dX12_reached_1 rfl hl (by decide) rfl (fun ls hl => ?_)
  refine lv_iconst (v := (-1 : Int32)) C.1.1 C.1.2.1 dX12_reached_2 (by decide) ?_
  refine lv_istore_n (lv' := [(3, .int (-1 : Int32)), (2, .int (0 : Int32)), (0, .ref a0), (1, .int xp1)]) C.1.1 C.1.2.1 dX12_reached_3 rfl hl (by decide) rfl (fun ls hl => ?_)
  exact hB4 ql_FU xp1 (0 : Int32) (-1 : Int32) _ _ _ _ S (lv_sub hl [2, 3, 1, 0] rfl) w
def qw_X12_isReached_22 (a0 : Nat) (Q : Int32 → ql_H → Prop) (xl1 : Int32) (xl2 : Int32) (rs0 : Option Nat) (xs1 : Int32) (h : ql_H) : Prop :=
ql_rv h rs0 13 fun b1 => qw_X12_fails b1 xs1 h (fun x1 h =>
if x1 = 0 then (ql_rv h (some a0) 13 fun b3 => qw_X12_placeOf b3 xl1 h (fun x3 h =>
ql_rv h (some a0) 13 fun b5 => qw_X12_reached b5 x3 h (fun x5 h =>
ql_rv h (some a0) 13 fun b7 => qw_X12_placeOf b7 xl2 h (fun x7 h =>
if ((x5 >>> (x7 &&& 31)) &&& (1 : Int32)) = (1 : Int32) then (ql_nz .boolean (1 : Int32) ∧ Q (1 : Int32) h) else (ql_nz .boolean (0 : Int32) ∧ Q (0 : Int32) h))))) else (ql_nz .boolean (0 : Int32) ∧ Q (0 : Int32) h))
def qw_X12_isReached_17 (a0 : Nat) (Q : Int32 → ql_H → Prop) (xl1 : Int32) (xl2 : Int32) (rs0 : Option Nat) (h : ql_H) : Prop :=
qw_X12_isReached_22 a0 Q xl1 xl2 rs0 (1 : Int32) h
def qw_X12_isReached (a0 : Nat) (xp1 : Int32) (xp2 : Int32) (h : ql_H) (Q : Int32 → ql_H → Prop) : Prop :=
ql_rv h (some a0) 13 fun b9 => qw_X12_placeOf b9 xp1 h (fun x9 h =>
if x9 < 0 then (qw_X12_isReached_17 a0 Q xp1 xp2 (some a0) h) else (ql_rv h (some a0) 13 fun b11 => qw_X12_placeOf b11 xp2 h (fun x11 h =>
if 0 ≤ x11 then (qw_X12_isReached_22 a0 Q xp1 xp2 (some a0) (0 : Int32) h) else (qw_X12_isReached_17 a0 Q xp1 xp2 (some a0) h))))
set_option maxHeartbeats 4000000 in
set_option maxRecDepth 100000 in
theorem qm_X12_isReached (l : Launch) (hl9 : l.stackTraces = false) (D : ql_D) (h0 : ql_H) (a0 : Nat) (xp1 : Int32) (xp2 : Int32) (Q : Int32 → ql_H → Prop) (X : String → ql_H → Prop) (w : qw_X12_isReached a0 xp1 xp2 h0 Q) : ql_M D l yX12_isReached cX12_isReached 3 (some .boolean) ({ frames := 10, cells := 0, slots := 0, locals := 171 } : Room) h0 [.ref a0, .int xp1, .int xp2] (ql_rI Q) X 0 0 := by
  refine ql_ofW (by decide) (Nat.le_of_ble_eq_true rfl) ?_
  intro p e s m below meth c ls C hr hlocks hnm htab S hl
  have hl : lv_has ls 3 [(0, .ref a0), (1, .int xp1), (2, .int xp2)] := hl
  have hB22 : ∀ (xl1 : Int32) (xl2 : Int32) (rs0 : Option Nat) (xs1 : Int32) (h : ql_H) (H : Heap) (locs : List Loc) (ls : Array Slot), ql_S D h0 s H locs h → lv_has ls 3 [(0, .ref a0), (1, .int xl1), (2, .int xl2)] → qw_X12_isReached_22 a0 Q xl1 xl2 rs0 xs1 h → W p l e ({ frames := 10, cells := 0, slots := 0, locals := 171 } : Room) s m ([.ref a0, .int xp1, .int xp2] : List Value).toArray below meth c H locs 0 0 (vx_MQ below (ql_Q D h0 (ql_rI Q)) (ql_X D h0 X) ([.ref a0, .int xp1, .int xp2] : List Value).toArray s 0 0 (ql_A h0)) (F0 m 22 ls [.int xs1, va_rf rs0]) := by
    intro xl1 xl2 rs0 xs1 h H locs ls S hl w
    unfold qw_X12_isReached_22 at w
    refine ql_VI (As := [.int xs1]) (rest := []) C S htab hlocks hl qy_X12_fails qi_X12_fails qs_X12_fails gw_1749 (ci := 13) rfl w (fun b w => qm_X12_fails l hl9 D _ b xs1 _ _ w) rfl ⟨Nat.le_of_ble_eq_true rfl, Nat.le_of_ble_eq_true rfl⟩ ⟨rfl, rfl⟩ (by exact Nat.le_of_ble_eq_true rfl) (fun b e9 => by cases e9; rfl) dX12_isReached_22 ⟨Nat.le_of_ble_eq_true rfl, Nat.le_of_ble_eq_true rfl⟩ ⟨Nat.le_of_ble_eq_true rfl, Nat.le_of_ble_eq_true rfl⟩ (fun x1 h H locs S w => ?_)
    refine W.cs (cells' := 0) (slots' := 0) rfl rfl ?_
    refine lv_if_eq (tgt := 30) C.1.1 C.1.2.1 dX12_isReached_25 (by decide) (fun c9 => ?_) (fun c9 => ?_)
    · replace w := ql_if w c9
      refine ql_aload_n (r := (some a0)) C dX12_isReached_30 rfl (lv_at hl 0 rfl) ?_
      refine ql_aload_n (r := (some a0)) C dX12_isReached_31 rfl (lv_at hl 0 rfl) ?_
      refine lv_iload_n C.1.1 C.1.2.1 dX12_isReached_32 rfl (lv_at hl 1 rfl) ?_
      refine ql_VI (As := [.int xl1]) (rest := [.ref a0]) C S htab hlocks hl qy_X12_placeOf qi_X12_placeOf qs_X12_placeOf gw_1772 (ci := 13) rfl w (fun b w => qm_X12_placeOf l hl9 D _ b xl1 _ _ w) rfl ⟨Nat.le_of_ble_eq_true rfl, Nat.le_of_ble_eq_true rfl⟩ ⟨rfl, rfl⟩ (by exact Nat.le_of_ble_eq_true rfl) (fun b e9 => by cases e9; rfl) dX12_isReached_33 ⟨Nat.le_of_ble_eq_true rfl, Nat.le_of_ble_eq_true rfl⟩ ⟨Nat.le_of_ble_eq_true rfl, Nat.le_of_ble_eq_true rfl⟩ (fun x3 h H locs S w => ?_)
      refine W.cs (cells' := 0) (slots' := 0) rfl rfl ?_
      refine ql_VI (As := [.int x3]) (rest := []) C S htab hlocks hl qy_X12_reached qi_X12_reached qs_X12_reached gw_1987 (ci := 13) rfl w (fun b w => qm_X12_reached l hl9 D _ b x3 _ _ w) rfl ⟨Nat.le_of_ble_eq_true rfl, Nat.le_of_ble_eq_true rfl⟩ ⟨rfl, rfl⟩ (by exact Nat.le_of_ble_eq_true rfl) (fun b e9 => by cases e9; rfl) dX12_isReached_36 ⟨Nat.le_of_ble_eq_true rfl, Nat.le_of_ble_eq_true rfl⟩ ⟨Nat.le_of_ble_eq_true rfl, Nat.le_of_ble_eq_true rfl⟩ (fun x5 h H locs S w => ?_)
      refine W.cs (cells' := 0) (slots' := 0) rfl rfl ?_
      refine ql_aload_n (r := (some a0)) C dX12_isReached_39 rfl (lv_at hl 0 rfl) ?_
      refine lv_iload_n C.1.1 C.1.2.1 dX12_isReached_40 rfl (lv_at hl 2 rfl) ?_
      refine ql_VI (As := [.int xl2]) (rest := [.int x5]) C S htab hlocks hl qy_X12_placeOf qi_X12_placeOf qs_X12_placeOf gw_1772 (ci := 13) rfl w (fun b w => qm_X12_placeOf l hl9 D _ b xl2 _ _ w) rfl ⟨Nat.le_of_ble_eq_true rfl, Nat.le_of_ble_eq_true rfl⟩ ⟨rfl, rfl⟩ (by exact Nat.le_of_ble_eq_true rfl) (fun b e9 => by cases e9; rfl) dX12_isReached_41 ⟨Nat.le_of_ble_eq_true rfl, Nat.le_of_ble_eq_true rfl⟩ ⟨Nat.le_of_ble_eq_true rfl, Nat.le_of_ble_eq_true rfl⟩ (fun x7 h H locs S w => ?_)
      refine W.cs (cells' := 0) (slots' := 0) rfl rfl ?_
      refine lv_ishr C.1.1 C.1.2.1 dX12_isReached_44 ?_
      refine lv_iconst (v := (1 : Int32)) C.1.1 C.1.2.1 dX12_isReached_45 (by decide) ?_
      refine lv_iand C.1.1 C.1.2.1 dX12_isReached_46 ?_
      refine lv_iconst (v := (1 : Int32)) C.1.1 C.1.2.1 dX12_isReached_47 (by decide) ?_
      refine lv_icmp_ne (tgt := 55) C.1.1 C.1.2.1 dX12_isReached_48 (by decide) (fun c9 => ?_) (fun c9 => ?_)
      · replace w := ql_ifn w c9
        refine lv_iconst (v := (0 : Int32)) C.1.1 C.1.2.1 dX12_isReached_55 (by decide) ?_
        exact ql_zret C S hr hlocks dX12_isReached_56 ⟨Nat.le_of_ble_eq_true rfl, Nat.le_of_ble_eq_true rfl⟩ w
      · replace w := ql_if w c9
        refine lv_iconst (v := (1 : Int32)) C.1.1 C.1.2.1 dX12_isReached_51 (by decide) ?_
        refine lv_goto (tgt := 56) C.1.1 C.1.2.1 dX12_isReached_52 (by decide) ?_
        exact ql_zret C S hr hlocks dX12_isReached_56 ⟨Nat.le_of_ble_eq_true rfl, Nat.le_of_ble_eq_true rfl⟩ w
    · replace w := ql_ifn w c9
      refine lv_iconst (v := (0 : Int32)) C.1.1 C.1.2.1 dX12_isReached_28 (by decide) ?_
      exact ql_zret C S hr hlocks dX12_isReached_29 ⟨Nat.le_of_ble_eq_true rfl, Nat.le_of_ble_eq_true rfl⟩ w
  have hB17 : ∀ (xl1 : Int32) (xl2 : Int32) (rs0 : Option Nat) (h : ql_H) (H : Heap) (locs : List Loc) (ls : Array Slot), ql_S D h0 s H locs h → lv_has ls 3 [(0, .ref a0), (1, .int xl1), (2, .int xl2)] → qw_X12_isReached_17 a0 Q xl1 xl2 rs0 h → W p l e ({ frames := 10, cells := 0, slots := 0, locals := 171 } : Room) s m ([.ref a0, .int xp1, .int xp2] : List Value).toArray below meth c H locs 0 0 (vx_MQ below (ql_Q D h0 (ql_rI Q)) (ql_X D h0 X) ([.ref a0, .int xp1, .int xp2] : List Value).toArray s 0 0 (ql_A h0)) (F0 m 17 ls [va_rf rs0]) := by
    intro xl1 xl2 rs0 h H locs ls S hl w
    unfold qw_X12_isReached_17 at w
    refine lv_iconst (v := (1 : Int32)) C.1.1 C.1.2.1 dX12_isReached_17 (by decide) ?_
    refine lv_goto (tgt := 22) C.1.1 C.1.2.1 dX12_isReached_18 (by decide) ?_
    exact hB22 xl1 xl2 rs0 (1 : Int32) _ _ _ _ S (lv_sub hl [0, 1, 2] rfl) w
  unfold qw_X12_isReached at w
  refine ql_aload_n (r := (some a0)) C dX12_isReached_0 rfl (lv_at hl 0 rfl) ?_
  refine ql_aload_n (r := (some a0)) C dX12_isReached_1 rfl (lv_at hl 0 rfl) ?_
  refine lv_iload_n C.1.1 C.1.2.1 dX12_isReached_2 rfl (lv_at hl 1 rfl) ?_
  refine ql_VI (As := [.int xp1]) (rest := [.ref a0]) C S htab hlocks hl qy_X12_placeOf qi_X12_placeOf qs_X12_placeOf gw_1772 (ci := 13) rfl w (fun b w => qm_X12_placeOf l hl9 D _ b xp1 _ _ w) rfl ⟨Nat.le_of_ble_eq_true rfl, Nat.le_of_ble_eq_true rfl⟩ ⟨rfl, rfl⟩ (by exact Nat.le_of_ble_eq_true rfl) (fun b e9 => by cases e9; rfl) dX12_isReached_3 ⟨Nat.le_of_ble_eq_true rfl, Nat.le_of_ble_eq_true rfl⟩ ⟨Nat.le_of_ble_eq_true rfl, Nat.le_of_ble_eq_true rfl⟩ (fun x9 h H locs S w => ?_)
  refine W.cs (cells' := 0) (slots' := 0) rfl rfl ?_
  refine lv_if_lt (tgt := 17) C.1.1 C.1.2.1 dX12_isReached_6 (by decide) (fun c9 => ?_) (fun c9 => ?_)
  · replace w := ql_if w c9
    exact hB17 xp1 xp2 (some a0) _ _ _ _ S (lv_sub hl [0, 1, 2] rfl) w
  · replace w := ql_ifn w c9
    refine ql_aload_n (r := (some a0)) C dX12_isReached_9 rfl (lv_at hl 0 rfl) ?_
    refine lv_iload_n C.1.1 C.1.2.1 dX12_isReached_10 rfl (lv_at hl 2 rfl) ?_
    refine ql_VI (As := [.int xp2]) (rest := [.ref a0]) C S htab hlocks hl qy_X12_placeOf qi_X12_placeOf qs_X12_placeOf gw_1772 (ci := 13) rfl w (fun b w => qm_X12_placeOf l hl9 D _ b xp2 _ _ w) rfl ⟨Nat.le_of_ble_eq_true rfl, Nat.le_of_ble_eq_true rfl⟩ ⟨rfl, rfl⟩ (by exact Nat.le_of_ble_eq_true rfl) (fun b e9 => by cases e9; rfl) dX12_isReached_11 ⟨Nat.le_of_ble_eq_true rfl, Nat.le_of_ble_eq_true rfl⟩ ⟨Nat.le_of_ble_eq_true rfl, Nat.le_of_ble_eq_true rfl⟩ (fun x11 h H locs S w => ?_)
    refine W.cs (cells' := 0) (slots' := 0) rfl rfl ?_
    refine lv_if_ge (tgt := 21) C.1.1 C.1.2.1 dX12_isReached_14 (by decide) (fun c9 => ?_) (fun c9 => ?_)
    · replace w := ql_if w c9
      refine lv_iconst (v := (0 : Int32)) C.1.1 C.1.2.1 dX12_isReached_21 (by decide) ?_
      exact hB22 xp1 xp2 (some a0) (0 : Int32) _ _ _ _ S (lv_sub hl [0, 1, 2] rfl) w
    · replace w := ql_ifn w c9
      exact hB17 xp1 xp2 (some a0) _ _ _ _ S (lv_sub hl [0, 1, 2] rfl) w
def qw_X12_citesIndirectly (a0 : Nat) (xp1 : Int32) (xp2 : Int32) (h : ql_H) (Q : Int32 → ql_H → Prop) : Prop :=
ql_rv h (some a0) 13 fun b1 => qw_X12_isReached b1 xp1 xp2 h (fun x1 h =>
ql_nz .boolean x1 ∧ Q x1 h)
set_option maxHeartbeats 4000000 in
set_option maxRecDepth 100000 in
theorem qm_X12_citesIndirectly (l : Launch) (hl9 : l.stackTraces = false) (D : ql_D) (h0 : ql_H) (a0 : Nat) (xp1 : Int32) (xp2 : Int32) (Q : Int32 → ql_H → Prop) (X : String → ql_H → Prop) (w : qw_X12_citesIndirectly a0 xp1 xp2 h0 Q) : ql_M D l yX12_citesIndirectly cX12_citesIndirectly 3 (some .boolean) ({ frames := 12, cells := 0, slots := 0, locals := 201 } : Room) h0 [.ref a0, .int xp1, .int xp2] (ql_rI Q) X 0 0 := by
  refine ql_ofW (by decide) (Nat.le_of_ble_eq_true rfl) ?_
  intro p e s m below meth c ls C hr hlocks hnm htab S hl
  have hl : lv_has ls 3 [(0, .ref a0), (1, .int xp1), (2, .int xp2)] := hl
  unfold qw_X12_citesIndirectly at w
  refine ql_aload_n (r := (some a0)) C dX12_citesIndirectly_0 rfl (lv_at hl 0 rfl) ?_
  refine lv_iload_n C.1.1 C.1.2.1 dX12_citesIndirectly_1 rfl (lv_at hl 1 rfl) ?_
  refine lv_iload_n C.1.1 C.1.2.1 dX12_citesIndirectly_2 rfl (lv_at hl 2 rfl) ?_
  refine ql_VI (As := [.int xp1, .int xp2]) (rest := []) C S htab hlocks hl qy_X12_isReached qi_X12_isReached qs_X12_isReached gw_1983 (ci := 13) rfl w (fun b w => qm_X12_isReached l hl9 D _ b xp1 xp2 _ _ w) rfl ⟨Nat.le_of_ble_eq_true rfl, Nat.le_of_ble_eq_true rfl⟩ ⟨rfl, rfl⟩ (by exact Nat.le_of_ble_eq_true rfl) (fun b e9 => by cases e9; rfl) dX12_citesIndirectly_3 ⟨Nat.le_of_ble_eq_true rfl, Nat.le_of_ble_eq_true rfl⟩ ⟨Nat.le_of_ble_eq_true rfl, Nat.le_of_ble_eq_true rfl⟩ (fun x1 h H locs S w => ?_)
  refine W.cs (cells' := 0) (slots' := 0) rfl rfl ?_
  exact ql_zret C S hr hlocks dX12_citesIndirectly_6 ⟨Nat.le_of_ble_eq_true rfl, Nat.le_of_ble_eq_true rfl⟩ w
def qw_X12_citesByClosure (a0 : Nat) (xp1 : Int32) (xp2 : Int32) (h : ql_H) (Q : Int32 → ql_H → Prop) : Prop :=
ql_rv h (some a0) 13 fun b1 => qw_X12_isReached b1 xp1 xp2 h (fun x1 h =>
ql_nz .boolean x1 ∧ Q x1 h)
set_option maxHeartbeats 4000000 in
set_option maxRecDepth 100000 in
theorem qm_X12_citesByClosure (l : Launch) (hl9 : l.stackTraces = false) (D : ql_D) (h0 : ql_H) (a0 : Nat) (xp1 : Int32) (xp2 : Int32) (Q : Int32 → ql_H → Prop) (X : String → ql_H → Prop) (w : qw_X12_citesByClosure a0 xp1 xp2 h0 Q) : ql_M D l yX12_citesByClosure cX12_citesByClosure 3 (some .boolean) ({ frames := 12, cells := 0, slots := 0, locals := 201 } : Room) h0 [.ref a0, .int xp1, .int xp2] (ql_rI Q) X 0 0 := by
  refine ql_ofW (by decide) (Nat.le_of_ble_eq_true rfl) ?_
  intro p e s m below meth c ls C hr hlocks hnm htab S hl
  have hl : lv_has ls 3 [(0, .ref a0), (1, .int xp1), (2, .int xp2)] := hl
  unfold qw_X12_citesByClosure at w
  refine ql_aload_n (r := (some a0)) C dX12_citesByClosure_0 rfl (lv_at hl 0 rfl) ?_
  refine lv_iload_n C.1.1 C.1.2.1 dX12_citesByClosure_1 rfl (lv_at hl 1 rfl) ?_
  refine lv_iload_n C.1.1 C.1.2.1 dX12_citesByClosure_2 rfl (lv_at hl 2 rfl) ?_
  refine ql_VI (As := [.int xp1, .int xp2]) (rest := []) C S htab hlocks hl qy_X12_isReached qi_X12_isReached qs_X12_isReached gw_1983 (ci := 13) rfl w (fun b w => qm_X12_isReached l hl9 D _ b xp1 xp2 _ _ w) rfl ⟨Nat.le_of_ble_eq_true rfl, Nat.le_of_ble_eq_true rfl⟩ ⟨rfl, rfl⟩ (by exact Nat.le_of_ble_eq_true rfl) (fun b e9 => by cases e9; rfl) dX12_citesByClosure_3 ⟨Nat.le_of_ble_eq_true rfl, Nat.le_of_ble_eq_true rfl⟩ ⟨Nat.le_of_ble_eq_true rfl, Nat.le_of_ble_eq_true rfl⟩ (fun x1 h H locs S w => ?_)
  refine W.cs (cells' := 0) (slots' := 0) rfl rfl ?_
  exact ql_zret C S hr hlocks dX12_citesByClosure_6 ⟨Nat.le_of_ble_eq_true rfl, Nat.le_of_ble_eq_true rfl⟩ w
def qw_X12_citing_34 (a0 : Nat) (Q : Int32 → ql_H → Prop) (k4 : Int32 → Int32 → Int32 → ql_H → Prop) (xl1 : Int32) (xl3 : Int32) (xs0 : Int32) (xs1 : Int32) (h : ql_H) : Prop :=
k4 xl1 (xs0 + xs1) (xl3 + (1 : Int32)) h
def qw_X12_citing_4 (a0 : Nat) (Q : Int32 → ql_H → Prop) : Nat → Int32 → Int32 → Int32 → ql_H → Prop
  | 0, _, _, _, _ => False
  | n + 1, xl1, xl2, xl3, h =>
    ql_gR h (some a0) 13 0 fun r1 =>
    ql_lI h r1 0 (0 : Int32) fun x2 =>
    if x2 ≤ xl3 then (Q xl2 h) else (ql_rv h (some a0) 13 fun b3 => qw_X12_of b3 xl1 (0 : Int32) h (fun x3 h =>
    ql_rv h (some a0) 13 fun b5 => qw_X12_cited b5 xl3 x3 h (fun x5 h =>
    if x5 < 0 then (qw_X12_citing_34 a0 Q (qw_X12_citing_4 a0 Q n) xl1 xl3 xl2 (0 : Int32) h) else (qw_X12_citing_34 a0 Q (qw_X12_citing_4 a0 Q n) xl1 xl3 xl2 (1 : Int32) h))))
def qw_X12_citing (a0 : Nat) (xp1 : Int32) (h : ql_H) (Q : Int32 → ql_H → Prop) : Prop :=
qw_X12_citing_4 a0 Q ql_FU xp1 (0 : Int32) (0 : Int32) h
set_option maxHeartbeats 4000000 in
set_option maxRecDepth 100000 in
theorem qm_X12_citing (l : Launch) (hl9 : l.stackTraces = false) (D : ql_D) (h0 : ql_H) (a0 : Nat) (xp1 : Int32) (Q : Int32 → ql_H → Prop) (X : String → ql_H → Prop) (w : qw_X12_citing a0 xp1 h0 Q) : ql_M D l yX12_citing cX12_citing 4 (some .int) ({ frames := 6, cells := 0, slots := 0, locals := 109 } : Room) h0 [.ref a0, .int xp1] (ql_rI Q) X 0 0 := by
  refine ql_ofW (by decide) (Nat.le_of_ble_eq_true rfl) ?_
  intro p e s m below meth c ls C hr hlocks hnm htab S hl
  have hl : lv_has ls 4 [(0, .ref a0), (1, .int xp1)] := hl
  have hB34 : ∀ (k4 : Int32 → Int32 → Int32 → ql_H → Prop) (hk4 : ∀ (xl1 : Int32) (xl2 : Int32) (xl3 : Int32) (h : ql_H) (H : Heap) (locs : List Loc) (ls : Array Slot), ql_S D h0 s H locs h → lv_has ls 4 [(0, .ref a0), (1, .int xl1), (2, .int xl2), (3, .int xl3)] → k4 xl1 xl2 xl3 h → W p l e ({ frames := 6, cells := 0, slots := 0, locals := 109 } : Room) s m ([.ref a0, .int xp1] : List Value).toArray below meth c H locs 0 0 (vx_MQ below (ql_Q D h0 (ql_rI Q)) (ql_X D h0 X) ([.ref a0, .int xp1] : List Value).toArray s 0 0 (ql_A h0)) (F0 m 4 ls [])) , ∀ (xl1 : Int32) (xl3 : Int32) (xs0 : Int32) (xs1 : Int32) (h : ql_H) (H : Heap) (locs : List Loc) (ls : Array Slot), ql_S D h0 s H locs h → lv_has ls 4 [(0, .ref a0), (1, .int xl1), (3, .int xl3)] → qw_X12_citing_34 a0 Q k4 xl1 xl3 xs0 xs1 h → W p l e ({ frames := 6, cells := 0, slots := 0, locals := 109 } : Room) s m ([.ref a0, .int xp1] : List Value).toArray below meth c H locs 0 0 (vx_MQ below (ql_Q D h0 (ql_rI Q)) (ql_X D h0 X) ([.ref a0, .int xp1] : List Value).toArray s 0 0 (ql_A h0)) (F0 m 34 ls [.int xs1, .int xs0]) := by
    intro k4 hk4 xl1 xl3 xs0 xs1 h H locs ls S hl w
    unfold qw_X12_citing_34 at w
    refine lv_iadd C.1.1 C.1.2.1 dX12_citing_34 ?_
    refine lv_istore_n (lv' := [(2, .int (xs0 + xs1)), (0, .ref a0), (1, .int xl1), (3, .int xl3)]) C.1.1 C.1.2.1 dX12_citing_35 rfl hl (by decide) rfl (fun ls hl => ?_)
    refine lv_iinc (v := (xl3 + (1 : Int32))) (lv' := [(3, .int (xl3 + (1 : Int32))), (2, .int (xs0 + xs1)), (0, .ref a0), (1, .int xl1)]) C.1.1 C.1.2.1 dX12_citing_36 hl (k := 3) rfl rfl (by decide) rfl (fun ls hl => ?_)
    refine lv_goto (tgt := 4) C.1.1 C.1.2.1 dX12_citing_39 (by decide) ?_
    exact hk4 xl1 (xs0 + xs1) (xl3 + (1 : Int32)) _ _ _ _ S (lv_sub hl [2, 3, 1, 0] rfl) w
  have hB4 : ∀ n : Nat, ∀ (xl1 : Int32) (xl2 : Int32) (xl3 : Int32) (h : ql_H) (H : Heap) (locs : List Loc) (ls : Array Slot), ql_S D h0 s H locs h → lv_has ls 4 [(0, .ref a0), (1, .int xl1), (2, .int xl2), (3, .int xl3)] → qw_X12_citing_4 a0 Q n xl1 xl2 xl3 h → W p l e ({ frames := 6, cells := 0, slots := 0, locals := 109 } : Room) s m ([.ref a0, .int xp1] : List Value).toArray below meth c H locs 0 0 (vx_MQ below (ql_Q D h0 (ql_rI Q)) (ql_X D h0 X) ([.ref a0, .int xp1] : List Value).toArray s 0 0 (ql_A h0)) (F0 m 4 ls []) := by
    intro n
    induction n with
    | zero => intro xl1 xl2 xl3 h H locs ls S hl w; rw [qw_X12_citing_4] at w; exact w.elim
    | succ n ih =>
      intro xl1 xl2 xl3 h H locs ls S hl w
      rw [qw_X12_citing_4] at w
      refine lv_iload_n C.1.1 C.1.2.1 dX12_citing_4 rfl (lv_at hl 3 rfl) ?_
      refine ql_aload_n (r := (some a0)) C dX12_citing_5 rfl (lv_at hl 0 rfl) ?_
      refine ql_getR C S qf_13_0 gw_1668 dX12_citing_6 w (fun r1 w => ?_)
      refine lv_iconst (v := (0 : Int32)) C.1.1 C.1.2.1 dX12_citing_9 (by decide) ?_
      refine ql_iald C S dX12_citing_10 w (fun x2 w => ?_)
      refine lv_icmp_ge (tgt := 42) C.1.1 C.1.2.1 dX12_citing_11 (by decide) (fun c9 => ?_) (fun c9 => ?_)
      · replace w := ql_if w c9
        refine lv_iload_n C.1.1 C.1.2.1 dX12_citing_42 rfl (lv_at hl 2 rfl) ?_
        exact ql_iret C S hr hlocks dX12_citing_43 ⟨Nat.le_of_ble_eq_true rfl, Nat.le_of_ble_eq_true rfl⟩ w
      · replace w := ql_ifn w c9
        refine lv_iload_n C.1.1 C.1.2.1 dX12_citing_14 rfl (lv_at hl 2 rfl) ?_
        refine ql_aload_n (r := (some a0)) C dX12_citing_15 rfl (lv_at hl 0 rfl) ?_
        refine lv_iload_n C.1.1 C.1.2.1 dX12_citing_16 rfl (lv_at hl 3 rfl) ?_
        refine ql_aload_n (r := (some a0)) C dX12_citing_17 rfl (lv_at hl 0 rfl) ?_
        refine lv_iload_n C.1.1 C.1.2.1 dX12_citing_18 rfl (lv_at hl 1 rfl) ?_
        refine lv_iconst (v := (0 : Int32)) C.1.1 C.1.2.1 dX12_citing_19 (by decide) ?_
        refine ql_VI (As := [.int xl1, .int (0 : Int32)]) (rest := [.int xl3, .ref a0, .int xl2]) C S htab hlocks hl qy_X12_of qi_X12_of qs_X12_of gw_1745 (ci := 13) rfl w (fun b w => qm_X12_of l hl9 D _ b xl1 (0 : Int32) _ _ w) rfl ⟨Nat.le_of_ble_eq_true rfl, Nat.le_of_ble_eq_true rfl⟩ ⟨rfl, rfl⟩ (by exact Nat.le_of_ble_eq_true rfl) (fun b e9 => by cases e9; rfl) dX12_citing_20 ⟨Nat.le_of_ble_eq_true rfl, Nat.le_of_ble_eq_true rfl⟩ ⟨Nat.le_of_ble_eq_true rfl, Nat.le_of_ble_eq_true rfl⟩ (fun x3 h H locs S w => ?_)
        refine W.cs (cells' := 0) (slots' := 0) rfl rfl ?_
        refine ql_VI (As := [.int xl3, .int x3]) (rest := [.int xl2]) C S htab hlocks hl qy_X12_cited qi_X12_cited qs_X12_cited gw_1820 (ci := 13) rfl w (fun b w => qm_X12_cited l hl9 D _ b xl3 x3 _ _ w) rfl ⟨Nat.le_of_ble_eq_true rfl, Nat.le_of_ble_eq_true rfl⟩ ⟨rfl, rfl⟩ (by exact Nat.le_of_ble_eq_true rfl) (fun b e9 => by cases e9; rfl) dX12_citing_23 ⟨Nat.le_of_ble_eq_true rfl, Nat.le_of_ble_eq_true rfl⟩ ⟨Nat.le_of_ble_eq_true rfl, Nat.le_of_ble_eq_true rfl⟩ (fun x5 h H locs S w => ?_)
        refine W.cs (cells' := 0) (slots' := 0) rfl rfl ?_
        refine lv_if_lt (tgt := 33) C.1.1 C.1.2.1 dX12_citing_26 (by decide) (fun c9 => ?_) (fun c9 => ?_)
        · replace w := ql_if w c9
          refine lv_iconst (v := (0 : Int32)) C.1.1 C.1.2.1 dX12_citing_33 (by decide) ?_
          exact hB34 (qw_X12_citing_4 a0 Q n) ih xl1 xl3 xl2 (0 : Int32) _ _ _ _ S (lv_sub hl [0, 1, 3] rfl) w
        · replace w := ql_ifn w c9
          refine lv_iconst (v := (1 : Int32)) C.1.1 C.1.2.1 dX12_citing_29 (by decide) ?_
          refine lv_goto (tgt := 34) C.1.1 C.1.2.1 dX12_citing_30 (by decide) ?_
          exact hB34 (qw_X12_citing_4 a0 Q n) ih xl1 xl3 xl2 (1 : Int32) _ _ _ _ S (lv_sub hl [0, 1, 3] rfl) w
  unfold qw_X12_citing at w
  refine lv_iconst (v := (0 : Int32)) C.1.1 C.1.2.1 dX12_citing_0 (by decide) ?_
  refine lv_istore_n (lv' := [(2, .int (0 : Int32)), (0, .ref a0), (1, .int xp1)]) C.1.1 C.1.2.1 dX12_citing_1 rfl hl (by decide) rfl (fun ls hl => ?_)
  refine lv_iconst (v := (0 : Int32)) C.1.1 C.1.2.1 dX12_citing_2 (by decide) ?_
  refine lv_istore_n (lv' := [(3, .int (0 : Int32)), (2, .int (0 : Int32)), (0, .ref a0), (1, .int xp1)]) C.1.1 C.1.2.1 dX12_citing_3 rfl hl (by decide) rfl (fun ls hl => ?_)
  exact hB4 ql_FU xp1 (0 : Int32) (0 : Int32) _ _ _ _ S (lv_sub hl [2, 3, 1, 0] rfl) w
def qw_X12_clauseByCites_78 (a0 : Nat) (Q : Int32 → ql_H → Prop) (k17 : Int32 → Int32 → Int32 → Int32 → ql_H → Prop) (xl1 : Int32) (xl2 : Int32) (xl4 : Int32) (xs0 : Int32) (xs1 : Int32) (h : ql_H) : Prop :=
k17 xl1 xl2 (xs0 + xs1) (xl4 + (1 : Int32)) h
def qw_X12_clauseByCites_73 (a0 : Nat) (Q : Int32 → ql_H → Prop) (k17 : Int32 → Int32 → Int32 → Int32 → ql_H → Prop) (xl1 : Int32) (xl2 : Int32) (xl4 : Int32) (xs0 : Int32) (h : ql_H) : Prop :=
qw_X12_clauseByCites_78 a0 Q k17 xl1 xl2 xl4 xs0 (1 : Int32) h
def qw_X12_clauseByCites_77 (a0 : Nat) (Q : Int32 → ql_H → Prop) (k17 : Int32 → Int32 → Int32 → Int32 → ql_H → Prop) (xl1 : Int32) (xl2 : Int32) (xl4 : Int32) (xs0 : Int32) (h : ql_H) : Prop :=
qw_X12_clauseByCites_78 a0 Q k17 xl1 xl2 xl4 xs0 (0 : Int32) h
def qw_X12_clauseByCites_17 (a0 : Nat) (Q : Int32 → ql_H → Prop) (k2 : Int32 → Int32 → ql_H → Prop) : Nat → Int32 → Int32 → Int32 → Int32 → ql_H → Prop
  | 0, _, _, _, _, _ => False
  | n + 1, xl1, xl2, xl3, xl4, h =>
    ql_gR h (some a0) 13 0 fun r1 =>
    ql_lI h r1 0 (0 : Int32) fun x2 =>
    if x2 ≤ xl4 then (if xl3 = xl1 then (ql_pV h (some a0) 13 7 (.int (0 : Int32)) fun h =>
    ql_rv h (some a0) 13 fun b3 => qw_X12_of b3 xl2 (0 : Int32) h (fun x3 h =>
    Q x3 h)) else (k2 xl1 (xl2 + (1 : Int32)) h)) else (ql_rv h (some a0) 13 fun b5 => qw_X12_citing b5 xl4 h (fun x5 h =>
    ql_rv h (some a0) 13 fun b7 => qw_X12_citing b7 xl2 h (fun x7 h =>
    if x7 < x5 then (qw_X12_clauseByCites_73 a0 Q (qw_X12_clauseByCites_17 a0 Q k2 n) xl1 xl2 xl4 xl3 h) else (ql_rv h (some a0) 13 fun b9 => qw_X12_citing b9 xl4 h (fun x9 h =>
    ql_rv h (some a0) 13 fun b11 => qw_X12_citing b11 xl2 h (fun x11 h =>
    if x9 = x11 then (ql_rv h (some a0) 13 fun b13 => qw_X12_of b13 xl4 (1 : Int32) h (fun x13 h =>
    ql_rv h (some a0) 13 fun b15 => qw_X12_of b15 xl2 (1 : Int32) h (fun x15 h =>
    if x15 ≤ x13 then (qw_X12_clauseByCites_77 a0 Q (qw_X12_clauseByCites_17 a0 Q k2 n) xl1 xl2 xl4 xl3 h) else (qw_X12_clauseByCites_73 a0 Q (qw_X12_clauseByCites_17 a0 Q k2 n) xl1 xl2 xl4 xl3 h)))) else (qw_X12_clauseByCites_77 a0 Q (qw_X12_clauseByCites_17 a0 Q k2 n) xl1 xl2 xl4 xl3 h)))))))
def qw_X12_clauseByCites_2 (a0 : Nat) (Q : Int32 → ql_H → Prop) : Nat → Int32 → Int32 → ql_H → Prop
  | 0, _, _, _ => False
  | n + 1, xl1, xl2, h =>
    ql_gR h (some a0) 13 0 fun r17 =>
    ql_lI h r17 0 (0 : Int32) fun x18 =>
    if x18 ≤ xl2 then (ql_pV h (some a0) 13 7 (.int (1 : Int32)) fun h =>
    Q (0 : Int32) h) else (qw_X12_clauseByCites_17 a0 Q (qw_X12_clauseByCites_2 a0 Q n) ql_FU xl1 xl2 (0 : Int32) (0 : Int32) h)
def qw_X12_clauseByCites (a0 : Nat) (xp1 : Int32) (h : ql_H) (Q : Int32 → ql_H → Prop) : Prop :=
qw_X12_clauseByCites_2 a0 Q ql_FU xp1 (0 : Int32) h
set_option maxHeartbeats 4000000 in
set_option maxRecDepth 100000 in
theorem qm_X12_clauseByCites (l : Launch) (hl9 : l.stackTraces = false) (D : ql_D) (h0 : ql_H) (a0 : Nat) (xp1 : Int32) (Q : Int32 → ql_H → Prop) (X : String → ql_H → Prop) (w : qw_X12_clauseByCites a0 xp1 h0 Q) : ql_M D l yX12_clauseByCites cX12_clauseByCites 5 (some .int) ({ frames := 8, cells := 0, slots := 0, locals := 140 } : Room) h0 [.ref a0, .int xp1] (ql_rI Q) X 0 0 := by
  refine ql_ofW (by decide) (Nat.le_of_ble_eq_true rfl) ?_
  intro p e s m below meth c ls C hr hlocks hnm htab S hl
  have hl : lv_has ls 5 [(0, .ref a0), (1, .int xp1)] := hl
  have hB78 : ∀ (k17 : Int32 → Int32 → Int32 → Int32 → ql_H → Prop) (hk17 : ∀ (xl1 : Int32) (xl2 : Int32) (xl3 : Int32) (xl4 : Int32) (h : ql_H) (H : Heap) (locs : List Loc) (ls : Array Slot), ql_S D h0 s H locs h → lv_has ls 5 [(0, .ref a0), (1, .int xl1), (2, .int xl2), (3, .int xl3), (4, .int xl4)] → k17 xl1 xl2 xl3 xl4 h → W p l e ({ frames := 8, cells := 0, slots := 0, locals := 140 } : Room) s m ([.ref a0, .int xp1] : List Value).toArray below meth c H locs 0 0 (vx_MQ below (ql_Q D h0 (ql_rI Q)) (ql_X D h0 X) ([.ref a0, .int xp1] : List Value).toArray s 0 0 (ql_A h0)) (F0 m 17 ls [])) , ∀ (xl1 : Int32) (xl2 : Int32) (xl4 : Int32) (xs0 : Int32) (xs1 : Int32) (h : ql_H) (H : Heap) (locs : List Loc) (ls : Array Slot), ql_S D h0 s H locs h → lv_has ls 5 [(0, .ref a0), (1, .int xl1), (2, .int xl2), (4, .int xl4)] → qw_X12_clauseByCites_78 a0 Q k17 xl1 xl2 xl4 xs0 xs1 h → W p l e ({ frames := 8, cells := 0, slots := 0, locals := 140 } : Room) s m ([.ref a0, .int xp1] : List Value).toArray below meth c H locs 0 0 (vx_MQ below (ql_Q D h0 (ql_rI Q)) (ql_X D h0 X) ([.ref a0, .int xp1] : List Value).toArray s 0 0 (ql_A h0)) (F0 m 78 ls [.int xs1, .int xs0]) := by
    intro k17 hk17 xl1 xl2 xl4 xs0 xs1 h H locs ls S hl w
    unfold qw_X12_clauseByCites_78 at w
    refine lv_iadd C.1.1 C.1.2.1 dX12_clauseByCites_78 ?_
    refine lv_istore_n (lv' := [(3, .int (xs0 + xs1)), (0, .ref a0), (1, .int xl1), (2, .int xl2), (4, .int xl4)]) C.1.1 C.1.2.1 dX12_clauseByCites_79 rfl hl (by decide) rfl (fun ls hl => ?_)
    refine lv_iinc (v := (xl4 + (1 : Int32))) (lv' := [(4, .int (xl4 + (1 : Int32))), (3, .int (xs0 + xs1)), (0, .ref a0), (1, .int xl1), (2, .int xl2)]) C.1.1 C.1.2.1 dX12_clauseByCites_80 hl (k := 4) rfl rfl (by decide) rfl (fun ls hl => ?_)
    refine lv_goto (tgt := 17) C.1.1 C.1.2.1 dX12_clauseByCites_83 (by decide) ?_
    exact hk17 xl1 xl2 (xs0 + xs1) (xl4 + (1 : Int32)) _ _ _ _ S (lv_sub hl [2, 3, 4, 1, 0] rfl) w
  have hB73 : ∀ (k17 : Int32 → Int32 → Int32 → Int32 → ql_H → Prop) (hk17 : ∀ (xl1 : Int32) (xl2 : Int32) (xl3 : Int32) (xl4 : Int32) (h : ql_H) (H : Heap) (locs : List Loc) (ls : Array Slot), ql_S D h0 s H locs h → lv_has ls 5 [(0, .ref a0), (1, .int xl1), (2, .int xl2), (3, .int xl3), (4, .int xl4)] → k17 xl1 xl2 xl3 xl4 h → W p l e ({ frames := 8, cells := 0, slots := 0, locals := 140 } : Room) s m ([.ref a0, .int xp1] : List Value).toArray below meth c H locs 0 0 (vx_MQ below (ql_Q D h0 (ql_rI Q)) (ql_X D h0 X) ([.ref a0, .int xp1] : List Value).toArray s 0 0 (ql_A h0)) (F0 m 17 ls [])) , ∀ (xl1 : Int32) (xl2 : Int32) (xl4 : Int32) (xs0 : Int32) (h : ql_H) (H : Heap) (locs : List Loc) (ls : Array Slot), ql_S D h0 s H locs h → lv_has ls 5 [(0, .ref a0), (1, .int xl1), (2, .int xl2), (4, .int xl4)] → qw_X12_clauseByCites_73 a0 Q k17 xl1 xl2 xl4 xs0 h → W p l e ({ frames := 8, cells := 0, slots := 0, locals := 140 } : Room) s m ([.ref a0, .int xp1] : List Value).toArray below meth c H locs 0 0 (vx_MQ below (ql_Q D h0 (ql_rI Q)) (ql_X D h0 X) ([.ref a0, .int xp1] : List Value).toArray s 0 0 (ql_A h0)) (F0 m 73 ls [.int xs0]) := by
    intro k17 hk17 xl1 xl2 xl4 xs0 h H locs ls S hl w
    unfold qw_X12_clauseByCites_73 at w
    refine lv_iconst (v := (1 : Int32)) C.1.1 C.1.2.1 dX12_clauseByCites_73 (by decide) ?_
    refine lv_goto (tgt := 78) C.1.1 C.1.2.1 dX12_clauseByCites_74 (by decide) ?_
    exact hB78 k17 hk17 xl1 xl2 xl4 xs0 (1 : Int32) _ _ _ _ S (lv_sub hl [0, 1, 2, 3] rfl) w
  have hB77 : ∀ (k17 : Int32 → Int32 → Int32 → Int32 → ql_H → Prop) (hk17 : ∀ (xl1 : Int32) (xl2 : Int32) (xl3 : Int32) (xl4 : Int32) (h : ql_H) (H : Heap) (locs : List Loc) (ls : Array Slot), ql_S D h0 s H locs h → lv_has ls 5 [(0, .ref a0), (1, .int xl1), (2, .int xl2), (3, .int xl3), (4, .int xl4)] → k17 xl1 xl2 xl3 xl4 h → W p l e ({ frames := 8, cells := 0, slots := 0, locals := 140 } : Room) s m ([.ref a0, .int xp1] : List Value).toArray below meth c H locs 0 0 (vx_MQ below (ql_Q D h0 (ql_rI Q)) (ql_X D h0 X) ([.ref a0, .int xp1] : List Value).toArray s 0 0 (ql_A h0)) (F0 m 17 ls [])) , ∀ (xl1 : Int32) (xl2 : Int32) (xl4 : Int32) (xs0 : Int32) (h : ql_H) (H : Heap) (locs : List Loc) (ls : Array Slot), ql_S D h0 s H locs h → lv_has ls 5 [(0, .ref a0), (1, .int xl1), (2, .int xl2), (4, .int xl4)] → qw_X12_clauseByCites_77 a0 Q k17 xl1 xl2 xl4 xs0 h → W p l e ({ frames := 8, cells := 0, slots := 0, locals := 140 } : Room) s m ([.ref a0, .int xp1] : List Value).toArray below meth c H locs 0 0 (vx_MQ below (ql_Q D h0 (ql_rI Q)) (ql_X D h0 X) ([.ref a0, .int xp1] : List Value).toArray s 0 0 (ql_A h0)) (F0 m 77 ls [.int xs0]) := by
    intro k17 hk17 xl1 xl2 xl4 xs0 h H locs ls S hl w
    unfold qw_X12_clauseByCites_77 at w
    refine lv_iconst (v := (0 : Int32)) C.1.1 C.1.2.1 dX12_clauseByCites_77 (by decide) ?_
    exact hB78 k17 hk17 xl1 xl2 xl4 xs0 (0 : Int32) _ _ _ _ S (lv_sub hl [0, 1, 2, 3] rfl) w
  have hB17 : ∀ (k2 : Int32 → Int32 → ql_H → Prop) (hk2 : ∀ (xl1 : Int32) (xl2 : Int32) (h : ql_H) (H : Heap) (locs : List Loc) (ls : Array Slot), ql_S D h0 s H locs h → lv_has ls 5 [(0, .ref a0), (1, .int xl1), (2, .int xl2)] → k2 xl1 xl2 h → W p l e ({ frames := 8, cells := 0, slots := 0, locals := 140 } : Room) s m ([.ref a0, .int xp1] : List Value).toArray below meth c H locs 0 0 (vx_MQ below (ql_Q D h0 (ql_rI Q)) (ql_X D h0 X) ([.ref a0, .int xp1] : List Value).toArray s 0 0 (ql_A h0)) (F0 m 2 ls [])) , ∀ n : Nat, ∀ (xl1 : Int32) (xl2 : Int32) (xl3 : Int32) (xl4 : Int32) (h : ql_H) (H : Heap) (locs : List Loc) (ls : Array Slot), ql_S D h0 s H locs h → lv_has ls 5 [(0, .ref a0), (1, .int xl1), (2, .int xl2), (3, .int xl3), (4, .int xl4)] → qw_X12_clauseByCites_17 a0 Q k2 n xl1 xl2 xl3 xl4 h → W p l e ({ frames := 8, cells := 0, slots := 0, locals := 140 } : Room) s m ([.ref a0, .int xp1] : List Value).toArray below meth c H locs 0 0 (vx_MQ below (ql_Q D h0 (ql_rI Q)) (ql_X D h0 X) ([.ref a0, .int xp1] : List Value).toArray s 0 0 (ql_A h0)) (F0 m 17 ls []) := by
    intro k2 hk2 n
    induction n with
    | zero => intro xl1 xl2 xl3 xl4 h H locs ls S hl w; rw [qw_X12_clauseByCites_17] at w; exact w.elim
    | succ n ih =>
      intro xl1 xl2 xl3 xl4 h H locs ls S hl w
      rw [qw_X12_clauseByCites_17] at w
      refine lv_iload C.1.1 C.1.2.1 dX12_clauseByCites_17 (lv_at hl 4 rfl) ?_
      refine ql_aload_n (r := (some a0)) C dX12_clauseByCites_19 rfl (lv_at hl 0 rfl) ?_
      refine ql_getR C S qf_13_0 gw_1668 dX12_clauseByCites_20 w (fun r1 w => ?_)
      refine lv_iconst (v := (0 : Int32)) C.1.1 C.1.2.1 dX12_clauseByCites_23 (by decide) ?_
      refine ql_iald C S dX12_clauseByCites_24 w (fun x2 w => ?_)
      refine lv_icmp_ge (tgt := 86) C.1.1 C.1.2.1 dX12_clauseByCites_25 (by decide) (fun c9 => ?_) (fun c9 => ?_)
      · replace w := ql_if w c9
        refine lv_iload_n C.1.1 C.1.2.1 dX12_clauseByCites_86 rfl (lv_at hl 3 rfl) ?_
        refine lv_iload_n C.1.1 C.1.2.1 dX12_clauseByCites_87 rfl (lv_at hl 1 rfl) ?_
        refine lv_icmp_eq (tgt := 94) C.1.1 C.1.2.1 dX12_clauseByCites_88 (by decide) (fun c9 => ?_) (fun c9 => ?_)
        · replace w := ql_if w c9
          refine ql_aload_n (r := (some a0)) C dX12_clauseByCites_94 rfl (lv_at hl 0 rfl) ?_
          refine lv_iconst (v := (0 : Int32)) C.1.1 C.1.2.1 dX12_clauseByCites_95 (by decide) ?_
          refine ql_putV C S qf_13_7 gw_1675 (tyX12) tyX12_ok nmX12 rfl dX12_clauseByCites_96 (v := .int (0 : Int32)) rfl rfl w (fun h H locs S w => ?_)
          refine ql_aload_n (r := (some a0)) C dX12_clauseByCites_99 rfl (lv_at hl 0 rfl) ?_
          refine lv_iload_n C.1.1 C.1.2.1 dX12_clauseByCites_100 rfl (lv_at hl 2 rfl) ?_
          refine lv_iconst (v := (0 : Int32)) C.1.1 C.1.2.1 dX12_clauseByCites_101 (by decide) ?_
          refine ql_VI (As := [.int xl2, .int (0 : Int32)]) (rest := []) C S htab hlocks hl qy_X12_of qi_X12_of qs_X12_of gw_1745 (ci := 13) rfl w (fun b w => qm_X12_of l hl9 D _ b xl2 (0 : Int32) _ _ w) rfl ⟨Nat.le_of_ble_eq_true rfl, Nat.le_of_ble_eq_true rfl⟩ ⟨rfl, rfl⟩ (by exact Nat.le_of_ble_eq_true rfl) (fun b e9 => by cases e9; rfl) dX12_clauseByCites_102 ⟨Nat.le_of_ble_eq_true rfl, Nat.le_of_ble_eq_true rfl⟩ ⟨Nat.le_of_ble_eq_true rfl, Nat.le_of_ble_eq_true rfl⟩ (fun x3 h H locs S w => ?_)
          refine W.cs (cells' := 0) (slots' := 0) rfl rfl ?_
          exact ql_iret C S hr hlocks dX12_clauseByCites_105 ⟨Nat.le_of_ble_eq_true rfl, Nat.le_of_ble_eq_true rfl⟩ w
        · replace w := ql_ifn w c9
          refine lv_goto (tgt := 106) C.1.1 C.1.2.1 dX12_clauseByCites_91 (by decide) ?_
          refine lv_iinc (v := (xl2 + (1 : Int32))) (lv' := [(2, .int (xl2 + (1 : Int32))), (0, .ref a0), (1, .int xl1), (3, .int xl3), (4, .int xl4)]) C.1.1 C.1.2.1 dX12_clauseByCites_106 hl (k := 2) rfl rfl (by decide) rfl (fun ls hl => ?_)
          refine lv_goto (tgt := 2) C.1.1 C.1.2.1 dX12_clauseByCites_109 (by decide) ?_
          exact hk2 xl1 (xl2 + (1 : Int32)) _ _ _ _ S (lv_sub hl [1, 2, 0] rfl) w
      · replace w := ql_ifn w c9
        refine lv_iload_n C.1.1 C.1.2.1 dX12_clauseByCites_28 rfl (lv_at hl 3 rfl) ?_
        refine ql_aload_n (r := (some a0)) C dX12_clauseByCites_29 rfl (lv_at hl 0 rfl) ?_
        refine lv_iload C.1.1 C.1.2.1 dX12_clauseByCites_30 (lv_at hl 4 rfl) ?_
        refine ql_VI (As := [.int xl4]) (rest := [.int xl3]) C S htab hlocks hl qy_X12_citing qi_X12_citing qs_X12_citing gw_2003 (ci := 13) rfl w (fun b w => qm_X12_citing l hl9 D _ b xl4 _ _ w) rfl ⟨Nat.le_of_ble_eq_true rfl, Nat.le_of_ble_eq_true rfl⟩ ⟨rfl, rfl⟩ (by exact Nat.le_of_ble_eq_true rfl) (fun b e9 => by cases e9; rfl) dX12_clauseByCites_32 ⟨Nat.le_of_ble_eq_true rfl, Nat.le_of_ble_eq_true rfl⟩ ⟨Nat.le_of_ble_eq_true rfl, Nat.le_of_ble_eq_true rfl⟩ (fun x5 h H locs S w => ?_)
        refine W.cs (cells' := 0) (slots' := 0) rfl rfl ?_
        refine ql_aload_n (r := (some a0)) C dX12_clauseByCites_35 rfl (lv_at hl 0 rfl) ?_
        refine lv_iload_n C.1.1 C.1.2.1 dX12_clauseByCites_36 rfl (lv_at hl 2 rfl) ?_
        refine ql_VI (As := [.int xl2]) (rest := [.int x5, .int xl3]) C S htab hlocks hl qy_X12_citing qi_X12_citing qs_X12_citing gw_2003 (ci := 13) rfl w (fun b w => qm_X12_citing l hl9 D _ b xl2 _ _ w) rfl ⟨Nat.le_of_ble_eq_true rfl, Nat.le_of_ble_eq_true rfl⟩ ⟨rfl, rfl⟩ (by exact Nat.le_of_ble_eq_true rfl) (fun b e9 => by cases e9; rfl) dX12_clauseByCites_37 ⟨Nat.le_of_ble_eq_true rfl, Nat.le_of_ble_eq_true rfl⟩ ⟨Nat.le_of_ble_eq_true rfl, Nat.le_of_ble_eq_true rfl⟩ (fun x7 h H locs S w => ?_)
        refine W.cs (cells' := 0) (slots' := 0) rfl rfl ?_
        refine lv_icmp_gt (tgt := 73) C.1.1 C.1.2.1 dX12_clauseByCites_40 (by decide) (fun c9 => ?_) (fun c9 => ?_)
        · replace w := ql_if w c9
          exact hB73 (qw_X12_clauseByCites_17 a0 Q k2 n) ih xl1 xl2 xl4 xl3 _ _ _ _ S (lv_sub hl [0, 1, 2, 4] rfl) w
        · replace w := ql_ifn w c9
          refine ql_aload_n (r := (some a0)) C dX12_clauseByCites_43 rfl (lv_at hl 0 rfl) ?_
          refine lv_iload C.1.1 C.1.2.1 dX12_clauseByCites_44 (lv_at hl 4 rfl) ?_
          refine ql_VI (As := [.int xl4]) (rest := [.int xl3]) C S htab hlocks hl qy_X12_citing qi_X12_citing qs_X12_citing gw_2003 (ci := 13) rfl w (fun b w => qm_X12_citing l hl9 D _ b xl4 _ _ w) rfl ⟨Nat.le_of_ble_eq_true rfl, Nat.le_of_ble_eq_true rfl⟩ ⟨rfl, rfl⟩ (by exact Nat.le_of_ble_eq_true rfl) (fun b e9 => by cases e9; rfl) dX12_clauseByCites_46 ⟨Nat.le_of_ble_eq_true rfl, Nat.le_of_ble_eq_true rfl⟩ ⟨Nat.le_of_ble_eq_true rfl, Nat.le_of_ble_eq_true rfl⟩ (fun x9 h H locs S w => ?_)
          refine W.cs (cells' := 0) (slots' := 0) rfl rfl ?_
          refine ql_aload_n (r := (some a0)) C dX12_clauseByCites_49 rfl (lv_at hl 0 rfl) ?_
          refine lv_iload_n C.1.1 C.1.2.1 dX12_clauseByCites_50 rfl (lv_at hl 2 rfl) ?_
          refine ql_VI (As := [.int xl2]) (rest := [.int x9, .int xl3]) C S htab hlocks hl qy_X12_citing qi_X12_citing qs_X12_citing gw_2003 (ci := 13) rfl w (fun b w => qm_X12_citing l hl9 D _ b xl2 _ _ w) rfl ⟨Nat.le_of_ble_eq_true rfl, Nat.le_of_ble_eq_true rfl⟩ ⟨rfl, rfl⟩ (by exact Nat.le_of_ble_eq_true rfl) (fun b e9 => by cases e9; rfl) dX12_clauseByCites_51 ⟨Nat.le_of_ble_eq_true rfl, Nat.le_of_ble_eq_true rfl⟩ ⟨Nat.le_of_ble_eq_true rfl, Nat.le_of_ble_eq_true rfl⟩ (fun x11 h H locs S w => ?_)
          refine W.cs (cells' := 0) (slots' := 0) rfl rfl ?_
          refine lv_icmp_ne (tgt := 77) C.1.1 C.1.2.1 dX12_clauseByCites_54 (by decide) (fun c9 => ?_) (fun c9 => ?_)
          · replace w := ql_ifn w c9
            exact hB77 (qw_X12_clauseByCites_17 a0 Q k2 n) ih xl1 xl2 xl4 xl3 _ _ _ _ S (lv_sub hl [0, 1, 2, 4] rfl) w
          · replace w := ql_if w c9
            refine ql_aload_n (r := (some a0)) C dX12_clauseByCites_57 rfl (lv_at hl 0 rfl) ?_
            refine lv_iload C.1.1 C.1.2.1 dX12_clauseByCites_58 (lv_at hl 4 rfl) ?_
            refine lv_iconst (v := (1 : Int32)) C.1.1 C.1.2.1 dX12_clauseByCites_60 (by decide) ?_
            refine ql_VI (As := [.int xl4, .int (1 : Int32)]) (rest := [.int xl3]) C S htab hlocks hl qy_X12_of qi_X12_of qs_X12_of gw_1745 (ci := 13) rfl w (fun b w => qm_X12_of l hl9 D _ b xl4 (1 : Int32) _ _ w) rfl ⟨Nat.le_of_ble_eq_true rfl, Nat.le_of_ble_eq_true rfl⟩ ⟨rfl, rfl⟩ (by exact Nat.le_of_ble_eq_true rfl) (fun b e9 => by cases e9; rfl) dX12_clauseByCites_61 ⟨Nat.le_of_ble_eq_true rfl, Nat.le_of_ble_eq_true rfl⟩ ⟨Nat.le_of_ble_eq_true rfl, Nat.le_of_ble_eq_true rfl⟩ (fun x13 h H locs S w => ?_)
            refine W.cs (cells' := 0) (slots' := 0) rfl rfl ?_
            refine ql_aload_n (r := (some a0)) C dX12_clauseByCites_64 rfl (lv_at hl 0 rfl) ?_
            refine lv_iload_n C.1.1 C.1.2.1 dX12_clauseByCites_65 rfl (lv_at hl 2 rfl) ?_
            refine lv_iconst (v := (1 : Int32)) C.1.1 C.1.2.1 dX12_clauseByCites_66 (by decide) ?_
            refine ql_VI (As := [.int xl2, .int (1 : Int32)]) (rest := [.int x13, .int xl3]) C S htab hlocks hl qy_X12_of qi_X12_of qs_X12_of gw_1745 (ci := 13) rfl w (fun b w => qm_X12_of l hl9 D _ b xl2 (1 : Int32) _ _ w) rfl ⟨Nat.le_of_ble_eq_true rfl, Nat.le_of_ble_eq_true rfl⟩ ⟨rfl, rfl⟩ (by exact Nat.le_of_ble_eq_true rfl) (fun b e9 => by cases e9; rfl) dX12_clauseByCites_67 ⟨Nat.le_of_ble_eq_true rfl, Nat.le_of_ble_eq_true rfl⟩ ⟨Nat.le_of_ble_eq_true rfl, Nat.le_of_ble_eq_true rfl⟩ (fun x15 h H locs S w => ?_)
            refine W.cs (cells' := 0) (slots' := 0) rfl rfl ?_
            refine lv_icmp_ge (tgt := 77) C.1.1 C.1.2.1 dX12_clauseByCites_70 (by decide) (fun c9 => ?_) (fun c9 => ?_)
            · replace w := ql_if w c9
              exact hB77 (qw_X12_clauseByCites_17 a0 Q k2 n) ih xl1 xl2 xl4 xl3 _ _ _ _ S (lv_sub hl [0, 1, 2, 4] rfl) w
            · replace w := ql_ifn w c9
              exact hB73 (qw_X12_clauseByCites_17 a0 Q k2 n) ih xl1 xl2 xl4 xl3 _ _ _ _ S (lv_sub hl [0, 1, 2, 4] rfl) w
  have hB2 : ∀ n : Nat, ∀ (xl1 : Int32) (xl2 : Int32) (h : ql_H) (H : Heap) (locs : List Loc) (ls : Array Slot), ql_S D h0 s H locs h → lv_has ls 5 [(0, .ref a0), (1, .int xl1), (2, .int xl2)] → qw_X12_clauseByCites_2 a0 Q n xl1 xl2 h → W p l e ({ frames := 8, cells := 0, slots := 0, locals := 140 } : Room) s m ([.ref a0, .int xp1] : List Value).toArray below meth c H locs 0 0 (vx_MQ below (ql_Q D h0 (ql_rI Q)) (ql_X D h0 X) ([.ref a0, .int xp1] : List Value).toArray s 0 0 (ql_A h0)) (F0 m 2 ls []) := by
    intro n
    induction n with
    | zero => intro xl1 xl2 h H locs ls S hl w; rw [qw_X12_clauseByCites_2] at w; exact w.elim
    | succ n ih =>
      intro xl1 xl2 h H locs ls S hl w
      rw [qw_X12_clauseByCites_2] at w
      refine lv_iload_n C.1.1 C.1.2.1 dX12_clauseByCites_2 rfl (lv_at hl 2 rfl) ?_
      refine ql_aload_n (r := (some a0)) C dX12_clauseByCites_3 rfl (lv_at hl 0 rfl) ?_
      refine ql_getR C S qf_13_0 gw_1668 dX12_clauseByCites_4 w (fun r17 w => ?_)
      refine lv_iconst (v := (0 : Int32)) C.1.1 C.1.2.1 dX12_clauseByCites_7 (by decide) ?_
      refine ql_iald C S dX12_clauseByCites_8 w (fun x18 w => ?_)
      refine lv_icmp_ge (tgt := 112) C.1.1 C.1.2.1 dX12_clauseByCites_9 (by decide) (fun c9 => ?_) (fun c9 => ?_)
      · replace w := ql_if w c9
        refine ql_aload_n (r := (some a0)) C dX12_clauseByCites_112 rfl (lv_at hl 0 rfl) ?_
        refine lv_iconst (v := (1 : Int32)) C.1.1 C.1.2.1 dX12_clauseByCites_113 (by decide) ?_
        refine ql_putV C S qf_13_7 gw_1675 (tyX12) tyX12_ok nmX12 rfl dX12_clauseByCites_114 (v := .int (1 : Int32)) rfl rfl w (fun h H locs S w => ?_)
        refine lv_iconst (v := (0 : Int32)) C.1.1 C.1.2.1 dX12_clauseByCites_117 (by decide) ?_
        exact ql_iret C S hr hlocks dX12_clauseByCites_118 ⟨Nat.le_of_ble_eq_true rfl, Nat.le_of_ble_eq_true rfl⟩ w
      · replace w := ql_ifn w c9
        refine lv_iconst (v := (0 : Int32)) C.1.1 C.1.2.1 dX12_clauseByCites_12 (by decide) ?_
        refine lv_istore_n (lv' := [(3, .int (0 : Int32)), (0, .ref a0), (1, .int xl1), (2, .int xl2)]) C.1.1 C.1.2.1 dX12_clauseByCites_13 rfl hl (by decide) rfl (fun ls hl => ?_)
        refine lv_iconst (v := (0 : Int32)) C.1.1 C.1.2.1 dX12_clauseByCites_14 (by decide) ?_
        refine lv_istore (lv' := [(4, .int (0 : Int32)), (3, .int (0 : Int32)), (0, .ref a0), (1, .int xl1), (2, .int xl2)]) C.1.1 C.1.2.1 dX12_clauseByCites_15 hl (by decide) rfl (fun ls hl => ?_)
        exact hB17 (qw_X12_clauseByCites_2 a0 Q n) ih ql_FU xl1 xl2 (0 : Int32) (0 : Int32) _ _ _ _ S (lv_sub hl [2, 3, 4, 1, 0] rfl) w
  unfold qw_X12_clauseByCites at w
  refine lv_iconst (v := (0 : Int32)) C.1.1 C.1.2.1 dX12_clauseByCites_0 (by decide) ?_
  refine lv_istore_n (lv' := [(2, .int (0 : Int32)), (0, .ref a0), (1, .int xp1)]) C.1.1 C.1.2.1 dX12_clauseByCites_1 rfl hl (by decide) rfl (fun ls hl => ?_)
  exact hB2 ql_FU xp1 (0 : Int32) _ _ _ _ S (lv_sub hl [1, 2, 0] rfl) w
def qw_X12_addedTotal (a0 : Nat) (h : ql_H) (Q : Int32 → ql_H → Prop) : Prop :=
ql_pV h (some a0) 13 7 (.int (0 : Int32)) fun h =>
ql_gR h (some a0) 13 0 fun r1 =>
ql_lI h r1 0 (1 : Int32) fun x2 =>
Q x2 h
set_option maxHeartbeats 4000000 in
set_option maxRecDepth 100000 in
theorem qm_X12_addedTotal (l : Launch) (hl9 : l.stackTraces = false) (D : ql_D) (h0 : ql_H) (a0 : Nat) (Q : Int32 → ql_H → Prop) (X : String → ql_H → Prop) (w : qw_X12_addedTotal a0 h0 Q) : ql_M D l yX12_addedTotal cX12_addedTotal 1 (some .int) ({ frames := 2, cells := 0, slots := 0, locals := 48 } : Room) h0 [.ref a0] (ql_rI Q) X 0 0 := by
  refine ql_ofW (by decide) (Nat.le_of_ble_eq_true rfl) ?_
  intro p e s m below meth c ls C hr hlocks hnm htab S hl
  have hl : lv_has ls 1 [(0, .ref a0)] := hl
  unfold qw_X12_addedTotal at w
  refine ql_aload_n (r := (some a0)) C dX12_addedTotal_0 rfl (lv_at hl 0 rfl) ?_
  refine lv_iconst (v := (0 : Int32)) C.1.1 C.1.2.1 dX12_addedTotal_1 (by decide) ?_
  refine ql_putV C S qf_13_7 gw_1675 (tyX12) tyX12_ok nmX12 rfl dX12_addedTotal_2 (v := .int (0 : Int32)) rfl rfl w (fun h H locs S w => ?_)
  refine ql_aload_n (r := (some a0)) C dX12_addedTotal_5 rfl (lv_at hl 0 rfl) ?_
  refine ql_getR C S qf_13_0 gw_1668 dX12_addedTotal_6 w (fun r1 w => ?_)
  refine lv_iconst (v := (1 : Int32)) C.1.1 C.1.2.1 dX12_addedTotal_9 (by decide) ?_
  refine ql_iald C S dX12_addedTotal_10 w (fun x2 w => ?_)
  exact ql_iret C S hr hlocks dX12_addedTotal_11 ⟨Nat.le_of_ble_eq_true rfl, Nat.le_of_ble_eq_true rfl⟩ w
def qw_X12_amendmentTotal (a0 : Nat) (h : ql_H) (Q : Int32 → ql_H → Prop) : Prop :=
ql_pV h (some a0) 13 7 (.int (0 : Int32)) fun h =>
ql_gR h (some a0) 13 0 fun r1 =>
ql_lI h r1 0 (3 : Int32) fun x2 =>
Q x2 h
set_option maxHeartbeats 4000000 in
set_option maxRecDepth 100000 in
theorem qm_X12_amendmentTotal (l : Launch) (hl9 : l.stackTraces = false) (D : ql_D) (h0 : ql_H) (a0 : Nat) (Q : Int32 → ql_H → Prop) (X : String → ql_H → Prop) (w : qw_X12_amendmentTotal a0 h0 Q) : ql_M D l yX12_amendmentTotal cX12_amendmentTotal 1 (some .int) ({ frames := 2, cells := 0, slots := 0, locals := 48 } : Room) h0 [.ref a0] (ql_rI Q) X 0 0 := by
  refine ql_ofW (by decide) (Nat.le_of_ble_eq_true rfl) ?_
  intro p e s m below meth c ls C hr hlocks hnm htab S hl
  have hl : lv_has ls 1 [(0, .ref a0)] := hl
  unfold qw_X12_amendmentTotal at w
  refine ql_aload_n (r := (some a0)) C dX12_amendmentTotal_0 rfl (lv_at hl 0 rfl) ?_
  refine lv_iconst (v := (0 : Int32)) C.1.1 C.1.2.1 dX12_amendmentTotal_1 (by decide) ?_
  refine ql_putV C S qf_13_7 gw_1675 (tyX12) tyX12_ok nmX12 rfl dX12_amendmentTotal_2 (v := .int (0 : Int32)) rfl rfl w (fun h H locs S w => ?_)
  refine ql_aload_n (r := (some a0)) C dX12_amendmentTotal_5 rfl (lv_at hl 0 rfl) ?_
  refine ql_getR C S qf_13_0 gw_1668 dX12_amendmentTotal_6 w (fun r1 w => ?_)
  refine lv_iconst (v := (3 : Int32)) C.1.1 C.1.2.1 dX12_amendmentTotal_9 (by decide) ?_
  refine ql_iald C S dX12_amendmentTotal_10 w (fun x2 w => ?_)
  exact ql_iret C S hr hlocks dX12_amendmentTotal_11 ⟨Nat.le_of_ble_eq_true rfl, Nat.le_of_ble_eq_true rfl⟩ w
def qw_X12_repealedTotal (a0 : Nat) (h : ql_H) (Q : Int32 → ql_H → Prop) : Prop :=
ql_pV h (some a0) 13 7 (.int (0 : Int32)) fun h =>
ql_gR h (some a0) 13 0 fun r1 =>
ql_lI h r1 0 (4 : Int32) fun x2 =>
Q x2 h
set_option maxHeartbeats 4000000 in
set_option maxRecDepth 100000 in
theorem qm_X12_repealedTotal (l : Launch) (hl9 : l.stackTraces = false) (D : ql_D) (h0 : ql_H) (a0 : Nat) (Q : Int32 → ql_H → Prop) (X : String → ql_H → Prop) (w : qw_X12_repealedTotal a0 h0 Q) : ql_M D l yX12_repealedTotal cX12_repealedTotal 1 (some .int) ({ frames := 2, cells := 0, slots := 0, locals := 48 } : Room) h0 [.ref a0] (ql_rI Q) X 0 0 := by
  refine ql_ofW (by decide) (Nat.le_of_ble_eq_true rfl) ?_
  intro p e s m below meth c ls C hr hlocks hnm htab S hl
  have hl : lv_has ls 1 [(0, .ref a0)] := hl
  unfold qw_X12_repealedTotal at w
  refine ql_aload_n (r := (some a0)) C dX12_repealedTotal_0 rfl (lv_at hl 0 rfl) ?_
  refine lv_iconst (v := (0 : Int32)) C.1.1 C.1.2.1 dX12_repealedTotal_1 (by decide) ?_
  refine ql_putV C S qf_13_7 gw_1675 (tyX12) tyX12_ok nmX12 rfl dX12_repealedTotal_2 (v := .int (0 : Int32)) rfl rfl w (fun h H locs S w => ?_)
  refine ql_aload_n (r := (some a0)) C dX12_repealedTotal_5 rfl (lv_at hl 0 rfl) ?_
  refine ql_getR C S qf_13_0 gw_1668 dX12_repealedTotal_6 w (fun r1 w => ?_)
  refine lv_iconst (v := (4 : Int32)) C.1.1 C.1.2.1 dX12_repealedTotal_9 (by decide) ?_
  refine ql_iald C S dX12_repealedTotal_10 w (fun x2 w => ?_)
  exact ql_iret C S hr hlocks dX12_repealedTotal_11 ⟨Nat.le_of_ble_eq_true rfl, Nat.le_of_ble_eq_true rfl⟩ w
def qw_X12_consolidatedTotal (a0 : Nat) (h : ql_H) (Q : Int32 → ql_H → Prop) : Prop :=
ql_pV h (some a0) 13 7 (.int (0 : Int32)) fun h =>
ql_gR h (some a0) 13 0 fun r1 =>
ql_lI h r1 0 (5 : Int32) fun x2 =>
Q x2 h
set_option maxHeartbeats 4000000 in
set_option maxRecDepth 100000 in
theorem qm_X12_consolidatedTotal (l : Launch) (hl9 : l.stackTraces = false) (D : ql_D) (h0 : ql_H) (a0 : Nat) (Q : Int32 → ql_H → Prop) (X : String → ql_H → Prop) (w : qw_X12_consolidatedTotal a0 h0 Q) : ql_M D l yX12_consolidatedTotal cX12_consolidatedTotal 1 (some .int) ({ frames := 2, cells := 0, slots := 0, locals := 48 } : Room) h0 [.ref a0] (ql_rI Q) X 0 0 := by
  refine ql_ofW (by decide) (Nat.le_of_ble_eq_true rfl) ?_
  intro p e s m below meth c ls C hr hlocks hnm htab S hl
  have hl : lv_has ls 1 [(0, .ref a0)] := hl
  unfold qw_X12_consolidatedTotal at w
  refine ql_aload_n (r := (some a0)) C dX12_consolidatedTotal_0 rfl (lv_at hl 0 rfl) ?_
  refine lv_iconst (v := (0 : Int32)) C.1.1 C.1.2.1 dX12_consolidatedTotal_1 (by decide) ?_
  refine ql_putV C S qf_13_7 gw_1675 (tyX12) tyX12_ok nmX12 rfl dX12_consolidatedTotal_2 (v := .int (0 : Int32)) rfl rfl w (fun h H locs S w => ?_)
  refine ql_aload_n (r := (some a0)) C dX12_consolidatedTotal_5 rfl (lv_at hl 0 rfl) ?_
  refine ql_getR C S qf_13_0 gw_1668 dX12_consolidatedTotal_6 w (fun r1 w => ?_)
  refine lv_iconst (v := (5 : Int32)) C.1.1 C.1.2.1 dX12_consolidatedTotal_9 (by decide) ?_
  refine ql_iald C S dX12_consolidatedTotal_10 w (fun x2 w => ?_)
  exact ql_iret C S hr hlocks dX12_consolidatedTotal_11 ⟨Nat.le_of_ble_eq_true rfl, Nat.le_of_ble_eq_true rfl⟩ w
def qw_X12_editionCount (a0 : Nat) (h : ql_H) (Q : Int32 → ql_H → Prop) : Prop :=
ql_pV h (some a0) 13 7 (.int (0 : Int32)) fun h =>
ql_gR h (some a0) 13 0 fun r1 =>
ql_lI h r1 0 (6 : Int32) fun x2 =>
Q x2 h
set_option maxHeartbeats 4000000 in
set_option maxRecDepth 100000 in
theorem qm_X12_editionCount (l : Launch) (hl9 : l.stackTraces = false) (D : ql_D) (h0 : ql_H) (a0 : Nat) (Q : Int32 → ql_H → Prop) (X : String → ql_H → Prop) (w : qw_X12_editionCount a0 h0 Q) : ql_M D l yX12_editionCount cX12_editionCount 1 (some .int) ({ frames := 2, cells := 0, slots := 0, locals := 48 } : Room) h0 [.ref a0] (ql_rI Q) X 0 0 := by
  refine ql_ofW (by decide) (Nat.le_of_ble_eq_true rfl) ?_
  intro p e s m below meth c ls C hr hlocks hnm htab S hl
  have hl : lv_has ls 1 [(0, .ref a0)] := hl
  unfold qw_X12_editionCount at w
  refine ql_aload_n (r := (some a0)) C dX12_editionCount_0 rfl (lv_at hl 0 rfl) ?_
  refine lv_iconst (v := (0 : Int32)) C.1.1 C.1.2.1 dX12_editionCount_1 (by decide) ?_
  refine ql_putV C S qf_13_7 gw_1675 (tyX12) tyX12_ok nmX12 rfl dX12_editionCount_2 (v := .int (0 : Int32)) rfl rfl w (fun h H locs S w => ?_)
  refine ql_aload_n (r := (some a0)) C dX12_editionCount_5 rfl (lv_at hl 0 rfl) ?_
  refine ql_getR C S qf_13_0 gw_1668 dX12_editionCount_6 w (fun r1 w => ?_)
  refine lv_bipush (v := (6 : Int32)) C.1.1 C.1.2.1 dX12_editionCount_9 (by decide) ?_
  refine ql_iald C S dX12_editionCount_11 w (fun x2 w => ?_)
  exact ql_iret C S hr hlocks dX12_editionCount_12 ⟨Nat.le_of_ble_eq_true rfl, Nat.le_of_ble_eq_true rfl⟩ w
def qw_X12_editionDay_35 (a0 : Nat) (Q : Int32 → ql_H → Prop) (xl1 : Int32) (rs0 : Option Nat) (xs1 : Int32) (h : ql_H) : Prop :=
ql_rv h rs0 13 fun b1 => qw_X12_fails b1 xs1 h (fun x1 h =>
if x1 = 0 then (ql_gR h (some a0) 13 0 fun r3 =>
¬ (6 : Int32) = 0 ∧
ql_lI h r3 0 ((7 : Int32) + ((xl1 - (1 : Int32)) - (xl1 - (1 : Int32)) / (6 : Int32) * (6 : Int32))) fun x4 =>
Q x4 h) else (Q (0 : Int32) h))
def qw_X12_editionDay_34 (a0 : Nat) (Q : Int32 → ql_H → Prop) (xl1 : Int32) (rs0 : Option Nat) (h : ql_H) : Prop :=
qw_X12_editionDay_35 a0 Q xl1 rs0 (1 : Int32) h
def qw_X12_editionDay (a0 : Nat) (xp1 : Int32) (h : ql_H) (Q : Int32 → ql_H → Prop) : Prop :=
ql_gR h (some a0) 13 0 fun r5 =>
ql_lI h r5 0 (6 : Int32) fun x6 =>
qw_X12_in xp1 (1 : Int32) x6 h (fun x7 h =>
if x7 = 0 then (qw_X12_editionDay_34 a0 Q xp1 (some a0) h) else (ql_gR h (some a0) 13 0 fun r8 =>
ql_lI h r8 0 (6 : Int32) fun x9 =>
if xp1 ≤ (x9 - (6 : Int32)) then (qw_X12_editionDay_34 a0 Q xp1 (some a0) h) else (qw_X12_editionDay_35 a0 Q xp1 (some a0) (0 : Int32) h)))
set_option maxHeartbeats 4000000 in
set_option maxRecDepth 100000 in
theorem qm_X12_editionDay (l : Launch) (hl9 : l.stackTraces = false) (D : ql_D) (h0 : ql_H) (a0 : Nat) (xp1 : Int32) (Q : Int32 → ql_H → Prop) (X : String → ql_H → Prop) (w : qw_X12_editionDay a0 xp1 h0 Q) : ql_M D l yX12_editionDay cX12_editionDay 2 (some .int) ({ frames := 4, cells := 0, slots := 0, locals := 78 } : Room) h0 [.ref a0, .int xp1] (ql_rI Q) X 0 0 := by
  refine ql_ofW (by decide) (Nat.le_of_ble_eq_true rfl) ?_
  intro p e s m below meth c ls C hr hlocks hnm htab S hl
  have hl : lv_has ls 2 [(0, .ref a0), (1, .int xp1)] := hl
  have hB35 : ∀ (xl1 : Int32) (rs0 : Option Nat) (xs1 : Int32) (h : ql_H) (H : Heap) (locs : List Loc) (ls : Array Slot), ql_S D h0 s H locs h → lv_has ls 2 [(0, .ref a0), (1, .int xl1)] → qw_X12_editionDay_35 a0 Q xl1 rs0 xs1 h → W p l e ({ frames := 4, cells := 0, slots := 0, locals := 78 } : Room) s m ([.ref a0, .int xp1] : List Value).toArray below meth c H locs 0 0 (vx_MQ below (ql_Q D h0 (ql_rI Q)) (ql_X D h0 X) ([.ref a0, .int xp1] : List Value).toArray s 0 0 (ql_A h0)) (F0 m 35 ls [.int xs1, va_rf rs0]) := by
    intro xl1 rs0 xs1 h H locs ls S hl w
    unfold qw_X12_editionDay_35 at w
    refine ql_VI (As := [.int xs1]) (rest := []) C S htab hlocks hl qy_X12_fails qi_X12_fails qs_X12_fails gw_1749 (ci := 13) rfl w (fun b w => qm_X12_fails l hl9 D _ b xs1 _ _ w) rfl ⟨Nat.le_of_ble_eq_true rfl, Nat.le_of_ble_eq_true rfl⟩ ⟨rfl, rfl⟩ (by exact Nat.le_of_ble_eq_true rfl) (fun b e9 => by cases e9; rfl) dX12_editionDay_35 ⟨Nat.le_of_ble_eq_true rfl, Nat.le_of_ble_eq_true rfl⟩ ⟨Nat.le_of_ble_eq_true rfl, Nat.le_of_ble_eq_true rfl⟩ (fun x1 h H locs S w => ?_)
    refine W.cs (cells' := 0) (slots' := 0) rfl rfl ?_
    refine lv_if_eq (tgt := 45) C.1.1 C.1.2.1 dX12_editionDay_38 (by decide) (fun c9 => ?_) (fun c9 => ?_)
    · replace w := ql_if w c9
      refine ql_aload_n (r := (some a0)) C dX12_editionDay_45 rfl (lv_at hl 0 rfl) ?_
      refine ql_getR C S qf_13_0 gw_1668 dX12_editionDay_46 w (fun r3 w => ?_)
      refine lv_bipush (v := (7 : Int32)) C.1.1 C.1.2.1 dX12_editionDay_49 (by decide) ?_
      refine lv_iload_n C.1.1 C.1.2.1 dX12_editionDay_51 rfl (lv_at hl 1 rfl) ?_
      refine lv_iconst (v := (1 : Int32)) C.1.1 C.1.2.1 dX12_editionDay_52 (by decide) ?_
      refine lv_isub C.1.1 C.1.2.1 dX12_editionDay_53 ?_
      refine lv_bipush (v := (6 : Int32)) C.1.1 C.1.2.1 dX12_editionDay_54 (by decide) ?_
      refine lv_irem C.1.1 C.1.2.1 dX12_editionDay_56 w.1 ?_
      replace w := w.2
      refine lv_iadd C.1.1 C.1.2.1 dX12_editionDay_57 ?_
      refine ql_iald C S dX12_editionDay_58 w (fun x4 w => ?_)
      exact ql_iret C S hr hlocks dX12_editionDay_59 ⟨Nat.le_of_ble_eq_true rfl, Nat.le_of_ble_eq_true rfl⟩ w
    · replace w := ql_ifn w c9
      refine lv_iconst (v := (0 : Int32)) C.1.1 C.1.2.1 dX12_editionDay_41 (by decide) ?_
      refine lv_goto (tgt := 59) C.1.1 C.1.2.1 dX12_editionDay_42 (by decide) ?_
      exact ql_iret C S hr hlocks dX12_editionDay_59 ⟨Nat.le_of_ble_eq_true rfl, Nat.le_of_ble_eq_true rfl⟩ w
  have hB34 : ∀ (xl1 : Int32) (rs0 : Option Nat) (h : ql_H) (H : Heap) (locs : List Loc) (ls : Array Slot), ql_S D h0 s H locs h → lv_has ls 2 [(0, .ref a0), (1, .int xl1)] → qw_X12_editionDay_34 a0 Q xl1 rs0 h → W p l e ({ frames := 4, cells := 0, slots := 0, locals := 78 } : Room) s m ([.ref a0, .int xp1] : List Value).toArray below meth c H locs 0 0 (vx_MQ below (ql_Q D h0 (ql_rI Q)) (ql_X D h0 X) ([.ref a0, .int xp1] : List Value).toArray s 0 0 (ql_A h0)) (F0 m 34 ls [va_rf rs0]) := by
    intro xl1 rs0 h H locs ls S hl w
    unfold qw_X12_editionDay_34 at w
    refine lv_iconst (v := (1 : Int32)) C.1.1 C.1.2.1 dX12_editionDay_34 (by decide) ?_
    exact hB35 xl1 rs0 (1 : Int32) _ _ _ _ S (lv_sub hl [0, 1] rfl) w
  unfold qw_X12_editionDay at w
  refine ql_aload_n (r := (some a0)) C dX12_editionDay_0 rfl (lv_at hl 0 rfl) ?_
  refine lv_iload_n C.1.1 C.1.2.1 dX12_editionDay_1 rfl (lv_at hl 1 rfl) ?_
  refine lv_iconst (v := (1 : Int32)) C.1.1 C.1.2.1 dX12_editionDay_2 (by decide) ?_
  refine ql_aload_n (r := (some a0)) C dX12_editionDay_3 rfl (lv_at hl 0 rfl) ?_
  refine ql_getR C S qf_13_0 gw_1668 dX12_editionDay_4 w (fun r5 w => ?_)
  refine lv_bipush (v := (6 : Int32)) C.1.1 C.1.2.1 dX12_editionDay_7 (by decide) ?_
  refine ql_iald C S dX12_editionDay_9 w (fun x6 w => ?_)
  refine ql_SI (As := [.int xp1, .int (1 : Int32), .int x6]) (rest := [.ref a0]) C S htab hlocks hl qy_X12_in qi_X12_in gw_1735 (qm_X12_in l hl9 D _ xp1 (1 : Int32) x6 _ _ w) rfl ⟨Nat.le_of_ble_eq_true rfl, Nat.le_of_ble_eq_true rfl⟩ ⟨rfl, rfl⟩ (by exact Nat.le_of_ble_eq_true rfl) rfl dX12_editionDay_10 ⟨Nat.le_of_ble_eq_true rfl, Nat.le_of_ble_eq_true rfl⟩ ⟨Nat.le_of_ble_eq_true rfl, Nat.le_of_ble_eq_true rfl⟩ (fun x7 h H locs S w => ?_)
  refine W.cs (cells' := 0) (slots' := 0) rfl rfl ?_
  refine lv_if_eq (tgt := 34) C.1.1 C.1.2.1 dX12_editionDay_13 (by decide) (fun c9 => ?_) (fun c9 => ?_)
  · replace w := ql_if w c9
    exact hB34 xp1 (some a0) _ _ _ _ S (lv_sub hl [0, 1] rfl) w
  · replace w := ql_ifn w c9
    refine lv_iload_n C.1.1 C.1.2.1 dX12_editionDay_16 rfl (lv_at hl 1 rfl) ?_
    refine ql_aload_n (r := (some a0)) C dX12_editionDay_17 rfl (lv_at hl 0 rfl) ?_
    refine ql_getR C S qf_13_0 gw_1668 dX12_editionDay_18 w (fun r8 w => ?_)
    refine lv_bipush (v := (6 : Int32)) C.1.1 C.1.2.1 dX12_editionDay_21 (by decide) ?_
    refine ql_iald C S dX12_editionDay_23 w (fun x9 w => ?_)
    refine lv_bipush (v := (6 : Int32)) C.1.1 C.1.2.1 dX12_editionDay_24 (by decide) ?_
    refine lv_isub C.1.1 C.1.2.1 dX12_editionDay_26 ?_
    refine lv_icmp_le (tgt := 34) C.1.1 C.1.2.1 dX12_editionDay_27 (by decide) (fun c9 => ?_) (fun c9 => ?_)
    · replace w := ql_if w c9
      exact hB34 xp1 (some a0) _ _ _ _ S (lv_sub hl [0, 1] rfl) w
    · replace w := ql_ifn w c9
      refine lv_iconst (v := (0 : Int32)) C.1.1 C.1.2.1 dX12_editionDay_30 (by decide) ?_
      refine lv_goto (tgt := 35) C.1.1 C.1.2.1 dX12_editionDay_31 (by decide) ?_
      exact hB35 xp1 (some a0) (0 : Int32) _ _ _ _ S (lv_sub hl [0, 1] rfl) w
def qw_X12_meanLength_27 (a0 : Nat) (Q : UInt64 → ql_H → Prop) : Nat → Int32 → Int32 → ql_H → Prop
  | 0, _, _, _ => False
  | n + 1, xl1, xl2, h =>
    ql_gR h (some a0) 13 0 fun r1 =>
    ql_lI h r1 0 (0 : Int32) fun x2 =>
    if x2 ≤ xl2 then (ql_gR h (some a0) 13 0 fun r3 =>
    ql_lI h r3 0 (0 : Int32) fun x4 =>
    vf_n64 (FP.ddiv (FP.i2d xl1) (FP.i2d x4)) ∧
    Q (FP.ddiv (FP.i2d xl1) (FP.i2d x4)) h) else (ql_rv h (some a0) 13 fun b5 => qw_X12_long0 b5 xl2 h (fun x5 h =>
    qw_X12_meanLength_27 a0 Q n (xl1 + x5) (xl2 + (1 : Int32)) h))
def qw_X12_meanLength_15 (a0 : Nat) (Q : UInt64 → ql_H → Prop) (rs0 : Option Nat) (xs1 : Int32) (h : ql_H) : Prop :=
ql_rv h rs0 13 fun b7 => qw_X12_fails b7 xs1 h (fun x7 h =>
if x7 = 0 then (qw_X12_meanLength_27 a0 Q ql_FU (0 : Int32) (0 : Int32) h) else (Q FP.dconst0 h))
def qw_X12_meanLength (a0 : Nat) (h : ql_H) (Q : UInt64 → ql_H → Prop) : Prop :=
ql_gR h (some a0) 13 0 fun r9 =>
ql_lI h r9 0 (0 : Int32) fun x10 =>
if x10 = 0 then (qw_X12_meanLength_15 a0 Q (some a0) (1 : Int32) h) else (qw_X12_meanLength_15 a0 Q (some a0) (0 : Int32) h)
set_option maxHeartbeats 4000000 in
set_option maxRecDepth 100000 in
theorem qm_X12_meanLength (l : Launch) (hl9 : l.stackTraces = false) (D : ql_D) (h0 : ql_H) (a0 : Nat) (Q : UInt64 → ql_H → Prop) (X : String → ql_H → Prop) (w : qw_X12_meanLength a0 h0 Q) : ql_M D l yX12_meanLength cX12_meanLength 3 (some .double) ({ frames := 8, cells := 0, slots := 0, locals := 136 } : Room) h0 [.ref a0] (ql_rD Q) X 0 0 := by
  refine ql_ofW (by decide) (Nat.le_of_ble_eq_true rfl) ?_
  intro p e s m below meth c ls C hr hlocks hnm htab S hl
  have hl : lv_has ls 3 [(0, .ref a0)] := hl
  have hB27 : ∀ n : Nat, ∀ (xl1 : Int32) (xl2 : Int32) (h : ql_H) (H : Heap) (locs : List Loc) (ls : Array Slot), ql_S D h0 s H locs h → lv_has ls 3 [(0, .ref a0), (1, .int xl1), (2, .int xl2)] → qw_X12_meanLength_27 a0 Q n xl1 xl2 h → W p l e ({ frames := 8, cells := 0, slots := 0, locals := 136 } : Room) s m ([.ref a0] : List Value).toArray below meth c H locs 0 0 (vx_MQ below (ql_Q D h0 (ql_rD Q)) (ql_X D h0 X) ([.ref a0] : List Value).toArray s 0 0 (ql_A h0)) (F0 m 27 ls []) := by
    intro n
    induction n with
    | zero => intro xl1 xl2 h H locs ls S hl w; rw [qw_X12_meanLength_27] at w; exact w.elim
    | succ n ih =>
      intro xl1 xl2 h H locs ls S hl w
      rw [qw_X12_meanLength_27] at w
      refine lv_iload_n C.1.1 C.1.2.1 dX12_meanLength_27 rfl (lv_at hl 2 rfl) ?_
      refine ql_aload_n (r := (some a0)) C dX12_meanLength_28 rfl (lv_at hl 0 rfl) ?_
      refine ql_getR C S qf_13_0 gw_1668 dX12_meanLength_29 w (fun r1 w => ?_)
      refine lv_iconst (v := (0 : Int32)) C.1.1 C.1.2.1 dX12_meanLength_32 (by decide) ?_
      refine ql_iald C S dX12_meanLength_33 w (fun x2 w => ?_)
      refine lv_icmp_ge (tgt := 51) C.1.1 C.1.2.1 dX12_meanLength_34 (by decide) (fun c9 => ?_) (fun c9 => ?_)
      · replace w := ql_if w c9
        refine lv_iload_n C.1.1 C.1.2.1 dX12_meanLength_51 rfl (lv_at hl 1 rfl) ?_
        refine lv_i2d C.1.1 C.1.2.1 dX12_meanLength_52 ?_
        refine ql_aload_n (r := (some a0)) C dX12_meanLength_53 rfl (lv_at hl 0 rfl) ?_
        refine ql_getR C S qf_13_0 gw_1668 dX12_meanLength_54 w (fun r3 w => ?_)
        refine lv_iconst (v := (0 : Int32)) C.1.1 C.1.2.1 dX12_meanLength_57 (by decide) ?_
        refine ql_iald C S dX12_meanLength_58 w (fun x4 w => ?_)
        refine lv_i2d C.1.1 C.1.2.1 dX12_meanLength_59 ?_
        refine lv_ddiv C.1.1 C.1.2.1 dX12_meanLength_60 w.1 ?_
        replace w := w.2
        exact ql_dret C S hr hlocks dX12_meanLength_61 ⟨Nat.le_of_ble_eq_true rfl, Nat.le_of_ble_eq_true rfl⟩ w
      · replace w := ql_ifn w c9
        refine lv_iload_n C.1.1 C.1.2.1 dX12_meanLength_37 rfl (lv_at hl 1 rfl) ?_
        refine ql_aload_n (r := (some a0)) C dX12_meanLength_38 rfl (lv_at hl 0 rfl) ?_
        refine lv_iload_n C.1.1 C.1.2.1 dX12_meanLength_39 rfl (lv_at hl 2 rfl) ?_
        refine ql_VI (As := [.int xl2]) (rest := [.int xl1]) C S htab hlocks hl qy_X12_long0 qi_X12_long0 qs_X12_long0 gw_1776 (ci := 13) rfl w (fun b w => qm_X12_long0 l hl9 D _ b xl2 _ _ w) rfl ⟨Nat.le_of_ble_eq_true rfl, Nat.le_of_ble_eq_true rfl⟩ ⟨rfl, rfl⟩ (by exact Nat.le_of_ble_eq_true rfl) (fun b e9 => by cases e9; rfl) dX12_meanLength_40 ⟨Nat.le_of_ble_eq_true rfl, Nat.le_of_ble_eq_true rfl⟩ ⟨Nat.le_of_ble_eq_true rfl, Nat.le_of_ble_eq_true rfl⟩ (fun x5 h H locs S w => ?_)
        refine W.cs (cells' := 0) (slots' := 0) rfl rfl ?_
        refine lv_iadd C.1.1 C.1.2.1 dX12_meanLength_43 ?_
        refine lv_istore_n (lv' := [(1, .int (xl1 + x5)), (0, .ref a0), (2, .int xl2)]) C.1.1 C.1.2.1 dX12_meanLength_44 rfl hl (by decide) rfl (fun ls hl => ?_)
        refine lv_iinc (v := (xl2 + (1 : Int32))) (lv' := [(2, .int (xl2 + (1 : Int32))), (1, .int (xl1 + x5)), (0, .ref a0)]) C.1.1 C.1.2.1 dX12_meanLength_45 hl (k := 2) rfl rfl (by decide) rfl (fun ls hl => ?_)
        refine lv_goto (tgt := 27) C.1.1 C.1.2.1 dX12_meanLength_48 (by decide) ?_
        exact ih (xl1 + x5) (xl2 + (1 : Int32)) _ _ _ _ S (lv_sub hl [2, 1, 0] rfl) w
  have hB15 : ∀ (rs0 : Option Nat) (xs1 : Int32) (h : ql_H) (H : Heap) (locs : List Loc) (ls : Array Slot), ql_S D h0 s H locs h → lv_has ls 3 [(0, .ref a0)] → qw_X12_meanLength_15 a0 Q rs0 xs1 h → W p l e ({ frames := 8, cells := 0, slots := 0, locals := 136 } : Room) s m ([.ref a0] : List Value).toArray below meth c H locs 0 0 (vx_MQ below (ql_Q D h0 (ql_rD Q)) (ql_X D h0 X) ([.ref a0] : List Value).toArray s 0 0 (ql_A h0)) (F0 m 15 ls [.int xs1, va_rf rs0]) := by
    intro rs0 xs1 h H locs ls S hl w
    unfold qw_X12_meanLength_15 at w
    refine ql_VI (As := [.int xs1]) (rest := []) C S htab hlocks hl qy_X12_fails qi_X12_fails qs_X12_fails gw_1749 (ci := 13) rfl w (fun b w => qm_X12_fails l hl9 D _ b xs1 _ _ w) rfl ⟨Nat.le_of_ble_eq_true rfl, Nat.le_of_ble_eq_true rfl⟩ ⟨rfl, rfl⟩ (by exact Nat.le_of_ble_eq_true rfl) (fun b e9 => by cases e9; rfl) dX12_meanLength_15 ⟨Nat.le_of_ble_eq_true rfl, Nat.le_of_ble_eq_true rfl⟩ ⟨Nat.le_of_ble_eq_true rfl, Nat.le_of_ble_eq_true rfl⟩ (fun x7 h H locs S w => ?_)
    refine W.cs (cells' := 0) (slots' := 0) rfl rfl ?_
    refine lv_if_eq (tgt := 23) C.1.1 C.1.2.1 dX12_meanLength_18 (by decide) (fun c9 => ?_) (fun c9 => ?_)
    · replace w := ql_if w c9
      refine lv_iconst (v := (0 : Int32)) C.1.1 C.1.2.1 dX12_meanLength_23 (by decide) ?_
      refine lv_istore_n (lv' := [(1, .int (0 : Int32)), (0, .ref a0)]) C.1.1 C.1.2.1 dX12_meanLength_24 rfl hl (by decide) rfl (fun ls hl => ?_)
      refine lv_iconst (v := (0 : Int32)) C.1.1 C.1.2.1 dX12_meanLength_25 (by decide) ?_
      refine lv_istore_n (lv' := [(2, .int (0 : Int32)), (1, .int (0 : Int32)), (0, .ref a0)]) C.1.1 C.1.2.1 dX12_meanLength_26 rfl hl (by decide) rfl (fun ls hl => ?_)
      exact hB27 ql_FU (0 : Int32) (0 : Int32) _ _ _ _ S (lv_sub hl [2, 1, 0] rfl) w
    · replace w := ql_ifn w c9
      refine lv_dconst0 C.1.1 C.1.2.1 dX12_meanLength_21 ?_
      exact ql_dret C S hr hlocks dX12_meanLength_22 ⟨Nat.le_of_ble_eq_true rfl, Nat.le_of_ble_eq_true rfl⟩ w
  unfold qw_X12_meanLength at w
  refine ql_aload_n (r := (some a0)) C dX12_meanLength_0 rfl (lv_at hl 0 rfl) ?_
  refine ql_aload_n (r := (some a0)) C dX12_meanLength_1 rfl (lv_at hl 0 rfl) ?_
  refine ql_getR C S qf_13_0 gw_1668 dX12_meanLength_2 w (fun r9 w => ?_)
  refine lv_iconst (v := (0 : Int32)) C.1.1 C.1.2.1 dX12_meanLength_5 (by decide) ?_
  refine ql_iald C S dX12_meanLength_6 w (fun x10 w => ?_)
  refine lv_if_ne (tgt := 14) C.1.1 C.1.2.1 dX12_meanLength_7 (by decide) (fun c9 => ?_) (fun c9 => ?_)
  · replace w := ql_ifn w c9
    refine lv_iconst (v := (0 : Int32)) C.1.1 C.1.2.1 dX12_meanLength_14 (by decide) ?_
    exact hB15 (some a0) (0 : Int32) _ _ _ _ S (lv_sub hl [0] rfl) w
  · replace w := ql_if w c9
    refine lv_iconst (v := (1 : Int32)) C.1.1 C.1.2.1 dX12_meanLength_10 (by decide) ?_
    refine lv_goto (tgt := 15) C.1.1 C.1.2.1 dX12_meanLength_11 (by decide) ?_
    exact hB15 (some a0) (1 : Int32) _ _ _ _ S (lv_sub hl [0] rfl) w
def qw_X12_inForceShare_15 (a0 : Nat) (Q : UInt32 → ql_H → Prop) (rs0 : Option Nat) (xs1 : Int32) (h : ql_H) : Prop :=
ql_rv h rs0 13 fun b1 => qw_X12_fails b1 xs1 h (fun x1 h =>
if x1 = 0 then (ql_gR h (some a0) 13 0 fun r3 =>
ql_lI h r3 0 (2 : Int32) fun x4 =>
ql_rv h (some a0) 13 fun b5 => qw_X12_valid b5 x4 h (fun x5 h =>
ql_gR h (some a0) 13 0 fun r7 =>
ql_lI h r7 0 (0 : Int32) fun x8 =>
vf_n32 (FP.fdiv (FP.i2f x5) (FP.i2f x8)) ∧
Q (FP.fdiv (FP.i2f x5) (FP.i2f x8)) h)) else (Q FP.fconst0 h))
def qw_X12_inForceShare (a0 : Nat) (h : ql_H) (Q : UInt32 → ql_H → Prop) : Prop :=
ql_gR h (some a0) 13 0 fun r9 =>
ql_lI h r9 0 (0 : Int32) fun x10 =>
if x10 = 0 then (qw_X12_inForceShare_15 a0 Q (some a0) (1 : Int32) h) else (qw_X12_inForceShare_15 a0 Q (some a0) (0 : Int32) h)
set_option maxHeartbeats 4000000 in
set_option maxRecDepth 100000 in
theorem qm_X12_inForceShare (l : Launch) (hl9 : l.stackTraces = false) (D : ql_D) (h0 : ql_H) (a0 : Nat) (Q : UInt32 → ql_H → Prop) (X : String → ql_H → Prop) (w : qw_X12_inForceShare a0 h0 Q) : ql_M D l yX12_inForceShare cX12_inForceShare 1 (some .float) ({ frames := 8, cells := 0, slots := 0, locals := 139 } : Room) h0 [.ref a0] (ql_rF Q) X 0 0 := by
  refine ql_ofW (by decide) (Nat.le_of_ble_eq_true rfl) ?_
  intro p e s m below meth c ls C hr hlocks hnm htab S hl
  have hl : lv_has ls 1 [(0, .ref a0)] := hl
  have hB15 : ∀ (rs0 : Option Nat) (xs1 : Int32) (h : ql_H) (H : Heap) (locs : List Loc) (ls : Array Slot), ql_S D h0 s H locs h → lv_has ls 1 [(0, .ref a0)] → qw_X12_inForceShare_15 a0 Q rs0 xs1 h → W p l e ({ frames := 8, cells := 0, slots := 0, locals := 139 } : Room) s m ([.ref a0] : List Value).toArray below meth c H locs 0 0 (vx_MQ below (ql_Q D h0 (ql_rF Q)) (ql_X D h0 X) ([.ref a0] : List Value).toArray s 0 0 (ql_A h0)) (F0 m 15 ls [.int xs1, va_rf rs0]) := by
    intro rs0 xs1 h H locs ls S hl w
    unfold qw_X12_inForceShare_15 at w
    refine ql_VI (As := [.int xs1]) (rest := []) C S htab hlocks hl qy_X12_fails qi_X12_fails qs_X12_fails gw_1749 (ci := 13) rfl w (fun b w => qm_X12_fails l hl9 D _ b xs1 _ _ w) rfl ⟨Nat.le_of_ble_eq_true rfl, Nat.le_of_ble_eq_true rfl⟩ ⟨rfl, rfl⟩ (by exact Nat.le_of_ble_eq_true rfl) (fun b e9 => by cases e9; rfl) dX12_inForceShare_15 ⟨Nat.le_of_ble_eq_true rfl, Nat.le_of_ble_eq_true rfl⟩ ⟨Nat.le_of_ble_eq_true rfl, Nat.le_of_ble_eq_true rfl⟩ (fun x1 h H locs S w => ?_)
    refine W.cs (cells' := 0) (slots' := 0) rfl rfl ?_
    refine lv_if_eq (tgt := 25) C.1.1 C.1.2.1 dX12_inForceShare_18 (by decide) (fun c9 => ?_) (fun c9 => ?_)
    · replace w := ql_if w c9
      refine ql_aload_n (r := (some a0)) C dX12_inForceShare_25 rfl (lv_at hl 0 rfl) ?_
      refine ql_aload_n (r := (some a0)) C dX12_inForceShare_26 rfl (lv_at hl 0 rfl) ?_
      refine ql_getR C S qf_13_0 gw_1668 dX12_inForceShare_27 w (fun r3 w => ?_)
      refine lv_iconst (v := (2 : Int32)) C.1.1 C.1.2.1 dX12_inForceShare_30 (by decide) ?_
      refine ql_iald C S dX12_inForceShare_31 w (fun x4 w => ?_)
      refine ql_VI (As := [.int x4]) (rest := []) C S htab hlocks hl qy_X12_valid qi_X12_valid qs_X12_valid gw_1900 (ci := 13) rfl w (fun b w => qm_X12_valid l hl9 D _ b x4 _ _ w) rfl ⟨Nat.le_of_ble_eq_true rfl, Nat.le_of_ble_eq_true rfl⟩ ⟨rfl, rfl⟩ (by exact Nat.le_of_ble_eq_true rfl) (fun b e9 => by cases e9; rfl) dX12_inForceShare_32 ⟨Nat.le_of_ble_eq_true rfl, Nat.le_of_ble_eq_true rfl⟩ ⟨Nat.le_of_ble_eq_true rfl, Nat.le_of_ble_eq_true rfl⟩ (fun x5 h H locs S w => ?_)
      refine W.cs (cells' := 0) (slots' := 0) rfl rfl ?_
      refine lv_i2f C.1.1 C.1.2.1 dX12_inForceShare_35 ?_
      refine ql_aload_n (r := (some a0)) C dX12_inForceShare_36 rfl (lv_at hl 0 rfl) ?_
      refine ql_getR C S qf_13_0 gw_1668 dX12_inForceShare_37 w (fun r7 w => ?_)
      refine lv_iconst (v := (0 : Int32)) C.1.1 C.1.2.1 dX12_inForceShare_40 (by decide) ?_
      refine ql_iald C S dX12_inForceShare_41 w (fun x8 w => ?_)
      refine lv_i2f C.1.1 C.1.2.1 dX12_inForceShare_42 ?_
      refine lv_fdiv C.1.1 C.1.2.1 dX12_inForceShare_43 w.1 ?_
      replace w := w.2
      exact ql_fret C S hr hlocks dX12_inForceShare_44 ⟨Nat.le_of_ble_eq_true rfl, Nat.le_of_ble_eq_true rfl⟩ w
    · replace w := ql_ifn w c9
      refine lv_fconst0 C.1.1 C.1.2.1 dX12_inForceShare_21 ?_
      refine lv_goto (tgt := 44) C.1.1 C.1.2.1 dX12_inForceShare_22 (by decide) ?_
      exact ql_fret C S hr hlocks dX12_inForceShare_44 ⟨Nat.le_of_ble_eq_true rfl, Nat.le_of_ble_eq_true rfl⟩ w
  unfold qw_X12_inForceShare at w
  refine ql_aload_n (r := (some a0)) C dX12_inForceShare_0 rfl (lv_at hl 0 rfl) ?_
  refine ql_aload_n (r := (some a0)) C dX12_inForceShare_1 rfl (lv_at hl 0 rfl) ?_
  refine ql_getR C S qf_13_0 gw_1668 dX12_inForceShare_2 w (fun r9 w => ?_)
  refine lv_iconst (v := (0 : Int32)) C.1.1 C.1.2.1 dX12_inForceShare_5 (by decide) ?_
  refine ql_iald C S dX12_inForceShare_6 w (fun x10 w => ?_)
  refine lv_if_ne (tgt := 14) C.1.1 C.1.2.1 dX12_inForceShare_7 (by decide) (fun c9 => ?_) (fun c9 => ?_)
  · replace w := ql_ifn w c9
    refine lv_iconst (v := (0 : Int32)) C.1.1 C.1.2.1 dX12_inForceShare_14 (by decide) ?_
    exact hB15 (some a0) (0 : Int32) _ _ _ _ S (lv_sub hl [0] rfl) w
  · replace w := ql_if w c9
    refine lv_iconst (v := (1 : Int32)) C.1.1 C.1.2.1 dX12_inForceShare_10 (by decide) ?_
    refine lv_goto (tgt := 15) C.1.1 C.1.2.1 dX12_inForceShare_11 (by decide) ?_
    exact hB15 (some a0) (1 : Int32) _ _ _ _ S (lv_sub hl [0] rfl) w
def qw_X12_isConsistent (a0 : Nat) (h : ql_H) (Q : Int32 → ql_H → Prop) : Prop :=
ql_pV h (some a0) 13 7 (.int (0 : Int32)) fun h =>
ql_gR h (some a0) 13 0 fun r1 =>
ql_lI h r1 0 (0 : Int32) fun x2 =>
ql_gR h (some a0) 13 0 fun r3 =>
ql_lI h r3 0 (1 : Int32) fun x4 =>
ql_gR h (some a0) 13 0 fun r5 =>
ql_lI h r5 0 (4 : Int32) fun x6 =>
ql_gR h (some a0) 13 0 fun r7 =>
ql_lI h r7 0 (5 : Int32) fun x8 =>
if x2 = ((x4 - x6) - x8) then (ql_nz .boolean (1 : Int32) ∧ Q (1 : Int32) h) else (ql_nz .boolean (0 : Int32) ∧ Q (0 : Int32) h)
set_option maxHeartbeats 4000000 in
set_option maxRecDepth 100000 in
theorem qm_X12_isConsistent (l : Launch) (hl9 : l.stackTraces = false) (D : ql_D) (h0 : ql_H) (a0 : Nat) (Q : Int32 → ql_H → Prop) (X : String → ql_H → Prop) (w : qw_X12_isConsistent a0 h0 Q) : ql_M D l yX12_isConsistent cX12_isConsistent 1 (some .boolean) ({ frames := 2, cells := 0, slots := 0, locals := 48 } : Room) h0 [.ref a0] (ql_rI Q) X 0 0 := by
  refine ql_ofW (by decide) (Nat.le_of_ble_eq_true rfl) ?_
  intro p e s m below meth c ls C hr hlocks hnm htab S hl
  have hl : lv_has ls 1 [(0, .ref a0)] := hl
  unfold qw_X12_isConsistent at w
  refine ql_aload_n (r := (some a0)) C dX12_isConsistent_0 rfl (lv_at hl 0 rfl) ?_
  refine lv_iconst (v := (0 : Int32)) C.1.1 C.1.2.1 dX12_isConsistent_1 (by decide) ?_
  refine ql_putV C S qf_13_7 gw_1675 (tyX12) tyX12_ok nmX12 rfl dX12_isConsistent_2 (v := .int (0 : Int32)) rfl rfl w (fun h H locs S w => ?_)
  refine ql_aload_n (r := (some a0)) C dX12_isConsistent_5 rfl (lv_at hl 0 rfl) ?_
  refine ql_getR C S qf_13_0 gw_1668 dX12_isConsistent_6 w (fun r1 w => ?_)
  refine lv_iconst (v := (0 : Int32)) C.1.1 C.1.2.1 dX12_isConsistent_9 (by decide) ?_
  refine ql_iald C S dX12_isConsistent_10 w (fun x2 w => ?_)
  refine ql_aload_n (r := (some a0)) C dX12_isConsistent_11 rfl (lv_at hl 0 rfl) ?_
  refine ql_getR C S qf_13_0 gw_1668 dX12_isConsistent_12 w (fun r3 w => ?_)
  refine lv_iconst (v := (1 : Int32)) C.1.1 C.1.2.1 dX12_isConsistent_15 (by decide) ?_
  refine ql_iald C S dX12_isConsistent_16 w (fun x4 w => ?_)
  refine ql_aload_n (r := (some a0)) C dX12_isConsistent_17 rfl (lv_at hl 0 rfl) ?_
  refine ql_getR C S qf_13_0 gw_1668 dX12_isConsistent_18 w (fun r5 w => ?_)
  refine lv_iconst (v := (4 : Int32)) C.1.1 C.1.2.1 dX12_isConsistent_21 (by decide) ?_
  refine ql_iald C S dX12_isConsistent_22 w (fun x6 w => ?_)
  refine lv_isub C.1.1 C.1.2.1 dX12_isConsistent_23 ?_
  refine ql_aload_n (r := (some a0)) C dX12_isConsistent_24 rfl (lv_at hl 0 rfl) ?_
  refine ql_getR C S qf_13_0 gw_1668 dX12_isConsistent_25 w (fun r7 w => ?_)
  refine lv_iconst (v := (5 : Int32)) C.1.1 C.1.2.1 dX12_isConsistent_28 (by decide) ?_
  refine ql_iald C S dX12_isConsistent_29 w (fun x8 w => ?_)
  refine lv_isub C.1.1 C.1.2.1 dX12_isConsistent_30 ?_
  refine lv_icmp_ne (tgt := 38) C.1.1 C.1.2.1 dX12_isConsistent_31 (by decide) (fun c9 => ?_) (fun c9 => ?_)
  · replace w := ql_ifn w c9
    refine lv_iconst (v := (0 : Int32)) C.1.1 C.1.2.1 dX12_isConsistent_38 (by decide) ?_
    exact ql_zret C S hr hlocks dX12_isConsistent_39 ⟨Nat.le_of_ble_eq_true rfl, Nat.le_of_ble_eq_true rfl⟩ w
  · replace w := ql_if w c9
    refine lv_iconst (v := (1 : Int32)) C.1.1 C.1.2.1 dX12_isConsistent_34 (by decide) ?_
    refine lv_goto (tgt := 39) C.1.1 C.1.2.1 dX12_isConsistent_35 (by decide) ?_
    exact ql_zret C S hr hlocks dX12_isConsistent_39 ⟨Nat.le_of_ble_eq_true rfl, Nat.le_of_ble_eq_true rfl⟩ w
def qw_X12_writes (a0 : Nat) (xp1 : Int32) (h : ql_H) (Q : ql_H → Prop) : Prop :=
ql_gR h (some a0) 13 12 fun r1 =>
ql_gI h (some a0) 13 13 fun x2 =>
ql_sI h r1 2 x2 (vp_nar .char (xp1.toUInt32 % 65536).toInt32) fun h =>
ql_gI h (some a0) 13 13 fun x3 =>
ql_pV h (some a0) 13 13 (.int (x3 + (1 : Int32))) fun h =>
Q h
set_option maxHeartbeats 4000000 in
set_option maxRecDepth 100000 in
theorem qm_X12_writes (l : Launch) (hl9 : l.stackTraces = false) (D : ql_D) (h0 : ql_H) (a0 : Nat) (xp1 : Int32) (Q : ql_H → Prop) (X : String → ql_H → Prop) (w : qw_X12_writes a0 xp1 h0 Q) : ql_M D l yX12_writes cX12_writes 2 none ({ frames := 2, cells := 0, slots := 0, locals := 48 } : Room) h0 [.ref a0, .int xp1] (ql_rV Q) X 0 0 := by
  refine ql_ofW (by decide) (Nat.le_of_ble_eq_true rfl) ?_
  intro p e s m below meth c ls C hr hlocks hnm htab S hl
  have hl : lv_has ls 2 [(0, .ref a0), (1, .int xp1)] := hl
  unfold qw_X12_writes at w
  refine ql_aload_n (r := (some a0)) C dX12_writes_0 rfl (lv_at hl 0 rfl) ?_
  refine ql_getR C S qf_13_12 gw_1680 dX12_writes_1 w (fun r1 w => ?_)
  refine ql_aload_n (r := (some a0)) C dX12_writes_4 rfl (lv_at hl 0 rfl) ?_
  refine ql_getI C S qf_13_13 gw_1681 dX12_writes_5 w (fun x2 w => ?_)
  refine lv_iload_n C.1.1 C.1.2.1 dX12_writes_8 rfl (lv_at hl 1 rfl) ?_
  refine lv_i2c C.1.1 C.1.2.1 dX12_writes_9 rfl ?_
  refine ql_cast C S dX12_writes_10 w (fun h H locs S w => ?_)
  refine ql_aload_n (r := (some a0)) C dX12_writes_11 rfl (lv_at hl 0 rfl) ?_
  refine lv_dup C.1.1 C.1.2.1 dX12_writes_12 (ql_catR _) ?_
  refine ql_getI C S qf_13_13 gw_1681 dX12_writes_13 w (fun x3 w => ?_)
  refine lv_iconst (v := (1 : Int32)) C.1.1 C.1.2.1 dX12_writes_16 (by decide) ?_
  refine lv_iadd C.1.1 C.1.2.1 dX12_writes_17 ?_
  refine ql_putV C S qf_13_13 gw_1681 (tyX12) tyX12_ok nmX12 rfl dX12_writes_18 (v := .int (x3 + (1 : Int32))) rfl rfl w (fun h H locs S w => ?_)
  exact ql_vret C S hr hlocks dX12_writes_21 ⟨Nat.le_of_ble_eq_true rfl, Nat.le_of_ble_eq_true rfl⟩ w
def qw_X12_outputAt_20 (a0 : Nat) (Q : Int32 → ql_H → Prop) (xl1 : Int32) (rs0 : Option Nat) (xs1 : Int32) (h : ql_H) : Prop :=
ql_rv h rs0 13 fun b1 => qw_X12_fails b1 xs1 h (fun x1 h =>
if x1 = 0 then (ql_gR h (some a0) 13 12 fun r3 =>
ql_lI h r3 2 xl1 fun x4 =>
ql_nz .char x4 ∧ Q x4 h) else (ql_nz .char (32 : Int32) ∧ Q (32 : Int32) h))
def qw_X12_outputAt (a0 : Nat) (xp1 : Int32) (h : ql_H) (Q : Int32 → ql_H → Prop) : Prop :=
ql_gI h (some a0) 13 13 fun x5 =>
qw_X12_in xp1 (0 : Int32) (x5 - (1 : Int32)) h (fun x6 h =>
if x6 = 0 then (qw_X12_outputAt_20 a0 Q xp1 (some a0) (1 : Int32) h) else (qw_X12_outputAt_20 a0 Q xp1 (some a0) (0 : Int32) h))
set_option maxHeartbeats 4000000 in
set_option maxRecDepth 100000 in
theorem qm_X12_outputAt (l : Launch) (hl9 : l.stackTraces = false) (D : ql_D) (h0 : ql_H) (a0 : Nat) (xp1 : Int32) (Q : Int32 → ql_H → Prop) (X : String → ql_H → Prop) (w : qw_X12_outputAt a0 xp1 h0 Q) : ql_M D l yX12_outputAt cX12_outputAt 2 (some .char) ({ frames := 4, cells := 0, slots := 0, locals := 78 } : Room) h0 [.ref a0, .int xp1] (ql_rI Q) X 0 0 := by
  refine ql_ofW (by decide) (Nat.le_of_ble_eq_true rfl) ?_
  intro p e s m below meth c ls C hr hlocks hnm htab S hl
  have hl : lv_has ls 2 [(0, .ref a0), (1, .int xp1)] := hl
  have hB20 : ∀ (xl1 : Int32) (rs0 : Option Nat) (xs1 : Int32) (h : ql_H) (H : Heap) (locs : List Loc) (ls : Array Slot), ql_S D h0 s H locs h → lv_has ls 2 [(0, .ref a0), (1, .int xl1)] → qw_X12_outputAt_20 a0 Q xl1 rs0 xs1 h → W p l e ({ frames := 4, cells := 0, slots := 0, locals := 78 } : Room) s m ([.ref a0, .int xp1] : List Value).toArray below meth c H locs 0 0 (vx_MQ below (ql_Q D h0 (ql_rI Q)) (ql_X D h0 X) ([.ref a0, .int xp1] : List Value).toArray s 0 0 (ql_A h0)) (F0 m 20 ls [.int xs1, va_rf rs0]) := by
    intro xl1 rs0 xs1 h H locs ls S hl w
    unfold qw_X12_outputAt_20 at w
    refine ql_VI (As := [.int xs1]) (rest := []) C S htab hlocks hl qy_X12_fails qi_X12_fails qs_X12_fails gw_1749 (ci := 13) rfl w (fun b w => qm_X12_fails l hl9 D _ b xs1 _ _ w) rfl ⟨Nat.le_of_ble_eq_true rfl, Nat.le_of_ble_eq_true rfl⟩ ⟨rfl, rfl⟩ (by exact Nat.le_of_ble_eq_true rfl) (fun b e9 => by cases e9; rfl) dX12_outputAt_20 ⟨Nat.le_of_ble_eq_true rfl, Nat.le_of_ble_eq_true rfl⟩ ⟨Nat.le_of_ble_eq_true rfl, Nat.le_of_ble_eq_true rfl⟩ (fun x1 h H locs S w => ?_)
    refine W.cs (cells' := 0) (slots' := 0) rfl rfl ?_
    refine lv_if_eq (tgt := 31) C.1.1 C.1.2.1 dX12_outputAt_23 (by decide) (fun c9 => ?_) (fun c9 => ?_)
    · replace w := ql_if w c9
      refine ql_aload_n (r := (some a0)) C dX12_outputAt_31 rfl (lv_at hl 0 rfl) ?_
      refine ql_getR C S qf_13_12 gw_1680 dX12_outputAt_32 w (fun r3 w => ?_)
      refine lv_iload_n C.1.1 C.1.2.1 dX12_outputAt_35 rfl (lv_at hl 1 rfl) ?_
      refine ql_cald C S dX12_outputAt_36 w (fun x4 w => ?_)
      exact ql_zret C S hr hlocks dX12_outputAt_37 ⟨Nat.le_of_ble_eq_true rfl, Nat.le_of_ble_eq_true rfl⟩ w
    · replace w := ql_ifn w c9
      refine lv_bipush (v := (32 : Int32)) C.1.1 C.1.2.1 dX12_outputAt_26 (by decide) ?_
      refine lv_goto (tgt := 37) C.1.1 C.1.2.1 dX12_outputAt_28 (by decide) ?_
      exact ql_zret C S hr hlocks dX12_outputAt_37 ⟨Nat.le_of_ble_eq_true rfl, Nat.le_of_ble_eq_true rfl⟩ w
  unfold qw_X12_outputAt at w
  refine ql_aload_n (r := (some a0)) C dX12_outputAt_0 rfl (lv_at hl 0 rfl) ?_
  refine lv_iload_n C.1.1 C.1.2.1 dX12_outputAt_1 rfl (lv_at hl 1 rfl) ?_
  refine lv_iconst (v := (0 : Int32)) C.1.1 C.1.2.1 dX12_outputAt_2 (by decide) ?_
  refine ql_aload_n (r := (some a0)) C dX12_outputAt_3 rfl (lv_at hl 0 rfl) ?_
  refine ql_getI C S qf_13_13 gw_1681 dX12_outputAt_4 w (fun x5 w => ?_)
  refine lv_iconst (v := (1 : Int32)) C.1.1 C.1.2.1 dX12_outputAt_7 (by decide) ?_
  refine lv_isub C.1.1 C.1.2.1 dX12_outputAt_8 ?_
  refine ql_SI (As := [.int xp1, .int (0 : Int32), .int (x5 - (1 : Int32))]) (rest := [.ref a0]) C S htab hlocks hl qy_X12_in qi_X12_in gw_1735 (qm_X12_in l hl9 D _ xp1 (0 : Int32) (x5 - (1 : Int32)) _ _ w) rfl ⟨Nat.le_of_ble_eq_true rfl, Nat.le_of_ble_eq_true rfl⟩ ⟨rfl, rfl⟩ (by exact Nat.le_of_ble_eq_true rfl) rfl dX12_outputAt_9 ⟨Nat.le_of_ble_eq_true rfl, Nat.le_of_ble_eq_true rfl⟩ ⟨Nat.le_of_ble_eq_true rfl, Nat.le_of_ble_eq_true rfl⟩ (fun x6 h H locs S w => ?_)
  refine W.cs (cells' := 0) (slots' := 0) rfl rfl ?_
  refine lv_if_eq (tgt := 19) C.1.1 C.1.2.1 dX12_outputAt_12 (by decide) (fun c9 => ?_) (fun c9 => ?_)
  · replace w := ql_if w c9
    refine lv_iconst (v := (1 : Int32)) C.1.1 C.1.2.1 dX12_outputAt_19 (by decide) ?_
    exact hB20 xp1 (some a0) (1 : Int32) _ _ _ _ S (lv_sub hl [0, 1] rfl) w
  · replace w := ql_ifn w c9
    refine lv_iconst (v := (0 : Int32)) C.1.1 C.1.2.1 dX12_outputAt_15 (by decide) ?_
    refine lv_goto (tgt := 20) C.1.1 C.1.2.1 dX12_outputAt_16 (by decide) ?_
    exact hB20 xp1 (some a0) (0 : Int32) _ _ _ _ S (lv_sub hl [0, 1] rfl) w
def qw_X12_type_30 (a0 : Nat) (Q : Int32 → ql_H → Prop) (xl1 : Int32) (rs0 : Option Nat) (xs1 : Int32) (h : ql_H) : Prop :=
ql_rv h rs0 13 fun b1 => qw_X12_fails b1 xs1 h (fun x1 h =>
if x1 = 0 then (ql_gR h (some a0) 13 8 fun r3 =>
ql_gI h (some a0) 13 9 fun x4 =>
ql_sI h r3 0 x4 xl1 fun h =>
ql_gI h (some a0) 13 9 fun x5 =>
ql_pV h (some a0) 13 9 (.int (x5 + (1 : Int32))) fun h =>
ql_gI h (some a0) 13 9 fun x6 =>
Q x6 h) else (Q (0 : Int32) h))
def qw_X12_type (a0 : Nat) (xp1 : Int32) (h : ql_H) (Q : Int32 → ql_H → Prop) : Prop :=
qw_X12_in xp1 (32 : Int32) (126 : Int32) h (fun x7 h =>
if x7 = 0 then (qw_X12_type_30 a0 Q xp1 (some a0) (1 : Int32) h) else (ql_gI h (some a0) 13 9 fun x8 =>
if x8 = (60 : Int32) then (qw_X12_type_30 a0 Q xp1 (some a0) (2 : Int32) h) else (qw_X12_type_30 a0 Q xp1 (some a0) (0 : Int32) h)))
set_option maxHeartbeats 4000000 in
set_option maxRecDepth 100000 in
theorem qm_X12_type (l : Launch) (hl9 : l.stackTraces = false) (D : ql_D) (h0 : ql_H) (a0 : Nat) (xp1 : Int32) (Q : Int32 → ql_H → Prop) (X : String → ql_H → Prop) (w : qw_X12_type a0 xp1 h0 Q) : ql_M D l yX12_type cX12_type 2 (some .int) ({ frames := 4, cells := 0, slots := 0, locals := 78 } : Room) h0 [.ref a0, .int xp1] (ql_rI Q) X 0 0 := by
  refine ql_ofW (by decide) (Nat.le_of_ble_eq_true rfl) ?_
  intro p e s m below meth c ls C hr hlocks hnm htab S hl
  have hl : lv_has ls 2 [(0, .ref a0), (1, .int xp1)] := hl
  have hB30 : ∀ (xl1 : Int32) (rs0 : Option Nat) (xs1 : Int32) (h : ql_H) (H : Heap) (locs : List Loc) (ls : Array Slot), ql_S D h0 s H locs h → lv_has ls 2 [(0, .ref a0), (1, .int xl1)] → qw_X12_type_30 a0 Q xl1 rs0 xs1 h → W p l e ({ frames := 4, cells := 0, slots := 0, locals := 78 } : Room) s m ([.ref a0, .int xp1] : List Value).toArray below meth c H locs 0 0 (vx_MQ below (ql_Q D h0 (ql_rI Q)) (ql_X D h0 X) ([.ref a0, .int xp1] : List Value).toArray s 0 0 (ql_A h0)) (F0 m 30 ls [.int xs1, va_rf rs0]) := by
    intro xl1 rs0 xs1 h H locs ls S hl w
    unfold qw_X12_type_30 at w
    refine ql_VI (As := [.int xs1]) (rest := []) C S htab hlocks hl qy_X12_fails qi_X12_fails qs_X12_fails gw_1749 (ci := 13) rfl w (fun b w => qm_X12_fails l hl9 D _ b xs1 _ _ w) rfl ⟨Nat.le_of_ble_eq_true rfl, Nat.le_of_ble_eq_true rfl⟩ ⟨rfl, rfl⟩ (by exact Nat.le_of_ble_eq_true rfl) (fun b e9 => by cases e9; rfl) dX12_type_30 ⟨Nat.le_of_ble_eq_true rfl, Nat.le_of_ble_eq_true rfl⟩ ⟨Nat.le_of_ble_eq_true rfl, Nat.le_of_ble_eq_true rfl⟩ (fun x1 h H locs S w => ?_)
    refine W.cs (cells' := 0) (slots' := 0) rfl rfl ?_
    refine lv_if_eq (tgt := 38) C.1.1 C.1.2.1 dX12_type_33 (by decide) (fun c9 => ?_) (fun c9 => ?_)
    · replace w := ql_if w c9
      refine ql_aload_n (r := (some a0)) C dX12_type_38 rfl (lv_at hl 0 rfl) ?_
      refine ql_getR C S qf_13_8 gw_1676 dX12_type_39 w (fun r3 w => ?_)
      refine ql_aload_n (r := (some a0)) C dX12_type_42 rfl (lv_at hl 0 rfl) ?_
      refine ql_getI C S qf_13_9 gw_1677 dX12_type_43 w (fun x4 w => ?_)
      refine lv_iload_n C.1.1 C.1.2.1 dX12_type_46 rfl (lv_at hl 1 rfl) ?_
      refine ql_iast C S dX12_type_47 w (fun h H locs S w => ?_)
      refine ql_aload_n (r := (some a0)) C dX12_type_48 rfl (lv_at hl 0 rfl) ?_
      refine lv_dup C.1.1 C.1.2.1 dX12_type_49 (ql_catR _) ?_
      refine ql_getI C S qf_13_9 gw_1677 dX12_type_50 w (fun x5 w => ?_)
      refine lv_iconst (v := (1 : Int32)) C.1.1 C.1.2.1 dX12_type_53 (by decide) ?_
      refine lv_iadd C.1.1 C.1.2.1 dX12_type_54 ?_
      refine ql_putV C S qf_13_9 gw_1677 (tyX12) tyX12_ok nmX12 rfl dX12_type_55 (v := .int (x5 + (1 : Int32))) rfl rfl w (fun h H locs S w => ?_)
      refine ql_aload_n (r := (some a0)) C dX12_type_58 rfl (lv_at hl 0 rfl) ?_
      refine ql_getI C S qf_13_9 gw_1677 dX12_type_59 w (fun x6 w => ?_)
      exact ql_iret C S hr hlocks dX12_type_62 ⟨Nat.le_of_ble_eq_true rfl, Nat.le_of_ble_eq_true rfl⟩ w
    · replace w := ql_ifn w c9
      refine lv_iconst (v := (0 : Int32)) C.1.1 C.1.2.1 dX12_type_36 (by decide) ?_
      exact ql_iret C S hr hlocks dX12_type_37 ⟨Nat.le_of_ble_eq_true rfl, Nat.le_of_ble_eq_true rfl⟩ w
  unfold qw_X12_type at w
  refine ql_aload_n (r := (some a0)) C dX12_type_0 rfl (lv_at hl 0 rfl) ?_
  refine lv_iload_n C.1.1 C.1.2.1 dX12_type_1 rfl (lv_at hl 1 rfl) ?_
  refine lv_bipush (v := (32 : Int32)) C.1.1 C.1.2.1 dX12_type_2 (by decide) ?_
  refine lv_bipush (v := (126 : Int32)) C.1.1 C.1.2.1 dX12_type_4 (by decide) ?_
  refine ql_SI (As := [.int xp1, .int (32 : Int32), .int (126 : Int32)]) (rest := [.ref a0]) C S htab hlocks hl qy_X12_in qi_X12_in gw_1735 (qm_X12_in l hl9 D _ xp1 (32 : Int32) (126 : Int32) _ _ w) rfl ⟨Nat.le_of_ble_eq_true rfl, Nat.le_of_ble_eq_true rfl⟩ ⟨rfl, rfl⟩ (by exact Nat.le_of_ble_eq_true rfl) rfl dX12_type_6 ⟨Nat.le_of_ble_eq_true rfl, Nat.le_of_ble_eq_true rfl⟩ ⟨Nat.le_of_ble_eq_true rfl, Nat.le_of_ble_eq_true rfl⟩ (fun x7 h H locs S w => ?_)
  refine W.cs (cells' := 0) (slots' := 0) rfl rfl ?_
  refine lv_if_ne (tgt := 16) C.1.1 C.1.2.1 dX12_type_9 (by decide) (fun c9 => ?_) (fun c9 => ?_)
  · replace w := ql_ifn w c9
    refine ql_aload_n (r := (some a0)) C dX12_type_16 rfl (lv_at hl 0 rfl) ?_
    refine ql_getI C S qf_13_9 gw_1677 dX12_type_17 w (fun x8 w => ?_)
    refine lv_bipush (v := (60 : Int32)) C.1.1 C.1.2.1 dX12_type_20 (by decide) ?_
    refine lv_icmp_ne (tgt := 29) C.1.1 C.1.2.1 dX12_type_22 (by decide) (fun c9 => ?_) (fun c9 => ?_)
    · replace w := ql_ifn w c9
      refine lv_iconst (v := (0 : Int32)) C.1.1 C.1.2.1 dX12_type_29 (by decide) ?_
      exact hB30 xp1 (some a0) (0 : Int32) _ _ _ _ S (lv_sub hl [0, 1] rfl) w
    · replace w := ql_if w c9
      refine lv_iconst (v := (2 : Int32)) C.1.1 C.1.2.1 dX12_type_25 (by decide) ?_
      refine lv_goto (tgt := 30) C.1.1 C.1.2.1 dX12_type_26 (by decide) ?_
      exact hB30 xp1 (some a0) (2 : Int32) _ _ _ _ S (lv_sub hl [0, 1] rfl) w
  · replace w := ql_if w c9
    refine lv_iconst (v := (1 : Int32)) C.1.1 C.1.2.1 dX12_type_12 (by decide) ?_
    refine lv_goto (tgt := 30) C.1.1 C.1.2.1 dX12_type_13 (by decide) ?_
    exact hB30 xp1 (some a0) (1 : Int32) _ _ _ _ S (lv_sub hl [0, 1] rfl) w
def qw_X12_here (a0 : Nat) (h : ql_H) (Q : Int32 → ql_H → Prop) : Prop :=
ql_gI h (some a0) 13 16 fun x1 =>
ql_gI h (some a0) 13 9 fun x2 =>
if x2 ≤ x1 then (Q (-1 : Int32) h) else (ql_gR h (some a0) 13 8 fun r3 =>
ql_gI h (some a0) 13 16 fun x4 =>
ql_lI h r3 0 x4 fun x5 =>
Q x5 h)
set_option maxHeartbeats 4000000 in
set_option maxRecDepth 100000 in
theorem qm_X12_here (l : Launch) (hl9 : l.stackTraces = false) (D : ql_D) (h0 : ql_H) (a0 : Nat) (Q : Int32 → ql_H → Prop) (X : String → ql_H → Prop) (w : qw_X12_here a0 h0 Q) : ql_M D l yX12_here cX12_here 1 (some .int) ({ frames := 2, cells := 0, slots := 0, locals := 48 } : Room) h0 [.ref a0] (ql_rI Q) X 0 0 := by
  refine ql_ofW (by decide) (Nat.le_of_ble_eq_true rfl) ?_
  intro p e s m below meth c ls C hr hlocks hnm htab S hl
  have hl : lv_has ls 1 [(0, .ref a0)] := hl
  unfold qw_X12_here at w
  refine ql_aload_n (r := (some a0)) C dX12_here_0 rfl (lv_at hl 0 rfl) ?_
  refine ql_getI C S qf_13_16 gw_1684 dX12_here_1 w (fun x1 w => ?_)
  refine ql_aload_n (r := (some a0)) C dX12_here_4 rfl (lv_at hl 0 rfl) ?_
  refine ql_getI C S qf_13_9 gw_1677 dX12_here_5 w (fun x2 w => ?_)
  refine lv_icmp_ge (tgt := 23) C.1.1 C.1.2.1 dX12_here_8 (by decide) (fun c9 => ?_) (fun c9 => ?_)
  · replace w := ql_if w c9
    refine lv_iconst (v := (-1 : Int32)) C.1.1 C.1.2.1 dX12_here_23 (by decide) ?_
    exact ql_iret C S hr hlocks dX12_here_24 ⟨Nat.le_of_ble_eq_true rfl, Nat.le_of_ble_eq_true rfl⟩ w
  · replace w := ql_ifn w c9
    refine ql_aload_n (r := (some a0)) C dX12_here_11 rfl (lv_at hl 0 rfl) ?_
    refine ql_getR C S qf_13_8 gw_1676 dX12_here_12 w (fun r3 w => ?_)
    refine ql_aload_n (r := (some a0)) C dX12_here_15 rfl (lv_at hl 0 rfl) ?_
    refine ql_getI C S qf_13_16 gw_1684 dX12_here_16 w (fun x4 w => ?_)
    refine ql_iald C S dX12_here_19 w (fun x5 w => ?_)
    refine lv_goto (tgt := 24) C.1.1 C.1.2.1 dX12_here_20 (by decide) ?_
    exact ql_iret C S hr hlocks dX12_here_24 ⟨Nat.le_of_ble_eq_true rfl, Nat.le_of_ble_eq_true rfl⟩ w
def qw_X12_skips (a0 : Nat) (xp1 : Int32) (h : ql_H) (Q : Int32 → ql_H → Prop) : Prop :=
ql_rv h (some a0) 13 fun b1 => qw_X12_here b1  h (fun x1 h =>
if x1 = xp1 then (ql_gI h (some a0) 13 16 fun x3 =>
ql_pV h (some a0) 13 16 (.int (x3 + (1 : Int32))) fun h =>
ql_nz .boolean (1 : Int32) ∧ Q (1 : Int32) h) else (ql_nz .boolean (0 : Int32) ∧ Q (0 : Int32) h))
set_option maxHeartbeats 4000000 in
set_option maxRecDepth 100000 in
theorem qm_X12_skips (l : Launch) (hl9 : l.stackTraces = false) (D : ql_D) (h0 : ql_H) (a0 : Nat) (xp1 : Int32) (Q : Int32 → ql_H → Prop) (X : String → ql_H → Prop) (w : qw_X12_skips a0 xp1 h0 Q) : ql_M D l yX12_skips cX12_skips 2 (some .boolean) ({ frames := 4, cells := 0, slots := 0, locals := 76 } : Room) h0 [.ref a0, .int xp1] (ql_rI Q) X 0 0 := by
  refine ql_ofW (by decide) (Nat.le_of_ble_eq_true rfl) ?_
  intro p e s m below meth c ls C hr hlocks hnm htab S hl
  have hl : lv_has ls 2 [(0, .ref a0), (1, .int xp1)] := hl
  unfold qw_X12_skips at w
  refine ql_aload_n (r := (some a0)) C dX12_skips_0 rfl (lv_at hl 0 rfl) ?_
  refine ql_VI (As := []) (rest := []) C S htab hlocks hl qy_X12_here qi_X12_here qs_X12_here gw_2079 (ci := 13) rfl w (fun b w => qm_X12_here l hl9 D _ b _ _ w) rfl ⟨Nat.le_of_ble_eq_true rfl, Nat.le_of_ble_eq_true rfl⟩ ⟨rfl, rfl⟩ (by exact Nat.le_of_ble_eq_true rfl) (fun b e9 => by cases e9; rfl) dX12_skips_1 ⟨Nat.le_of_ble_eq_true rfl, Nat.le_of_ble_eq_true rfl⟩ ⟨Nat.le_of_ble_eq_true rfl, Nat.le_of_ble_eq_true rfl⟩ (fun x1 h H locs S w => ?_)
  refine W.cs (cells' := 0) (slots' := 0) rfl rfl ?_
  refine lv_iload_n C.1.1 C.1.2.1 dX12_skips_4 rfl (lv_at hl 1 rfl) ?_
  refine lv_icmp_eq (tgt := 10) C.1.1 C.1.2.1 dX12_skips_5 (by decide) (fun c9 => ?_) (fun c9 => ?_)
  · replace w := ql_if w c9
    refine ql_aload_n (r := (some a0)) C dX12_skips_10 rfl (lv_at hl 0 rfl) ?_
    refine lv_dup C.1.1 C.1.2.1 dX12_skips_11 (ql_catR _) ?_
    refine ql_getI C S qf_13_16 gw_1684 dX12_skips_12 w (fun x3 w => ?_)
    refine lv_iconst (v := (1 : Int32)) C.1.1 C.1.2.1 dX12_skips_15 (by decide) ?_
    refine lv_iadd C.1.1 C.1.2.1 dX12_skips_16 ?_
    refine ql_putV C S qf_13_16 gw_1684 (tyX12) tyX12_ok nmX12 rfl dX12_skips_17 (v := .int (x3 + (1 : Int32))) rfl rfl w (fun h H locs S w => ?_)
    refine lv_iconst (v := (1 : Int32)) C.1.1 C.1.2.1 dX12_skips_20 (by decide) ?_
    exact ql_zret C S hr hlocks dX12_skips_21 ⟨Nat.le_of_ble_eq_true rfl, Nat.le_of_ble_eq_true rfl⟩ w
  · replace w := ql_ifn w c9
    refine lv_iconst (v := (0 : Int32)) C.1.1 C.1.2.1 dX12_skips_8 (by decide) ?_
    exact ql_zret C S hr hlocks dX12_skips_9 ⟨Nat.le_of_ble_eq_true rfl, Nat.le_of_ble_eq_true rfl⟩ w
