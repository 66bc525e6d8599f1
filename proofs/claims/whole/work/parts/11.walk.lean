def qw_X1_dayOfEdition (a0 : Nat) (xp1 : Int32) (h : ql_H) (Q : Int32 → ql_H → Prop) : Prop :=
ql_gR h (some a0) 4 8 fun r1 =>
qw_X1_placeOfEdition xp1 h (fun x2 h =>
ql_lI h r1 0 x2 fun x3 =>
Q x3 h)
set_option maxHeartbeats 4000000 in
set_option maxRecDepth 100000 in
theorem qm_X1_dayOfEdition (l : Launch) (hl9 : l.stackTraces = false) (D : ql_D) (h0 : ql_H) (a0 : Nat) (xp1 : Int32) (Q : Int32 → ql_H → Prop) (X : String → ql_H → Prop) (w : qw_X1_dayOfEdition a0 xp1 h0 Q) : ql_M D l yX1_dayOfEdition cX1_dayOfEdition 2 (some .int) ({ frames := 6, cells := 0, slots := 0, locals := 106 } : Room) h0 [.ref a0, .int xp1] (ql_rI Q) X 0 0 := by
  refine ql_ofW (by decide) (Nat.le_of_ble_eq_true rfl) ?_
  intro p e s m below meth c ls C hr hlocks hnm htab S hl
  have hl : lv_has ls 2 [(0, .ref a0), (1, .int xp1)] := hl
  unfold qw_X1_dayOfEdition at w
  refine ql_aload_n (r := (some a0)) C dX1_dayOfEdition_0 rfl (lv_at hl 0 rfl) ?_
  refine ql_getR C S qf_4_8 gw_182 dX1_dayOfEdition_1 w (fun r1 w => ?_)
  refine lv_iload_n C.1.1 C.1.2.1 dX1_dayOfEdition_4 rfl (lv_at hl 1 rfl) ?_
  refine ql_SI (As := [.int xp1]) (rest := [va_rf r1]) C S htab hlocks hl qy_X1_placeOfEdition qi_X1_placeOfEdition gw_475 (qm_X1_placeOfEdition l hl9 D _ xp1 _ _ w) rfl ⟨Nat.le_of_ble_eq_true rfl, Nat.le_of_ble_eq_true rfl⟩ ⟨rfl, rfl⟩ (by generalize r1 = z0; cases z0 <;> exact Nat.le_of_ble_eq_true rfl) rfl dX1_dayOfEdition_5 ⟨Nat.le_of_ble_eq_true rfl, Nat.le_of_ble_eq_true rfl⟩ ⟨Nat.le_of_ble_eq_true rfl, Nat.le_of_ble_eq_true rfl⟩ (fun x2 h H locs S w => ?_)
  refine W.cs (cells' := 0) (slots' := 0) rfl rfl ?_
  refine ql_iald C S dX1_dayOfEdition_8 w (fun x3 w => ?_)
  exact ql_iret C S hr hlocks dX1_dayOfEdition_9 ⟨Nat.le_of_ble_eq_true rfl, Nat.le_of_ble_eq_true rfl⟩ w
def qw_X1_countHoldingOn_47 (a0 : Nat) (Q : Int32 → ql_H → Prop) (k14 : Int32 → Int32 → Option Nat → Int32 → Int32 → ql_H → Prop) (xl1 : Int32) (xl2 : Int32) (rl3 : Option Nat) (xl4 : Int32) (xl5 : Int32) (h : ql_H) : Prop :=
k14 xl1 xl2 rl3 xl4 (xl5 + (1 : Int32)) h
def qw_X1_countHoldingOn_14 (a0 : Nat) (Q : Int32 → ql_H → Prop) : Nat → Int32 → Int32 → Option Nat → Int32 → Int32 → ql_H → Prop
  | 0, _, _, _, _, _, _ => False
  | n + 1, xl1, xl2, rl3, xl4, xl5, h =>
    if xl4 ≤ xl5 then (Q xl2 h) else (ql_lR h rl3 5 xl5 fun r1 =>
    ql_gI h r1 6 0 fun x2 =>
    if x2 = 0 then (qw_X1_countHoldingOn_47 a0 Q (qw_X1_countHoldingOn_14 a0 Q n) xl1 xl2 rl3 xl4 xl5 h) else (ql_rv h r1 6 fun b3 => qw_X3_holdsOn b3 xl1 h (fun x3 h =>
    if x3 = 0 then (qw_X1_countHoldingOn_47 a0 Q (qw_X1_countHoldingOn_14 a0 Q n) xl1 xl2 rl3 xl4 xl5 h) else (qw_X1_countHoldingOn_47 a0 Q (qw_X1_countHoldingOn_14 a0 Q n) xl1 (xl2 + (1 : Int32)) rl3 xl4 xl5 h))))
def qw_X1_countHoldingOn (a0 : Nat) (xp1 : Int32) (h : ql_H) (Q : Int32 → ql_H → Prop) : Prop :=
ql_gR h (some a0) 4 0 fun r5 =>
ql_len h r5 5 fun x6 =>
qw_X1_countHoldingOn_14 a0 Q ql_FU xp1 (0 : Int32) r5 x6 (0 : Int32) h
set_option maxHeartbeats 4000000 in
set_option maxRecDepth 100000 in
theorem qm_X1_countHoldingOn (l : Launch) (hl9 : l.stackTraces = false) (D : ql_D) (h0 : ql_H) (a0 : Nat) (xp1 : Int32) (Q : Int32 → ql_H → Prop) (X : String → ql_H → Prop) (w : qw_X1_countHoldingOn a0 xp1 h0 Q) : ql_M D l yX1_countHoldingOn cX1_countHoldingOn 7 (some .int) ({ frames := 6, cells := 0, slots := 0, locals := 105 } : Room) h0 [.ref a0, .int xp1] (ql_rI Q) X 0 0 := by
  refine ql_ofW (by decide) (Nat.le_of_ble_eq_true rfl) ?_
  intro p e s m below meth c ls C hr hlocks hnm htab S hl
  have hl : lv_has ls 7 [(0, .ref a0), (1, .int xp1)] := hl
  have hB47 : ∀ (k14 : Int32 → Int32 → Option Nat → Int32 → Int32 → ql_H → Prop) (hk14 : ∀ (xl1 : Int32) (xl2 : Int32) (rl3 : Option Nat) (xl4 : Int32) (xl5 : Int32) (h : ql_H) (H : Heap) (locs : List Loc) (ls : Array Slot), ql_S D h0 s H locs h → lv_has ls 7 [(1, .int xl1), (2, .int xl2), (3, va_rf rl3), (4, .int xl4), (5, .int xl5)] → k14 xl1 xl2 rl3 xl4 xl5 h → W p l e ({ frames := 6, cells := 0, slots := 0, locals := 105 } : Room) s m ([.ref a0, .int xp1] : List Value).toArray below meth c H locs 0 0 (vx_MQ below (ql_Q D h0 (ql_rI Q)) (ql_X D h0 X) ([.ref a0, .int xp1] : List Value).toArray s 0 0 (ql_A h0)) (F0 m 14 ls [])) , ∀ (xl1 : Int32) (xl2 : Int32) (rl3 : Option Nat) (xl4 : Int32) (xl5 : Int32) (h : ql_H) (H : Heap) (locs : List Loc) (ls : Array Slot), ql_S D h0 s H locs h → lv_has ls 7 [(1, .int xl1), (2, .int xl2), (3, va_rf rl3), (4, .int xl4), (5, .int xl5)] → qw_X1_countHoldingOn_47 a0 Q k14 xl1 xl2 rl3 xl4 xl5 h → W p l e ({ frames := 6, cells := 0, slots := 0, locals := 105 } : Room) s m ([.ref a0, .int xp1] : List Value).toArray below meth c H locs 0 0 (vx_MQ below (ql_Q D h0 (ql_rI Q)) (ql_X D h0 X) ([.ref a0, .int xp1] : List Value).toArray s 0 0 (ql_A h0)) (F0 m 47 ls []) := by
    intro k14 hk14 xl1 xl2 rl3 xl4 xl5 h H locs ls S hl w
    unfold qw_X1_countHoldingOn_47 at w
    refine lv_iinc (v := (xl5 + (1 : Int32))) (lv' := [(5, .int (xl5 + (1 : Int32))), (1, .int xl1), (2, .int xl2), (3, va_rf rl3), (4, .int xl4)]) C.1.1 C.1.2.1 dX1_countHoldingOn_47 hl (k := 4) rfl rfl (by decide) rfl (fun ls hl => ?_)
    refine lv_goto (tgt := 14) C.1.1 C.1.2.1 dX1_countHoldingOn_50 (by decide) ?_
    exact hk14 xl1 xl2 rl3 xl4 (xl5 + (1 : Int32)) _ _ _ _ S (lv_sub hl [1, 2, 3, 4, 0] rfl) w
  have hB14 : ∀ n : Nat, ∀ (xl1 : Int32) (xl2 : Int32) (rl3 : Option Nat) (xl4 : Int32) (xl5 : Int32) (h : ql_H) (H : Heap) (locs : List Loc) (ls : Array Slot), ql_S D h0 s H locs h → lv_has ls 7 [(1, .int xl1), (2, .int xl2), (3, va_rf rl3), (4, .int xl4), (5, .int xl5)] → qw_X1_countHoldingOn_14 a0 Q n xl1 xl2 rl3 xl4 xl5 h → W p l e ({ frames := 6, cells := 0, slots := 0, locals := 105 } : Room) s m ([.ref a0, .int xp1] : List Value).toArray below meth c H locs 0 0 (vx_MQ below (ql_Q D h0 (ql_rI Q)) (ql_X D h0 X) ([.ref a0, .int xp1] : List Value).toArray s 0 0 (ql_A h0)) (F0 m 14 ls []) := by
    intro n
    induction n with
    | zero => intro xl1 xl2 rl3 xl4 xl5 h H locs ls S hl w; rw [qw_X1_countHoldingOn_14] at w; exact w.elim
    | succ n ih =>
      intro xl1 xl2 rl3 xl4 xl5 h H locs ls S hl w
      rw [qw_X1_countHoldingOn_14] at w
      refine lv_iload C.1.1 C.1.2.1 dX1_countHoldingOn_14 (lv_at hl 4 rfl) ?_
      refine lv_iload C.1.1 C.1.2.1 dX1_countHoldingOn_16 (lv_at hl 3 rfl) ?_
      refine lv_icmp_ge (tgt := 53) C.1.1 C.1.2.1 dX1_countHoldingOn_18 (by decide) (fun c9 => ?_) (fun c9 => ?_)
      · replace w := ql_if w c9
        refine lv_iload_n C.1.1 C.1.2.1 dX1_countHoldingOn_53 rfl (lv_at hl 1 rfl) ?_
        exact ql_iret C S hr hlocks dX1_countHoldingOn_54 ⟨Nat.le_of_ble_eq_true rfl, Nat.le_of_ble_eq_true rfl⟩ w
      · replace w := ql_ifn w c9
        refine ql_aload_n (r := rl3) C dX1_countHoldingOn_21 rfl (lv_at hl 2 rfl) ?_
        refine lv_iload C.1.1 C.1.2.1 dX1_countHoldingOn_22 (lv_at hl 4 rfl) ?_
        refine ql_aald (kd := 5) C S rfl rfl dX1_countHoldingOn_24 w (fun r1 w => ?_)
        refine ql_astore (lv' := [(6, va_rf r1), (1, .int xl1), (2, .int xl2), (3, va_rf rl3), (4, .int xl4), (5, .int xl5)]) C dX1_countHoldingOn_25 hl (by decide) rfl (fun ls hl => ?_)
        refine ql_aload (r := r1) C dX1_countHoldingOn_27 (lv_at hl 0 rfl) ?_
        refine ql_getIN C S qf_6_0 (qn_RX1_144) dX1_countHoldingOn_29 w (fun x2 w => ?_)
        refine lv_if_eq (tgt := 47) C.1.1 C.1.2.1 dX1_countHoldingOn_32 (by decide) (fun c9 => ?_) (fun c9 => ?_)
        · replace w := ql_if w c9
          exact hB47 (qw_X1_countHoldingOn_14 a0 Q n) ih xl1 xl2 rl3 xl4 xl5 _ _ _ _ S (lv_sub hl [1, 2, 3, 4, 5] rfl) w
        · replace w := ql_ifn w c9
          refine ql_aload (r := r1) C dX1_countHoldingOn_35 (lv_at hl 0 rfl) ?_
          refine lv_iload_n C.1.1 C.1.2.1 dX1_countHoldingOn_37 rfl (lv_at hl 1 rfl) ?_
          refine ql_VI (As := [.int xl1]) (rest := []) C S htab hlocks hl qy_X3_holdsOn qi_X3_holdsOn qs_X3_holdsOn gw_645 (ci := 6) rfl w (fun b w => qm_X3_holdsOn l hl9 D _ b xl1 _ _ w) rfl ⟨Nat.le_of_ble_eq_true rfl, Nat.le_of_ble_eq_true rfl⟩ ⟨rfl, rfl⟩ (by exact Nat.le_of_ble_eq_true rfl) (fun b e9 => by cases e9; rfl) dX1_countHoldingOn_38 ⟨Nat.le_of_ble_eq_true rfl, Nat.le_of_ble_eq_true rfl⟩ ⟨Nat.le_of_ble_eq_true rfl, Nat.le_of_ble_eq_true rfl⟩ (fun x3 h H locs S w => ?_)
          refine W.cs (cells' := 0) (slots' := 0) rfl rfl ?_
          refine lv_if_eq (tgt := 47) C.1.1 C.1.2.1 dX1_countHoldingOn_41 (by decide) (fun c9 => ?_) (fun c9 => ?_)
          · replace w := ql_if w c9
            exact hB47 (qw_X1_countHoldingOn_14 a0 Q n) ih xl1 xl2 rl3 xl4 xl5 _ _ _ _ S (lv_sub hl [1, 2, 3, 4, 5] rfl) w
          · replace w := ql_ifn w c9
            refine lv_iinc (v := (xl2 + (1 : Int32))) (lv' := [(2, .int (xl2 + (1 : Int32))), (6, va_rf r1), (1, .int xl1), (3, va_rf rl3), (4, .int xl4), (5, .int xl5)]) C.1.1 C.1.2.1 dX1_countHoldingOn_44 hl (k := 2) rfl rfl (by decide) rfl (fun ls hl => ?_)
            exact hB47 (qw_X1_countHoldingOn_14 a0 Q n) ih xl1 (xl2 + (1 : Int32)) rl3 xl4 xl5 _ _ _ _ S (lv_sub hl [2, 0, 3, 4, 5] rfl) w
  unfold qw_X1_countHoldingOn at w
  refine lv_iconst (v := (0 : Int32)) C.1.1 C.1.2.1 dX1_countHoldingOn_0 (by decide) ?_
  refine lv_istore_n (lv' := [(2, .int (0 : Int32)), (0, .ref a0), (1, .int xp1)]) C.1.1 C.1.2.1 dX1_countHoldingOn_1 rfl hl (by decide) rfl (fun ls hl => ?_)
  refine ql_aload_n (r := (some a0)) C dX1_countHoldingOn_2 rfl (lv_at hl 1 rfl) ?_
  refine ql_getR C S qf_4_0 gw_166 dX1_countHoldingOn_3 w (fun r5 w => ?_)
  refine ql_astore_n (lv' := [(3, va_rf r5), (2, .int (0 : Int32)), (0, .ref a0), (1, .int xp1)]) C dX1_countHoldingOn_6 rfl hl (by decide) rfl (fun ls hl => ?_)
  refine ql_aload_n (r := r5) C dX1_countHoldingOn_7 rfl (lv_at hl 0 rfl) ?_
  refine ql_alen (kd := 5) C S rfl dX1_countHoldingOn_8 w (fun x6 w => ?_)
  refine lv_istore (lv' := [(4, .int x6), (3, va_rf r5), (2, .int (0 : Int32)), (0, .ref a0), (1, .int xp1)]) C.1.1 C.1.2.1 dX1_countHoldingOn_9 hl (by decide) (by generalize r5 = z9; cases z9 <;> rfl) (fun ls hl => ?_)
  refine lv_iconst (v := (0 : Int32)) C.1.1 C.1.2.1 dX1_countHoldingOn_11 (by decide) ?_
  refine lv_istore (lv' := [(5, .int (0 : Int32)), (4, .int x6), (3, va_rf r5), (2, .int (0 : Int32)), (0, .ref a0), (1, .int xp1)]) C.1.1 C.1.2.1 dX1_countHoldingOn_12 hl (by decide) rfl (fun ls hl => ?_)
  exact hB14 ql_FU xp1 (0 : Int32) r5 x6 (0 : Int32) _ _ _ _ S (lv_sub hl [5, 3, 2, 1, 0] rfl) w
def qw_X1_countNotes_44 (a0 : Nat) (Q : Int32 → ql_H → Prop) (k13 : Int32 → Option Nat → Int32 → Int32 → ql_H → Prop) (xl1 : Int32) (rl2 : Option Nat) (xl3 : Int32) (xl4 : Int32) (h : ql_H) : Prop :=
k13 xl1 rl2 xl3 (xl4 + (1 : Int32)) h
def qw_X1_countNotes_13 (a0 : Nat) (Q : Int32 → ql_H → Prop) : Nat → Int32 → Option Nat → Int32 → Int32 → ql_H → Prop
  | 0, _, _, _, _, _ => False
  | n + 1, xl1, rl2, xl3, xl4, h =>
    if xl3 ≤ xl4 then (Q xl1 h) else (ql_lR h rl2 5 xl4 fun r1 =>
    ql_gI h r1 6 0 fun x2 =>
    if x2 = 0 then (qw_X1_countNotes_44 a0 Q (qw_X1_countNotes_13 a0 Q n) xl1 rl2 xl3 xl4 h) else (ql_rv h r1 6 fun b3 => qw_X3_latestText b3  h (fun j3 h =>
    qw_X9_lengthOf j3 h (fun x5 h =>
    qw_X1_countNotes_44 a0 Q (qw_X1_countNotes_13 a0 Q n) (xl1 + x5) rl2 xl3 xl4 h))))
def qw_X1_countNotes (a0 : Nat) (h : ql_H) (Q : Int32 → ql_H → Prop) : Prop :=
ql_gR h (some a0) 4 0 fun r6 =>
ql_len h r6 5 fun x7 =>
qw_X1_countNotes_13 a0 Q ql_FU (0 : Int32) r6 x7 (0 : Int32) h
set_option maxHeartbeats 4000000 in
set_option maxRecDepth 100000 in
theorem qm_X1_countNotes (l : Launch) (hl9 : l.stackTraces = false) (D : ql_D) (h0 : ql_H) (a0 : Nat) (Q : Int32 → ql_H → Prop) (X : String → ql_H → Prop) (w : qw_X1_countNotes a0 h0 Q) : ql_M D l yX1_countNotes cX1_countNotes 6 (some .int) ({ frames := 6, cells := 0, slots := 0, locals := 108 } : Room) h0 [.ref a0] (ql_rI Q) X 0 0 := by
  refine ql_ofW (by decide) (Nat.le_of_ble_eq_true rfl) ?_
  intro p e s m below meth c ls C hr hlocks hnm htab S hl
  have hl : lv_has ls 6 [(0, .ref a0)] := hl
  have hB44 : ∀ (k13 : Int32 → Option Nat → Int32 → Int32 → ql_H → Prop) (hk13 : ∀ (xl1 : Int32) (rl2 : Option Nat) (xl3 : Int32) (xl4 : Int32) (h : ql_H) (H : Heap) (locs : List Loc) (ls : Array Slot), ql_S D h0 s H locs h → lv_has ls 6 [(1, .int xl1), (2, va_rf rl2), (3, .int xl3), (4, .int xl4)] → k13 xl1 rl2 xl3 xl4 h → W p l e ({ frames := 6, cells := 0, slots := 0, locals := 108 } : Room) s m ([.ref a0] : List Value).toArray below meth c H locs 0 0 (vx_MQ below (ql_Q D h0 (ql_rI Q)) (ql_X D h0 X) ([.ref a0] : List Value).toArray s 0 0 (ql_A h0)) (F0 m 13 ls [])) , ∀ (xl1 : Int32) (rl2 : Option Nat) (xl3 : Int32) (xl4 : Int32) (h : ql_H) (H : Heap) (locs : List Loc) (ls : Array Slot), ql_S D h0 s H locs h → lv_has ls 6 [(1, .int xl1), (2, va_rf rl2), (3, .int xl3), (4, .int xl4)] → qw_X1_countNotes_44 a0 Q k13 xl1 rl2 xl3 xl4 h → W p l e ({ frames := 6, cells := 0, slots := 0, locals := 108 } : Room) s m ([.ref a0] : List Value).toArray below meth c H locs 0 0 (vx_MQ below (ql_Q D h0 (ql_rI Q)) (ql_X D h0 X) ([.ref a0] : List Value).toArray s 0 0 (ql_A h0)) (F0 m 44 ls []) := by
    intro k13 hk13 xl1 rl2 xl3 xl4 h H locs ls S hl w
    unfold qw_X1_countNotes_44 at w
    refine lv_iinc (v := (xl4 + (1 : Int32))) (lv' := [(4, .int (xl4 + (1 : Int32))), (1, .int xl1), (2, va_rf rl2), (3, .int xl3)]) C.1.1 C.1.2.1 dX1_countNotes_44 hl (k := 3) rfl rfl (by decide) rfl (fun ls hl => ?_)
    refine lv_goto (tgt := 13) C.1.1 C.1.2.1 dX1_countNotes_47 (by decide) ?_
    exact hk13 xl1 rl2 xl3 (xl4 + (1 : Int32)) _ _ _ _ S (lv_sub hl [1, 2, 3, 0] rfl) w
  have hB13 : ∀ n : Nat, ∀ (xl1 : Int32) (rl2 : Option Nat) (xl3 : Int32) (xl4 : Int32) (h : ql_H) (H : Heap) (locs : List Loc) (ls : Array Slot), ql_S D h0 s H locs h → lv_has ls 6 [(1, .int xl1), (2, va_rf rl2), (3, .int xl3), (4, .int xl4)] → qw_X1_countNotes_13 a0 Q n xl1 rl2 xl3 xl4 h → W p l e ({ frames := 6, cells := 0, slots := 0, locals := 108 } : Room) s m ([.ref a0] : List Value).toArray below meth c H locs 0 0 (vx_MQ below (ql_Q D h0 (ql_rI Q)) (ql_X D h0 X) ([.ref a0] : List Value).toArray s 0 0 (ql_A h0)) (F0 m 13 ls []) := by
    intro n
    induction n with
    | zero => intro xl1 rl2 xl3 xl4 h H locs ls S hl w; rw [qw_X1_countNotes_13] at w; exact w.elim
    | succ n ih =>
      intro xl1 rl2 xl3 xl4 h H locs ls S hl w
      rw [qw_X1_countNotes_13] at w
      refine lv_iload C.1.1 C.1.2.1 dX1_countNotes_13 (lv_at hl 3 rfl) ?_
      refine lv_iload_n C.1.1 C.1.2.1 dX1_countNotes_15 rfl (lv_at hl 2 rfl) ?_
      refine lv_icmp_ge (tgt := 50) C.1.1 C.1.2.1 dX1_countNotes_16 (by decide) (fun c9 => ?_) (fun c9 => ?_)
      · replace w := ql_if w c9
        refine lv_iload_n C.1.1 C.1.2.1 dX1_countNotes_50 rfl (lv_at hl 0 rfl) ?_
        exact ql_iret C S hr hlocks dX1_countNotes_51 ⟨Nat.le_of_ble_eq_true rfl, Nat.le_of_ble_eq_true rfl⟩ w
      · replace w := ql_ifn w c9
        refine ql_aload_n (r := rl2) C dX1_countNotes_19 rfl (lv_at hl 1 rfl) ?_
        refine lv_iload C.1.1 C.1.2.1 dX1_countNotes_20 (lv_at hl 3 rfl) ?_
        refine ql_aald (kd := 5) C S rfl rfl dX1_countNotes_22 w (fun r1 w => ?_)
        refine ql_astore (lv' := [(5, va_rf r1), (1, .int xl1), (2, va_rf rl2), (3, .int xl3), (4, .int xl4)]) C dX1_countNotes_23 hl (by decide) rfl (fun ls hl => ?_)
        refine ql_aload (r := r1) C dX1_countNotes_25 (lv_at hl 0 rfl) ?_
        refine ql_getIN C S qf_6_0 (qn_RX1_144) dX1_countNotes_27 w (fun x2 w => ?_)
        refine lv_if_eq (tgt := 44) C.1.1 C.1.2.1 dX1_countNotes_30 (by decide) (fun c9 => ?_) (fun c9 => ?_)
        · replace w := ql_if w c9
          exact hB44 (qw_X1_countNotes_13 a0 Q n) ih xl1 rl2 xl3 xl4 _ _ _ _ S (lv_sub hl [1, 2, 3, 4] rfl) w
        · replace w := ql_ifn w c9
          refine lv_iload_n C.1.1 C.1.2.1 dX1_countNotes_33 rfl (lv_at hl 1 rfl) ?_
          refine ql_aload (r := r1) C dX1_countNotes_34 (lv_at hl 0 rfl) ?_
          refine ql_VJ (As := []) (rest := [.int xl1]) C S htab hlocks hl qy_X3_latestText qi_X3_latestText qs_X3_latestText gw_845 (ci := 6) rfl w (fun b w => qm_X3_latestText l hl9 D _ b _ _ w) rfl ⟨Nat.le_of_ble_eq_true rfl, Nat.le_of_ble_eq_true rfl⟩ ⟨rfl, rfl⟩ (by exact Nat.le_of_ble_eq_true rfl) (fun b e9 => by cases e9; rfl) dX1_countNotes_36 ⟨Nat.le_of_ble_eq_true rfl, Nat.le_of_ble_eq_true rfl⟩ ⟨Nat.le_of_ble_eq_true rfl, Nat.le_of_ble_eq_true rfl⟩ (fun j3 h H locs S w => ?_)
          refine W.cs (cells' := 0) (slots' := 0) rfl rfl ?_
          refine ql_SI (As := [.long j3]) (rest := [.int xl1]) C S htab hlocks hl qy_X9_lengthOf qi_X9_lengthOf gw_846 (qm_X9_lengthOf l hl9 D _ j3 _ _ w) rfl ⟨Nat.le_of_ble_eq_true rfl, Nat.le_of_ble_eq_true rfl⟩ ⟨rfl, rfl⟩ (by exact Nat.le_of_ble_eq_true rfl) rfl dX1_countNotes_39 ⟨Nat.le_of_ble_eq_true rfl, Nat.le_of_ble_eq_true rfl⟩ ⟨Nat.le_of_ble_eq_true rfl, Nat.le_of_ble_eq_true rfl⟩ (fun x5 h H locs S w => ?_)
          refine W.cs (cells' := 0) (slots' := 0) rfl rfl ?_
          refine lv_iadd C.1.1 C.1.2.1 dX1_countNotes_42 ?_
          refine lv_istore_n (lv' := [(1, .int (xl1 + x5)), (5, va_rf r1), (2, va_rf rl2), (3, .int xl3), (4, .int xl4)]) C.1.1 C.1.2.1 dX1_countNotes_43 rfl hl (by decide) rfl (fun ls hl => ?_)
          exact hB44 (qw_X1_countNotes_13 a0 Q n) ih (xl1 + x5) rl2 xl3 xl4 _ _ _ _ S (lv_sub hl [0, 2, 3, 4] rfl) w
  unfold qw_X1_countNotes at w
  refine lv_iconst (v := (0 : Int32)) C.1.1 C.1.2.1 dX1_countNotes_0 (by decide) ?_
  refine lv_istore_n (lv' := [(1, .int (0 : Int32)), (0, .ref a0)]) C.1.1 C.1.2.1 dX1_countNotes_1 rfl hl (by decide) rfl (fun ls hl => ?_)
  refine ql_aload_n (r := (some a0)) C dX1_countNotes_2 rfl (lv_at hl 1 rfl) ?_
  refine ql_getR C S qf_4_0 gw_166 dX1_countNotes_3 w (fun r6 w => ?_)
  refine ql_astore_n (lv' := [(2, va_rf r6), (1, .int (0 : Int32)), (0, .ref a0)]) C dX1_countNotes_6 rfl hl (by decide) rfl (fun ls hl => ?_)
  refine ql_aload_n (r := r6) C dX1_countNotes_7 rfl (lv_at hl 0 rfl) ?_
  refine ql_alen (kd := 5) C S rfl dX1_countNotes_8 w (fun x7 w => ?_)
  refine lv_istore_n (lv' := [(3, .int x7), (2, va_rf r6), (1, .int (0 : Int32)), (0, .ref a0)]) C.1.1 C.1.2.1 dX1_countNotes_9 rfl hl (by decide) (by generalize r6 = z9; cases z9 <;> rfl) (fun ls hl => ?_)
  refine lv_iconst (v := (0 : Int32)) C.1.1 C.1.2.1 dX1_countNotes_10 (by decide) ?_
  refine lv_istore (lv' := [(4, .int (0 : Int32)), (3, .int x7), (2, va_rf r6), (1, .int (0 : Int32)), (0, .ref a0)]) C.1.1 C.1.2.1 dX1_countNotes_11 hl (by decide) rfl (fun ls hl => ?_)
  exact hB13 ql_FU (0 : Int32) r6 x7 (0 : Int32) _ _ _ _ S (lv_sub hl [3, 2, 1, 0] rfl) w
def qw_X1_countBrokenCites_87 (a0 : Nat) (Q : Int32 → ql_H → Prop) (k47 : Int32 → Option Nat → Int32 → Int32 → Option Nat → Int32 → Int32 → ql_H → Prop) (xl1 : Int32) (rl2 : Option Nat) (xl3 : Int32) (xl4 : Int32) (rl5 : Option Nat) (xl6 : Int32) (xl7 : Int32) (h : ql_H) : Prop :=
k47 xl1 rl2 xl3 xl4 rl5 xl6 (xl7 + (1 : Int32)) h
def qw_X1_countBrokenCites_84 (a0 : Nat) (Q : Int32 → ql_H → Prop) (k47 : Int32 → Option Nat → Int32 → Int32 → Option Nat → Int32 → Int32 → ql_H → Prop) (xl1 : Int32) (rl2 : Option Nat) (xl3 : Int32) (xl4 : Int32) (rl5 : Option Nat) (xl6 : Int32) (xl7 : Int32) (h : ql_H) : Prop :=
qw_X1_countBrokenCites_87 a0 Q k47 (xl1 + (1 : Int32)) rl2 xl3 xl4 rl5 xl6 xl7 h
def qw_X1_countBrokenCites_47 (a0 : Nat) (Q : Int32 → ql_H → Prop) (k13 : Int32 → Option Nat → Int32 → Int32 → ql_H → Prop) : Nat → Int32 → Option Nat → Int32 → Int32 → Option Nat → Int32 → Int32 → ql_H → Prop
  | 0, _, _, _, _, _, _, _, _ => False
  | n + 1, xl1, rl2, xl3, xl4, rl5, xl6, xl7, h =>
    if xl6 ≤ xl7 then (k13 xl1 rl2 xl3 (xl4 + (1 : Int32)) h) else (ql_rv h rl5 6 fun b1 => qw_X3_citeAtPlace b1 xl7 h (fun x1 h =>
    ql_rv h (some a0) 4 fun b3 => qw_X1_clauseWithId b3 x1 h (fun r3 h =>
    if r3 = none then (qw_X1_countBrokenCites_84 a0 Q (qw_X1_countBrokenCites_47 a0 Q k13 n) xl1 rl2 xl3 xl4 rl5 xl6 xl7 h) else (ql_gI h (some a0) 4 2 fun x5 =>
    ql_rv h r3 6 fun b6 => qw_X3_holdsOn b6 x5 h (fun x6 h =>
    if x6 = 0 then (qw_X1_countBrokenCites_84 a0 Q (qw_X1_countBrokenCites_47 a0 Q k13 n) xl1 rl2 xl3 xl4 rl5 xl6 xl7 h) else (qw_X1_countBrokenCites_87 a0 Q (qw_X1_countBrokenCites_47 a0 Q k13 n) xl1 rl2 xl3 xl4 rl5 xl6 xl7 h))))))
def qw_X1_countBrokenCites_42 (a0 : Nat) (Q : Int32 → ql_H → Prop) (k13 : Int32 → Option Nat → Int32 → Int32 → ql_H → Prop) (xl1 : Int32) (rl2 : Option Nat) (xl3 : Int32) (xl4 : Int32) (rl5 : Option Nat) (xs0 : Int32) (h : ql_H) : Prop :=
qw_X1_countBrokenCites_47 a0 Q k13 ql_FU xl1 rl2 xl3 xl4 rl5 xs0 (0 : Int32) h
def qw_X1_countBrokenCites_13 (a0 : Nat) (Q : Int32 → ql_H → Prop) : Nat → Int32 → Option Nat → Int32 → Int32 → ql_H → Prop
  | 0, _, _, _, _, _ => False
  | n + 1, xl1, rl2, xl3, xl4, h =>
    if xl3 ≤ xl4 then (Q xl1 h) else (ql_lR h rl2 5 xl4 fun r8 =>
    ql_gI h r8 6 0 fun x9 =>
    if x9 = 0 then (qw_X1_countBrokenCites_42 a0 Q (qw_X1_countBrokenCites_13 a0 Q n) xl1 rl2 xl3 xl4 r8 (0 : Int32) h) else (ql_rv h r8 6 fun b10 => qw_X3_countCites b10  h (fun x10 h =>
    qw_X1_countBrokenCites_42 a0 Q (qw_X1_countBrokenCites_13 a0 Q n) xl1 rl2 xl3 xl4 r8 x10 h)))
def qw_X1_countBrokenCites (a0 : Nat) (h : ql_H) (Q : Int32 → ql_H → Prop) : Prop :=
ql_gR h (some a0) 4 0 fun r12 =>
ql_len h r12 5 fun x13 =>
qw_X1_countBrokenCites_13 a0 Q ql_FU (0 : Int32) r12 x13 (0 : Int32) h
set_option maxHeartbeats 4000000 in
set_option maxRecDepth 100000 in
theorem qm_X1_countBrokenCites (l : Launch) (hl9 : l.stackTraces = false) (D : ql_D) (h0 : ql_H) (a0 : Nat) (Q : Int32 → ql_H → Prop) (X : String → ql_H → Prop) (w : qw_X1_countBrokenCites a0 h0 Q) : ql_M D l yX1_countBrokenCites cX1_countBrokenCites 9 (some .int) ({ frames := 6, cells := 0, slots := 0, locals := 108 } : Room) h0 [.ref a0] (ql_rI Q) X 0 0 := by
  refine ql_ofW (by decide) (Nat.le_of_ble_eq_true rfl) ?_
  intro p e s m below meth c ls C hr hlocks hnm htab S hl
  have hl : lv_has ls 9 [(0, .ref a0)] := hl
  have hB87 : ∀ (k47 : Int32 → Option Nat → Int32 → Int32 → Option Nat → Int32 → Int32 → ql_H → Prop) (hk47 : ∀ (xl1 : Int32) (rl2 : Option Nat) (xl3 : Int32) (xl4 : Int32) (rl5 : Option Nat) (xl6 : Int32) (xl7 : Int32) (h : ql_H) (H : Heap) (locs : List Loc) (ls : Array Slot), ql_S D h0 s H locs h → lv_has ls 9 [(0, .ref a0), (1, .int xl1), (2, va_rf rl2), (3, .int xl3), (4, .int xl4), (5, va_rf rl5), (6, .int xl6), (7, .int xl7)] → k47 xl1 rl2 xl3 xl4 rl5 xl6 xl7 h → W p l e ({ frames := 6, cells := 0, slots := 0, locals := 108 } : Room) s m ([.ref a0] : List Value).toArray below meth c H locs 0 0 (vx_MQ below (ql_Q D h0 (ql_rI Q)) (ql_X D h0 X) ([.ref a0] : List Value).toArray s 0 0 (ql_A h0)) (F0 m 47 ls [])) , ∀ (xl1 : Int32) (rl2 : Option Nat) (xl3 : Int32) (xl4 : Int32) (rl5 : Option Nat) (xl6 : Int32) (xl7 : Int32) (h : ql_H) (H : Heap) (locs : List Loc) (ls : Array Slot), ql_S D h0 s H locs h → lv_has ls 9 [(0, .ref a0), (1, .int xl1), (2, va_rf rl2), (3, .int xl3), (4, .int xl4), (5, va_rf rl5), (6, .int xl6), (7, .int xl7)] → qw_X1_countBrokenCites_87 a0 Q k47 xl1 rl2 xl3 xl4 rl5 xl6 xl7 h → W p l e ({ frames := 6, cells := 0, slots := 0, locals := 108 } : Room) s m ([.ref a0] : List Value).toArray below meth c H locs 0 0 (vx_MQ below (ql_Q D h0 (ql_rI Q)) (ql_X D h0 X) ([.ref a0] : List Value).toArray s 0 0 (ql_A h0)) (F0 m 87 ls []) := by
    intro k47 hk47 xl1 rl2 xl3 xl4 rl5 xl6 xl7 h H locs ls S hl w
    unfold qw_X1_countBrokenCites_87 at w
    refine lv_iinc (v := (xl7 + (1 : Int32))) (lv' := [(7, .int (xl7 + (1 : Int32))), (0, .ref a0), (1, .int xl1), (2, va_rf rl2), (3, .int xl3), (4, .int xl4), (5, va_rf rl5), (6, .int xl6)]) C.1.1 C.1.2.1 dX1_countBrokenCites_87 hl (k := 7) rfl rfl (by decide) rfl (fun ls hl => ?_)
    refine lv_goto (tgt := 47) C.1.1 C.1.2.1 dX1_countBrokenCites_90 (by decide) ?_
    exact hk47 xl1 rl2 xl3 xl4 rl5 xl6 (xl7 + (1 : Int32)) _ _ _ _ S (lv_sub hl [1, 2, 3, 4, 5, 6, 7, 0] rfl) w
  have hB84 : ∀ (k47 : Int32 → Option Nat → Int32 → Int32 → Option Nat → Int32 → Int32 → ql_H → Prop) (hk47 : ∀ (xl1 : Int32) (rl2 : Option Nat) (xl3 : Int32) (xl4 : Int32) (rl5 : Option Nat) (xl6 : Int32) (xl7 : Int32) (h : ql_H) (H : Heap) (locs : List Loc) (ls : Array Slot), ql_S D h0 s H locs h → lv_has ls 9 [(0, .ref a0), (1, .int xl1), (2, va_rf rl2), (3, .int xl3), (4, .int xl4), (5, va_rf rl5), (6, .int xl6), (7, .int xl7)] → k47 xl1 rl2 xl3 xl4 rl5 xl6 xl7 h → W p l e ({ frames := 6, cells := 0, slots := 0, locals := 108 } : Room) s m ([.ref a0] : List Value).toArray below meth c H locs 0 0 (vx_MQ below (ql_Q D h0 (ql_rI Q)) (ql_X D h0 X) ([.ref a0] : List Value).toArray s 0 0 (ql_A h0)) (F0 m 47 ls [])) , ∀ (xl1 : Int32) (rl2 : Option Nat) (xl3 : Int32) (xl4 : Int32) (rl5 : Option Nat) (xl6 : Int32) (xl7 : Int32) (h : ql_H) (H : Heap) (locs : List Loc) (ls : Array Slot), ql_S D h0 s H locs h → lv_has ls 9 [(0, .ref a0), (1, .int xl1), (2, va_rf rl2), (3, .int xl3), (4, .int xl4), (5, va_rf rl5), (6, .int xl6), (7, .int xl7)] → qw_X1_countBrokenCites_84 a0 Q k47 xl1 rl2 xl3 xl4 rl5 xl6 xl7 h → W p l e ({ frames := 6, cells := 0, slots := 0, locals := 108 } : Room) s m ([.ref a0] : List Value).toArray below meth c H locs 0 0 (vx_MQ below (ql_Q D h0 (ql_rI Q)) (ql_X D h0 X) ([.ref a0] : List Value).toArray s 0 0 (ql_A h0)) (F0 m 84 ls []) := by
    intro k47 hk47 xl1 rl2 xl3 xl4 rl5 xl6 xl7 h H locs ls S hl w
    unfold qw_X1_countBrokenCites_84 at w
    refine lv_iinc (v := (xl1 + (1 : Int32))) (lv' := [(1, .int (xl1 + (1 : Int32))), (0, .ref a0), (2, va_rf rl2), (3, .int xl3), (4, .int xl4), (5, va_rf rl5), (6, .int xl6), (7, .int xl7)]) C.1.1 C.1.2.1 dX1_countBrokenCites_84 hl (k := 1) rfl rfl (by decide) rfl (fun ls hl => ?_)
    exact hB87 k47 hk47 (xl1 + (1 : Int32)) rl2 xl3 xl4 rl5 xl6 xl7 _ _ _ _ S (lv_sub hl [1, 0, 2, 3, 4, 5, 6, 7] rfl) w
  have hB47 : ∀ (k13 : Int32 → Option Nat → Int32 → Int32 → ql_H → Prop) (hk13 : ∀ (xl1 : Int32) (rl2 : Option Nat) (xl3 : Int32) (xl4 : Int32) (h : ql_H) (H : Heap) (locs : List Loc) (ls : Array Slot), ql_S D h0 s H locs h → lv_has ls 9 [(0, .ref a0), (1, .int xl1), (2, va_rf rl2), (3, .int xl3), (4, .int xl4)] → k13 xl1 rl2 xl3 xl4 h → W p l e ({ frames := 6, cells := 0, slots := 0, locals := 108 } : Room) s m ([.ref a0] : List Value).toArray below meth c H locs 0 0 (vx_MQ below (ql_Q D h0 (ql_rI Q)) (ql_X D h0 X) ([.ref a0] : List Value).toArray s 0 0 (ql_A h0)) (F0 m 13 ls [])) , ∀ n : Nat, ∀ (xl1 : Int32) (rl2 : Option Nat) (xl3 : Int32) (xl4 : Int32) (rl5 : Option Nat) (xl6 : Int32) (xl7 : Int32) (h : ql_H) (H : Heap) (locs : List Loc) (ls : Array Slot), ql_S D h0 s H locs h → lv_has ls 9 [(0, .ref a0), (1, .int xl1), (2, va_rf rl2), (3, .int xl3), (4, .int xl4), (5, va_rf rl5), (6, .int xl6), (7, .int xl7)] → qw_X1_countBrokenCites_47 a0 Q k13 n xl1 rl2 xl3 xl4 rl5 xl6 xl7 h → W p l e ({ frames := 6, cells := 0, slots := 0, locals := 108 } : Room) s m ([.ref a0] : List Value).toArray below meth c H locs 0 0 (vx_MQ below (ql_Q D h0 (ql_rI Q)) (ql_X D h0 X) ([.ref a0] : List Value).toArray s 0 0 (ql_A h0)) (F0 m 47 ls []) := by
    intro k13 hk13 n
    induction n with
    | zero => intro xl1 rl2 xl3 xl4 rl5 xl6 xl7 h H locs ls S hl w; rw [qw_X1_countBrokenCites_47] at w; exact w.elim
    | succ n ih =>
      intro xl1 rl2 xl3 xl4 rl5 xl6 xl7 h H locs ls S hl w
      rw [qw_X1_countBrokenCites_47] at w
      refine lv_iload C.1.1 C.1.2.1 dX1_countBrokenCites_47 (lv_at hl 7 rfl) ?_
      refine lv_iload C.1.1 C.1.2.1 dX1_countBrokenCites_49 (lv_at hl 6 rfl) ?_
      refine lv_icmp_ge (tgt := 93) C.1.1 C.1.2.1 dX1_countBrokenCites_51 (by decide) (fun c9 => ?_) (fun c9 => ?_)
      · replace w := ql_if w c9
        refine lv_iinc (v := (xl4 + (1 : Int32))) (lv' := [(4, .int (xl4 + (1 : Int32))), (0, .ref a0), (1, .int xl1), (2, va_rf rl2), (3, .int xl3), (5, va_rf rl5), (6, .int xl6), (7, .int xl7)]) C.1.1 C.1.2.1 dX1_countBrokenCites_93 hl (k := 4) rfl rfl (by decide) rfl (fun ls hl => ?_)
        refine lv_goto (tgt := 13) C.1.1 C.1.2.1 dX1_countBrokenCites_96 (by decide) ?_
        exact hk13 xl1 rl2 xl3 (xl4 + (1 : Int32)) _ _ _ _ S (lv_sub hl [1, 2, 3, 4, 0] rfl) w
      · replace w := ql_ifn w c9
        refine ql_aload_n (r := (some a0)) C dX1_countBrokenCites_54 rfl (lv_at hl 0 rfl) ?_
        refine ql_aload (r := rl5) C dX1_countBrokenCites_55 (lv_at hl 5 rfl) ?_
        refine lv_iload C.1.1 C.1.2.1 dX1_countBrokenCites_57 (lv_at hl 7 rfl) ?_
        refine ql_VI (As := [.int xl7]) (rest := [.ref a0]) C S htab hlocks hl qy_X3_citeAtPlace qi_X3_citeAtPlace qs_X3_citeAtPlace gw_426 (ci := 6) rfl w (fun b w => qm_X3_citeAtPlace l hl9 D _ b xl7 _ _ w) rfl ⟨Nat.le_of_ble_eq_true rfl, Nat.le_of_ble_eq_true rfl⟩ ⟨rfl, rfl⟩ (by exact Nat.le_of_ble_eq_true rfl) (fun b e9 => by cases e9; rfl) dX1_countBrokenCites_59 ⟨Nat.le_of_ble_eq_true rfl, Nat.le_of_ble_eq_true rfl⟩ ⟨Nat.le_of_ble_eq_true rfl, Nat.le_of_ble_eq_true rfl⟩ (fun x1 h H locs S w => ?_)
        refine W.cs (cells' := 0) (slots' := 0) rfl rfl ?_
        refine ql_VR (As := [.int x1]) (rest := []) C S htab hlocks hl qy_X1_clauseWithId qi_X1_clauseWithId qs_X1_clauseWithId gw_430 (ci := 4) rfl w (fun b w => qm_X1_clauseWithId l hl9 D _ b x1 _ _ w) rfl ⟨Nat.le_of_ble_eq_true rfl, Nat.le_of_ble_eq_true rfl⟩ ⟨rfl, rfl⟩ (by exact Nat.le_of_ble_eq_true rfl) (fun b e9 => by cases e9; rfl) dX1_countBrokenCites_62 ⟨Nat.le_of_ble_eq_true rfl, Nat.le_of_ble_eq_true rfl⟩ ⟨Nat.le_of_ble_eq_true rfl, Nat.le_of_ble_eq_true rfl⟩ (fun r3 h H locs S w => ?_)
        refine W.cs (cells' := 0) (slots' := 0) rfl rfl ?_
        refine ql_astore (lv' := [(8, va_rf r3), (0, .ref a0), (1, .int xl1), (2, va_rf rl2), (3, .int xl3), (4, .int xl4), (5, va_rf rl5), (6, .int xl6), (7, .int xl7)]) C dX1_countBrokenCites_65 hl (by decide) rfl (fun ls hl => ?_)
        refine ql_aload (r := r3) C dX1_countBrokenCites_67 (lv_at hl 0 rfl) ?_
        refine ql_ifnull (tgt := 84) C dX1_countBrokenCites_69 (by decide) (fun c9 => ?_) (fun c9 => ?_)
        · replace w := ql_if w c9
          exact hB84 (qw_X1_countBrokenCites_47 a0 Q k13 n) ih xl1 rl2 xl3 xl4 rl5 xl6 xl7 _ _ _ _ S (lv_sub hl [1, 2, 3, 4, 5, 6, 7, 8] rfl) w
        · replace w := ql_ifn w c9
          refine ql_aload (r := r3) C dX1_countBrokenCites_72 (lv_at hl 0 rfl) ?_
          refine ql_aload_n (r := (some a0)) C dX1_countBrokenCites_74 rfl (lv_at hl 1 rfl) ?_
          refine ql_getI C S qf_4_2 gw_170 dX1_countBrokenCites_75 w (fun x5 w => ?_)
          refine ql_VI (As := [.int x5]) (rest := []) C S htab hlocks hl qy_X3_holdsOn qi_X3_holdsOn qs_X3_holdsOn gw_645 (ci := 6) rfl w (fun b w => qm_X3_holdsOn l hl9 D _ b x5 _ _ w) rfl ⟨Nat.le_of_ble_eq_true rfl, Nat.le_of_ble_eq_true rfl⟩ ⟨rfl, rfl⟩ (by exact Nat.le_of_ble_eq_true rfl) (fun b e9 => by cases e9; rfl) dX1_countBrokenCites_78 ⟨Nat.le_of_ble_eq_true rfl, Nat.le_of_ble_eq_true rfl⟩ ⟨Nat.le_of_ble_eq_true rfl, Nat.le_of_ble_eq_true rfl⟩ (fun x6 h H locs S w => ?_)
          refine W.cs (cells' := 0) (slots' := 0) rfl rfl ?_
          refine lv_if_ne (tgt := 87) C.1.1 C.1.2.1 dX1_countBrokenCites_81 (by decide) (fun c9 => ?_) (fun c9 => ?_)
          · replace w := ql_ifn w c9
            exact hB87 (qw_X1_countBrokenCites_47 a0 Q k13 n) ih xl1 rl2 xl3 xl4 rl5 xl6 xl7 _ _ _ _ S (lv_sub hl [1, 2, 3, 4, 5, 6, 7, 8] rfl) w
          · replace w := ql_if w c9
            exact hB84 (qw_X1_countBrokenCites_47 a0 Q k13 n) ih xl1 rl2 xl3 xl4 rl5 xl6 xl7 _ _ _ _ S (lv_sub hl [1, 2, 3, 4, 5, 6, 7, 8] rfl) w
  have hB42 : ∀ (k13 : Int32 → Option Nat → Int32 → Int32 → ql_H → Prop) (hk13 : ∀ (xl1 : Int32) (rl2 : Option Nat) (xl3 : Int32) (xl4 : Int32) (h : ql_H) (H : Heap) (locs : List Loc) (ls : Array Slot), ql_S D h0 s H locs h → lv_has ls 9 [(0, .ref a0), (1, .int xl1), (2, va_rf rl2), (3, .int xl3), (4, .int xl4)] → k13 xl1 rl2 xl3 xl4 h → W p l e ({ frames := 6, cells := 0, slots := 0, locals := 108 } : Room) s m ([.ref a0] : List Value).toArray below meth c H locs 0 0 (vx_MQ below (ql_Q D h0 (ql_rI Q)) (ql_X D h0 X) ([.ref a0] : List Value).toArray s 0 0 (ql_A h0)) (F0 m 13 ls [])) , ∀ (xl1 : Int32) (rl2 : Option Nat) (xl3 : Int32) (xl4 : Int32) (rl5 : Option Nat) (xs0 : Int32) (h : ql_H) (H : Heap) (locs : List Loc) (ls : Array Slot), ql_S D h0 s H locs h → lv_has ls 9 [(0, .ref a0), (1, .int xl1), (2, va_rf rl2), (3, .int xl3), (4, .int xl4), (5, va_rf rl5)] → qw_X1_countBrokenCites_42 a0 Q k13 xl1 rl2 xl3 xl4 rl5 xs0 h → W p l e ({ frames := 6, cells := 0, slots := 0, locals := 108 } : Room) s m ([.ref a0] : List Value).toArray below meth c H locs 0 0 (vx_MQ below (ql_Q D h0 (ql_rI Q)) (ql_X D h0 X) ([.ref a0] : List Value).toArray s 0 0 (ql_A h0)) (F0 m 42 ls [.int xs0]) := by
    intro k13 hk13 xl1 rl2 xl3 xl4 rl5 xs0 h H locs ls S hl w
    unfold qw_X1_countBrokenCites_42 at w
    refine lv_istore (lv' := [(6, .int xs0), (0, .ref a0), (1, .int xl1), (2, va_rf rl2), (3, .int xl3), (4, .int xl4), (5, va_rf rl5)]) C.1.1 C.1.2.1 dX1_countBrokenCites_42 hl (by decide) (by generalize rl5 = z9; cases z9 <;> rfl) (fun ls hl => ?_)
    refine lv_iconst (v := (0 : Int32)) C.1.1 C.1.2.1 dX1_countBrokenCites_44 (by decide) ?_
    refine lv_istore (lv' := [(7, .int (0 : Int32)), (6, .int xs0), (0, .ref a0), (1, .int xl1), (2, va_rf rl2), (3, .int xl3), (4, .int xl4), (5, va_rf rl5)]) C.1.1 C.1.2.1 dX1_countBrokenCites_45 hl (by decide) rfl (fun ls hl => ?_)
    exact hB47 k13 hk13 ql_FU xl1 rl2 xl3 xl4 rl5 xs0 (0 : Int32) _ _ _ _ S (lv_sub hl [2, 3, 4, 5, 6, 7, 1, 0] rfl) w
  have hB13 : ∀ n : Nat, ∀ (xl1 : Int32) (rl2 : Option Nat) (xl3 : Int32) (xl4 : Int32) (h : ql_H) (H : Heap) (locs : List Loc) (ls : Array Slot), ql_S D h0 s H locs h → lv_has ls 9 [(0, .ref a0), (1, .int xl1), (2, va_rf rl2), (3, .int xl3), (4, .int xl4)] → qw_X1_countBrokenCites_13 a0 Q n xl1 rl2 xl3 xl4 h → W p l e ({ frames := 6, cells := 0, slots := 0, locals := 108 } : Room) s m ([.ref a0] : List Value).toArray below meth c H locs 0 0 (vx_MQ below (ql_Q D h0 (ql_rI Q)) (ql_X D h0 X) ([.ref a0] : List Value).toArray s 0 0 (ql_A h0)) (F0 m 13 ls []) := by
    intro n
    induction n with
    | zero => intro xl1 rl2 xl3 xl4 h H locs ls S hl w; rw [qw_X1_countBrokenCites_13] at w; exact w.elim
    | succ n ih =>
      intro xl1 rl2 xl3 xl4 h H locs ls S hl w
      rw [qw_X1_countBrokenCites_13] at w
      refine lv_iload C.1.1 C.1.2.1 dX1_countBrokenCites_13 (lv_at hl 4 rfl) ?_
      refine lv_iload_n C.1.1 C.1.2.1 dX1_countBrokenCites_15 rfl (lv_at hl 3 rfl) ?_
      refine lv_icmp_ge (tgt := 99) C.1.1 C.1.2.1 dX1_countBrokenCites_16 (by decide) (fun c9 => ?_) (fun c9 => ?_)
      · replace w := ql_if w c9
        refine lv_iload_n C.1.1 C.1.2.1 dX1_countBrokenCites_99 rfl (lv_at hl 1 rfl) ?_
        exact ql_iret C S hr hlocks dX1_countBrokenCites_100 ⟨Nat.le_of_ble_eq_true rfl, Nat.le_of_ble_eq_true rfl⟩ w
      · replace w := ql_ifn w c9
        refine ql_aload_n (r := rl2) C dX1_countBrokenCites_19 rfl (lv_at hl 2 rfl) ?_
        refine lv_iload C.1.1 C.1.2.1 dX1_countBrokenCites_20 (lv_at hl 4 rfl) ?_
        refine ql_aald (kd := 5) C S rfl rfl dX1_countBrokenCites_22 w (fun r8 w => ?_)
        refine ql_astore (lv' := [(5, va_rf r8), (0, .ref a0), (1, .int xl1), (2, va_rf rl2), (3, .int xl3), (4, .int xl4)]) C dX1_countBrokenCites_23 hl (by decide) rfl (fun ls hl => ?_)
        refine ql_aload (r := r8) C dX1_countBrokenCites_25 (lv_at hl 0 rfl) ?_
        refine ql_getIN C S qf_6_0 (qn_RX1_144) dX1_countBrokenCites_27 w (fun x9 w => ?_)
        refine lv_if_eq (tgt := 41) C.1.1 C.1.2.1 dX1_countBrokenCites_30 (by decide) (fun c9 => ?_) (fun c9 => ?_)
        · replace w := ql_if w c9
          refine lv_iconst (v := (0 : Int32)) C.1.1 C.1.2.1 dX1_countBrokenCites_41 (by decide) ?_
          exact hB42 (qw_X1_countBrokenCites_13 a0 Q n) ih xl1 rl2 xl3 xl4 r8 (0 : Int32) _ _ _ _ S (lv_sub hl [1, 2, 3, 4, 5, 0] rfl) w
        · replace w := ql_ifn w c9
          refine ql_aload (r := r8) C dX1_countBrokenCites_33 (lv_at hl 0 rfl) ?_
          refine ql_VI (As := []) (rest := []) C S htab hlocks hl qy_X3_countCites qi_X3_countCites qs_X3_countCites gw_422 (ci := 6) rfl w (fun b w => qm_X3_countCites l hl9 D _ b _ _ w) rfl ⟨Nat.le_of_ble_eq_true rfl, Nat.le_of_ble_eq_true rfl⟩ ⟨rfl, rfl⟩ (by exact Nat.le_of_ble_eq_true rfl) (fun b e9 => by cases e9; rfl) dX1_countBrokenCites_35 ⟨Nat.le_of_ble_eq_true rfl, Nat.le_of_ble_eq_true rfl⟩ ⟨Nat.le_of_ble_eq_true rfl, Nat.le_of_ble_eq_true rfl⟩ (fun x10 h H locs S w => ?_)
          refine W.cs (cells' := 0) (slots' := 0) rfl rfl ?_
          refine lv_goto (tgt := 42) C.1.1 C.1.2.1 dX1_countBrokenCites_38 (by decide) ?_
          exact hB42 (qw_X1_countBrokenCites_13 a0 Q n) ih xl1 rl2 xl3 xl4 r8 x10 _ _ _ _ S (lv_sub hl [1, 2, 3, 4, 5, 0] rfl) w
  unfold qw_X1_countBrokenCites at w
  refine lv_iconst (v := (0 : Int32)) C.1.1 C.1.2.1 dX1_countBrokenCites_0 (by decide) ?_
  refine lv_istore_n (lv' := [(1, .int (0 : Int32)), (0, .ref a0)]) C.1.1 C.1.2.1 dX1_countBrokenCites_1 rfl hl (by decide) rfl (fun ls hl => ?_)
  refine ql_aload_n (r := (some a0)) C dX1_countBrokenCites_2 rfl (lv_at hl 1 rfl) ?_
  refine ql_getR C S qf_4_0 gw_166 dX1_countBrokenCites_3 w (fun r12 w => ?_)
  refine ql_astore_n (lv' := [(2, va_rf r12), (1, .int (0 : Int32)), (0, .ref a0)]) C dX1_countBrokenCites_6 rfl hl (by decide) rfl (fun ls hl => ?_)
  refine ql_aload_n (r := r12) C dX1_countBrokenCites_7 rfl (lv_at hl 0 rfl) ?_
  refine ql_alen (kd := 5) C S rfl dX1_countBrokenCites_8 w (fun x13 w => ?_)
  refine lv_istore_n (lv' := [(3, .int x13), (2, va_rf r12), (1, .int (0 : Int32)), (0, .ref a0)]) C.1.1 C.1.2.1 dX1_countBrokenCites_9 rfl hl (by decide) (by generalize r12 = z9; cases z9 <;> rfl) (fun ls hl => ?_)
  refine lv_iconst (v := (0 : Int32)) C.1.1 C.1.2.1 dX1_countBrokenCites_10 (by decide) ?_
  refine lv_istore (lv' := [(4, .int (0 : Int32)), (3, .int x13), (2, va_rf r12), (1, .int (0 : Int32)), (0, .ref a0)]) C.1.1 C.1.2.1 dX1_countBrokenCites_11 hl (by decide) rfl (fun ls hl => ?_)
  exact hB13 ql_FU (0 : Int32) r12 x13 (0 : Int32) _ _ _ _ S (lv_sub hl [4, 3, 2, 1, 0] rfl) w
def qw_X2_init (a0 : Nat) (h : ql_H) (Q : ql_H → Prop) : Prop :=
ql_nw h (.inl (0, 16, .inl (fun _ => 0))) fun r1 h =>
ql_pV h (some a0) 5 0 (va_rf r1) fun h =>
ql_nw h (.inl (0, 16, .inl (fun _ => 0))) fun r2 h =>
ql_pV h (some a0) 5 1 (va_rf r2) fun h =>
ql_nw h (.inl (0, 17, .inl (fun _ => 0))) fun r3 h =>
ql_pV h (some a0) 5 2 (va_rf r3) fun h =>
Q h
set_option maxHeartbeats 4000000 in
set_option maxRecDepth 100000 in
theorem qm_X2_init (l : Launch) (hl9 : l.stackTraces = false) (D : ql_D) (h0 : ql_H) (a0 : Nat) (Q : ql_H → Prop) (X : String → ql_H → Prop) (w : qw_X2_init a0 h0 Q) : ql_M D l yX2_init cX2_init 1 none ({ frames := 3, cells := 3, slots := 49, locals := 48 } : Room) h0 [.ref a0] (ql_rV Q) X 3 49 := by
  refine ql_ofW (by decide) (Nat.le_of_ble_eq_true rfl) ?_
  intro p e s m below meth c ls C hr hlocks hnm htab S hl
  have hl : lv_has ls 1 [(0, .ref a0)] := hl
  unfold qw_X2_init at w
  refine ql_aload_n (r := (some a0)) C dX2_init_0 rfl (lv_at hl 0 rfl) ?_
  refine ql_objInit C hl gw_337 gw_114 gw_115 dX2_init_1 (Nat.le_of_ble_eq_true rfl) (by exact Nat.le_of_ble_eq_true rfl) ?_
  refine ql_aload_n (r := (some a0)) C dX2_init_4 rfl (lv_at hl 0 rfl) ?_
  refine lv_bipush (v := (16 : Int32)) C.1.1 C.1.2.1 dX2_init_5 (by decide) ?_
  refine ql_newa (kd := 0) (a0 := (16, .inl (fun _ => 0))) (atype := .int) C S gw_164 rfl (fun z => z) (fun cA => rfl) (by decide) (by decide) (by decide) ⟨Nat.le_of_ble_eq_true rfl, Nat.le_of_ble_eq_true rfl⟩ dX2_init_7 w (fun r1 h H S w => ?_)
  refine W.cs (cells' := 1) (slots' := 16) rfl rfl ?_
  refine ql_putVF C S qf_5_0 gw_338 (tyX2) tyX2_ok nmX2 rfl hnm rfl dX2_init_9 (v := va_rf r1) (by cases r1 <;> rfl) (by cases r1 <;> rfl) w (fun h H locs S w => ?_)
  refine ql_aload_n (r := (some a0)) C dX2_init_12 rfl (lv_at hl 0 rfl) ?_
  refine lv_bipush (v := (16 : Int32)) C.1.1 C.1.2.1 dX2_init_13 (by decide) ?_
  refine ql_newa (kd := 0) (a0 := (16, .inl (fun _ => 0))) (atype := .int) C S gw_164 rfl (fun z => z) (fun cA => rfl) (by decide) (by decide) (by decide) ⟨Nat.le_of_ble_eq_true rfl, Nat.le_of_ble_eq_true rfl⟩ dX2_init_15 w (fun r2 h H S w => ?_)
  refine W.cs (cells' := 2) (slots' := 32) rfl rfl ?_
  refine ql_putVF C S qf_5_1 gw_339 (tyX2) tyX2_ok nmX2 rfl hnm rfl dX2_init_17 (v := va_rf r2) (by cases r2 <;> rfl) (by cases r2 <;> rfl) w (fun h H locs S w => ?_)
  refine ql_aload_n (r := (some a0)) C dX2_init_20 rfl (lv_at hl 0 rfl) ?_
  refine lv_bipush (v := (17 : Int32)) C.1.1 C.1.2.1 dX2_init_21 (by decide) ?_
  refine ql_newa (kd := 0) (a0 := (17, .inl (fun _ => 0))) (atype := .int) C S gw_164 rfl (fun z => z) (fun cA => rfl) (by decide) (by decide) (by decide) ⟨Nat.le_of_ble_eq_true rfl, Nat.le_of_ble_eq_true rfl⟩ dX2_init_23 w (fun r3 h H S w => ?_)
  refine W.cs (cells' := 3) (slots' := 49) rfl rfl ?_
  refine ql_putVF C S qf_5_2 gw_340 (tyX2) tyX2_ok nmX2 rfl hnm rfl dX2_init_25 (v := va_rf r3) (by cases r3 <;> rfl) (by cases r3 <;> rfl) w (fun h H locs S w => ?_)
  exact ql_vret C S hr hlocks dX2_init_28 ⟨Nat.le_of_ble_eq_true rfl, Nat.le_of_ble_eq_true rfl⟩ w
def qw_X2_hasSlot (xp0 : Int32) (xp1 : Int32) (h : ql_H) (Q : Int32 → ql_H → Prop) : Prop :=
if ((xp0.toUInt32 >>> (xp1.toUInt32 &&& Int32.toUInt32 31)).toInt32 &&& (1 : Int32)) = (1 : Int32) then (ql_nz .boolean (1 : Int32) ∧ Q (1 : Int32) h) else (ql_nz .boolean (0 : Int32) ∧ Q (0 : Int32) h)
set_option maxHeartbeats 4000000 in
set_option maxRecDepth 100000 in
theorem qm_X2_hasSlot (l : Launch) (hl9 : l.stackTraces = false) (D : ql_D) (h0 : ql_H) (xp0 : Int32) (xp1 : Int32) (Q : Int32 → ql_H → Prop) (X : String → ql_H → Prop) (w : qw_X2_hasSlot xp0 xp1 h0 Q) : ql_M D l yX2_hasSlot cX2_hasSlot 2 (some .boolean) ({ frames := 2, cells := 0, slots := 0, locals := 48 } : Room) h0 [.int xp0, .int xp1] (ql_rI Q) X 0 0 := by
  refine ql_ofW (by decide) (Nat.le_of_ble_eq_true rfl) ?_
  intro p e s m below meth c ls C hr hlocks hnm htab S hl
  have hl : lv_has ls 2 [(0, .int xp0), (1, .int xp1)] := hl
  unfold qw_X2_hasSlot at w
  refine lv_iload_n C.1.1 C.1.2.1 dX2_hasSlot_0 rfl (lv_at hl 0 rfl) ?_
  refine lv_iload_n C.1.1 C.1.2.1 dX2_hasSlot_1 rfl (lv_at hl 1 rfl) ?_
  refine lv_iushr C.1.1 C.1.2.1 dX2_hasSlot_2 rfl ?_
  refine lv_iconst (v := (1 : Int32)) C.1.1 C.1.2.1 dX2_hasSlot_3 (by decide) ?_
  refine lv_iand C.1.1 C.1.2.1 dX2_hasSlot_4 ?_
  refine lv_iconst (v := (1 : Int32)) C.1.1 C.1.2.1 dX2_hasSlot_5 (by decide) ?_
  refine lv_icmp_ne (tgt := 13) C.1.1 C.1.2.1 dX2_hasSlot_6 (by decide) (fun c9 => ?_) (fun c9 => ?_)
  · replace w := ql_ifn w c9
    refine lv_iconst (v := (0 : Int32)) C.1.1 C.1.2.1 dX2_hasSlot_13 (by decide) ?_
    exact ql_zret C S hr hlocks dX2_hasSlot_14 ⟨Nat.le_of_ble_eq_true rfl, Nat.le_of_ble_eq_true rfl⟩ w
  · replace w := ql_if w c9
    refine lv_iconst (v := (1 : Int32)) C.1.1 C.1.2.1 dX2_hasSlot_9 (by decide) ?_
    refine lv_goto (tgt := 14) C.1.1 C.1.2.1 dX2_hasSlot_10 (by decide) ?_
    exact ql_zret C S hr hlocks dX2_hasSlot_14 ⟨Nat.le_of_ble_eq_true rfl, Nat.le_of_ble_eq_true rfl⟩ w
def qw_X2_slotsCitedBy_41 (Q : Int32 → ql_H → Prop) (k10 : Option Nat → Option Nat → Int32 → Int32 → Int32 → ql_H → Prop) (rl0 : Option Nat) (rl1 : Option Nat) (xl2 : Int32) (xl3 : Int32) (xl4 : Int32) (h : ql_H) : Prop :=
k10 rl0 rl1 xl2 xl3 (xl4 + (1 : Int32)) h
def qw_X2_slotsCitedBy_10 (Q : Int32 → ql_H → Prop) : Nat → Option Nat → Option Nat → Int32 → Int32 → Int32 → ql_H → Prop
  | 0, _, _, _, _, _, _ => False
  | n + 1, rl0, rl1, xl2, xl3, xl4, h =>
    if xl3 ≤ xl4 then (Q xl2 h) else (ql_rv h rl0 6 fun b1 => qw_X3_citeAtPlace b1 xl4 h (fun x1 h =>
    ql_rv h rl1 4 fun b3 => qw_X1_slotWithId b3 x1 h (fun x3 h =>
    if x3 = (-1 : Int32) then (qw_X2_slotsCitedBy_41 Q (qw_X2_slotsCitedBy_10 Q n) rl0 rl1 xl2 xl3 xl4 h) else (qw_X2_slotsCitedBy_41 Q (qw_X2_slotsCitedBy_10 Q n) rl0 rl1 (xl2 ||| ((1 : Int32) <<< (x3 &&& 31))) xl3 xl4 h))))
def qw_X2_slotsCitedBy (rp0 : Option Nat) (rp1 : Option Nat) (h : ql_H) (Q : Int32 → ql_H → Prop) : Prop :=
ql_rv h rp0 6 fun b5 => qw_X3_countCites b5  h (fun x5 h =>
qw_X2_slotsCitedBy_10 Q ql_FU rp0 rp1 (0 : Int32) x5 (0 : Int32) h)
set_option maxHeartbeats 4000000 in
set_option maxRecDepth 100000 in
theorem qm_X2_slotsCitedBy (l : Launch) (hl9 : l.stackTraces = false) (D : ql_D) (h0 : ql_H) (rp0 : Option Nat) (rp1 : Option Nat) (Q : Int32 → ql_H → Prop) (X : String → ql_H → Prop) (w : qw_X2_slotsCitedBy rp0 rp1 h0 Q) : ql_M D l yX2_slotsCitedBy cX2_slotsCitedBy 6 (some .int) ({ frames := 4, cells := 0, slots := 0, locals := 78 } : Room) h0 [va_rf rp0, va_rf rp1] (ql_rI Q) X 0 0 := by
  refine ql_ofW (by decide) (by cases rp0 <;> cases rp1 <;> exact Nat.le_of_ble_eq_true rfl) ?_
  intro p e s m below meth c ls C hr hlocks hnm htab S hl
  rw [show lv_args 0 [va_rf rp0, va_rf rp1] = [(0, va_rf rp0), (1, va_rf rp1)] from by cases rp0 <;> cases rp1 <;> rfl] at hl
  have hB41 : ∀ (k10 : Option Nat → Option Nat → Int32 → Int32 → Int32 → ql_H → Prop) (hk10 : ∀ (rl0 : Option Nat) (rl1 : Option Nat) (xl2 : Int32) (xl3 : Int32) (xl4 : Int32) (h : ql_H) (H : Heap) (locs : List Loc) (ls : Array Slot), ql_S D h0 s H locs h → lv_has ls 6 [(0, va_rf rl0), (1, va_rf rl1), (2, .int xl2), (3, .int xl3), (4, .int xl4)] → k10 rl0 rl1 xl2 xl3 xl4 h → W p l e ({ frames := 4, cells := 0, slots := 0, locals := 78 } : Room) s m ([va_rf rp0, va_rf rp1] : List Value).toArray below meth c H locs 0 0 (vx_MQ below (ql_Q D h0 (ql_rI Q)) (ql_X D h0 X) ([va_rf rp0, va_rf rp1] : List Value).toArray s 0 0 (ql_A h0)) (F0 m 10 ls [])) , ∀ (rl0 : Option Nat) (rl1 : Option Nat) (xl2 : Int32) (xl3 : Int32) (xl4 : Int32) (h : ql_H) (H : Heap) (locs : List Loc) (ls : Array Slot), ql_S D h0 s H locs h → lv_has ls 6 [(0, va_rf rl0), (1, va_rf rl1), (2, .int xl2), (3, .int xl3), (4, .int xl4)] → qw_X2_slotsCitedBy_41 Q k10 rl0 rl1 xl2 xl3 xl4 h → W p l e ({ frames := 4, cells := 0, slots := 0, locals := 78 } : Room) s m ([va_rf rp0, va_rf rp1] : List Value).toArray below meth c H locs 0 0 (vx_MQ below (ql_Q D h0 (ql_rI Q)) (ql_X D h0 X) ([va_rf rp0, va_rf rp1] : List Value).toArray s 0 0 (ql_A h0)) (F0 m 41 ls []) := by
    intro k10 hk10 rl0 rl1 xl2 xl3 xl4 h H locs ls S hl w
    unfold qw_X2_slotsCitedBy_41 at w
    refine lv_iinc (v := (xl4 + (1 : Int32))) (lv' := [(4, .int (xl4 + (1 : Int32))), (0, va_rf rl0), (1, va_rf rl1), (2, .int xl2), (3, .int xl3)]) C.1.1 C.1.2.1 dX2_slotsCitedBy_41 hl (k := 4) rfl rfl (by decide) rfl (fun ls hl => ?_)
    refine lv_goto (tgt := 10) C.1.1 C.1.2.1 dX2_slotsCitedBy_44 (by decide) ?_
    exact hk10 rl0 rl1 xl2 xl3 (xl4 + (1 : Int32)) _ _ _ _ S (lv_sub hl [1, 2, 3, 4, 0] rfl) w
  have hB10 : ∀ n : Nat, ∀ (rl0 : Option Nat) (rl1 : Option Nat) (xl2 : Int32) (xl3 : Int32) (xl4 : Int32) (h : ql_H) (H : Heap) (locs : List Loc) (ls : Array Slot), ql_S D h0 s H locs h → lv_has ls 6 [(0, va_rf rl0), (1, va_rf rl1), (2, .int xl2), (3, .int xl3), (4, .int xl4)] → qw_X2_slotsCitedBy_10 Q n rl0 rl1 xl2 xl3 xl4 h → W p l e ({ frames := 4, cells := 0, slots := 0, locals := 78 } : Room) s m ([va_rf rp0, va_rf rp1] : List Value).toArray below meth c H locs 0 0 (vx_MQ below (ql_Q D h0 (ql_rI Q)) (ql_X D h0 X) ([va_rf rp0, va_rf rp1] : List Value).toArray s 0 0 (ql_A h0)) (F0 m 10 ls []) := by
    intro n
    induction n with
    | zero => intro rl0 rl1 xl2 xl3 xl4 h H locs ls S hl w; rw [qw_X2_slotsCitedBy_10] at w; exact w.elim
    | succ n ih =>
      intro rl0 rl1 xl2 xl3 xl4 h H locs ls S hl w
      rw [qw_X2_slotsCitedBy_10] at w
      refine lv_iload C.1.1 C.1.2.1 dX2_slotsCitedBy_10 (lv_at hl 4 rfl) ?_
      refine lv_iload_n C.1.1 C.1.2.1 dX2_slotsCitedBy_12 rfl (lv_at hl 3 rfl) ?_
      refine lv_icmp_ge (tgt := 47) C.1.1 C.1.2.1 dX2_slotsCitedBy_13 (by decide) (fun c9 => ?_) (fun c9 => ?_)
      · replace w := ql_if w c9
        refine lv_iload_n C.1.1 C.1.2.1 dX2_slotsCitedBy_47 rfl (lv_at hl 2 rfl) ?_
        exact ql_iret C S hr hlocks dX2_slotsCitedBy_48 ⟨Nat.le_of_ble_eq_true rfl, Nat.le_of_ble_eq_true rfl⟩ w
      · replace w := ql_ifn w c9
        refine ql_aload_n (r := rl1) C dX2_slotsCitedBy_16 rfl (lv_at hl 1 rfl) ?_
        refine ql_aload_n (r := rl0) C dX2_slotsCitedBy_17 rfl (lv_at hl 0 rfl) ?_
        refine lv_iload C.1.1 C.1.2.1 dX2_slotsCitedBy_18 (lv_at hl 4 rfl) ?_
        refine ql_VI (As := [.int xl4]) (rest := [va_rf rl1]) C S htab hlocks hl qy_X3_citeAtPlace qi_X3_citeAtPlace qs_X3_citeAtPlace gw_746 (ci := 6) rfl w (fun b w => qm_X3_citeAtPlace l hl9 D _ b xl4 _ _ w) rfl ⟨Nat.le_of_ble_eq_true rfl, Nat.le_of_ble_eq_true rfl⟩ ⟨rfl, rfl⟩ (by generalize rl1 = z0; cases z0 <;> exact Nat.le_of_ble_eq_true rfl) (fun b e9 => by cases e9; rfl) dX2_slotsCitedBy_20 ⟨Nat.le_of_ble_eq_true rfl, Nat.le_of_ble_eq_true rfl⟩ ⟨Nat.le_of_ble_eq_true rfl, Nat.le_of_ble_eq_true rfl⟩ (fun x1 h H locs S w => ?_)
        refine W.cs (cells' := 0) (slots' := 0) rfl rfl ?_
        refine ql_VI (As := [.int x1]) (rest := []) C S htab hlocks hl qy_X1_slotWithId qi_X1_slotWithId qs_X1_slotWithId gw_747 (ci := 4) rfl w (fun b w => qm_X1_slotWithId l hl9 D _ b x1 _ _ w) rfl ⟨Nat.le_of_ble_eq_true rfl, Nat.le_of_ble_eq_true rfl⟩ ⟨rfl, rfl⟩ (by exact Nat.le_of_ble_eq_true rfl) (fun b e9 => by cases e9; rfl) dX2_slotsCitedBy_23 ⟨Nat.le_of_ble_eq_true rfl, Nat.le_of_ble_eq_true rfl⟩ ⟨Nat.le_of_ble_eq_true rfl, Nat.le_of_ble_eq_true rfl⟩ (fun x3 h H locs S w => ?_)
        refine W.cs (cells' := 0) (slots' := 0) rfl rfl ?_
        refine lv_istore (lv' := [(5, .int x3), (0, va_rf rl0), (1, va_rf rl1), (2, .int xl2), (3, .int xl3), (4, .int xl4)]) C.1.1 C.1.2.1 dX2_slotsCitedBy_26 hl (by decide) rfl (fun ls hl => ?_)
        refine lv_iload C.1.1 C.1.2.1 dX2_slotsCitedBy_28 (lv_at hl 0 rfl) ?_
        refine lv_iconst (v := (-1 : Int32)) C.1.1 C.1.2.1 dX2_slotsCitedBy_30 (by decide) ?_
        refine lv_icmp_eq (tgt := 41) C.1.1 C.1.2.1 dX2_slotsCitedBy_31 (by decide) (fun c9 => ?_) (fun c9 => ?_)
        · replace w := ql_if w c9
          exact hB41 (qw_X2_slotsCitedBy_10 Q n) ih rl0 rl1 xl2 xl3 xl4 _ _ _ _ S (lv_sub hl [1, 2, 3, 4, 5] rfl) w
        · replace w := ql_ifn w c9
          refine lv_iload_n C.1.1 C.1.2.1 dX2_slotsCitedBy_34 rfl (lv_at hl 3 rfl) ?_
          refine lv_iconst (v := (1 : Int32)) C.1.1 C.1.2.1 dX2_slotsCitedBy_35 (by decide) ?_
          refine lv_iload C.1.1 C.1.2.1 dX2_slotsCitedBy_36 (lv_at hl 0 rfl) ?_
          refine lv_ishl C.1.1 C.1.2.1 dX2_slotsCitedBy_38 ?_
          refine lv_ior C.1.1 C.1.2.1 dX2_slotsCitedBy_39 ?_
          refine lv_istore_n (lv' := [(2, .int (xl2 ||| ((1 : Int32) <<< (x3 &&& 31)))), (5, .int x3), (0, va_rf rl0), (1, va_rf rl1), (3, .int xl3), (4, .int xl4)]) C.1.1 C.1.2.1 dX2_slotsCitedBy_40 rfl hl (by decide) (by generalize rl1 = z9; cases z9 <;> rfl) (fun ls hl => ?_)
          exact hB41 (qw_X2_slotsCitedBy_10 Q n) ih rl0 rl1 (xl2 ||| ((1 : Int32) <<< (x3 &&& 31))) xl3 xl4 _ _ _ _ S (lv_sub hl [2, 3, 0, 4, 5] rfl) w
  unfold qw_X2_slotsCitedBy at w
  refine lv_iconst (v := (0 : Int32)) C.1.1 C.1.2.1 dX2_slotsCitedBy_0 (by decide) ?_
  refine lv_istore_n (lv' := [(2, .int (0 : Int32)), (0, va_rf rp0), (1, va_rf rp1)]) C.1.1 C.1.2.1 dX2_slotsCitedBy_1 rfl hl (by decide) (by generalize rp1 = z9; cases z9 <;> rfl) (fun ls hl => ?_)
  refine ql_aload_n (r := rp0) C dX2_slotsCitedBy_2 rfl (lv_at hl 1 rfl) ?_
  refine ql_VI (As := []) (rest := []) C S htab hlocks hl qy_X3_countCites qi_X3_countCites qs_X3_countCites gw_745 (ci := 6) rfl w (fun b w => qm_X3_countCites l hl9 D _ b _ _ w) rfl ⟨Nat.le_of_ble_eq_true rfl, Nat.le_of_ble_eq_true rfl⟩ ⟨rfl, rfl⟩ (by exact Nat.le_of_ble_eq_true rfl) (fun b e9 => by cases e9; rfl) dX2_slotsCitedBy_3 ⟨Nat.le_of_ble_eq_true rfl, Nat.le_of_ble_eq_true rfl⟩ ⟨Nat.le_of_ble_eq_true rfl, Nat.le_of_ble_eq_true rfl⟩ (fun x5 h H locs S w => ?_)
  refine W.cs (cells' := 0) (slots' := 0) rfl rfl ?_
  refine lv_istore_n (lv' := [(3, .int x5), (2, .int (0 : Int32)), (0, va_rf rp0), (1, va_rf rp1)]) C.1.1 C.1.2.1 dX2_slotsCitedBy_6 rfl hl (by decide) rfl (fun ls hl => ?_)
  refine lv_iconst (v := (0 : Int32)) C.1.1 C.1.2.1 dX2_slotsCitedBy_7 (by decide) ?_
  refine lv_istore (lv' := [(4, .int (0 : Int32)), (3, .int x5), (2, .int (0 : Int32)), (0, va_rf rp0), (1, va_rf rp1)]) C.1.1 C.1.2.1 dX2_slotsCitedBy_8 hl (by decide) rfl (fun ls hl => ?_)
  exact hB10 ql_FU rp0 rp1 (0 : Int32) x5 (0 : Int32) _ _ _ _ S (lv_sub hl [3, 4, 2, 1, 0] rfl) w
def qw_X2_read_36 (a0 : Nat) (Q : ql_H → Prop) (k2 : Option Nat → Int32 → ql_H → Prop) (rl1 : Option Nat) (xl2 : Int32) (rs0 : Option Nat) (xs1 : Int32) (xs2 : Int32) (h : ql_H) : Prop :=
ql_sI h rs0 0 xs1 xs2 fun h =>
k2 rl1 (xl2 + (1 : Int32)) h
def qw_X2_read_2 (a0 : Nat) (Q : ql_H → Prop) : Nat → Option Nat → Int32 → ql_H → Prop
  | 0, _, _, _ => False
  | n + 1, rl1, xl2, h =>
    if (16 : Int32) ≤ xl2 then (Q h) else (ql_gR h rl1 4 0 fun r1 =>
    ql_lR h r1 5 xl2 fun r2 =>
    ql_gR h (some a0) 5 0 fun r3 =>
    ql_gI h r2 6 0 fun x4 =>
    if x4 = 0 then (qw_X2_read_36 a0 Q (qw_X2_read_2 a0 Q n) rl1 xl2 r3 xl2 (0 : Int32) h) else (qw_X2_slotsCitedBy r2 rl1 h (fun x5 h =>
    qw_X2_read_36 a0 Q (qw_X2_read_2 a0 Q n) rl1 xl2 r3 xl2 x5 h)))
def qw_X2_read (a0 : Nat) (rp1 : Option Nat) (h : ql_H) (Q : ql_H → Prop) : Prop :=
qw_X2_read_2 a0 Q ql_FU rp1 (0 : Int32) h
set_option maxHeartbeats 4000000 in
set_option maxRecDepth 100000 in
theorem qm_X2_read (l : Launch) (hl9 : l.stackTraces = false) (D : ql_D) (h0 : ql_H) (a0 : Nat) (rp1 : Option Nat) (Q : ql_H → Prop) (X : String → ql_H → Prop) (w : qw_X2_read a0 rp1 h0 Q) : ql_M D l yX2_read cX2_read 4 none ({ frames := 6, cells := 0, slots := 0, locals := 111 } : Room) h0 [.ref a0, va_rf rp1] (ql_rV Q) X 0 0 := by
  refine ql_ofW (by decide) (by cases rp1 <;> exact Nat.le_of_ble_eq_true rfl) ?_
  intro p e s m below meth c ls C hr hlocks hnm htab S hl
  rw [show lv_args 0 [.ref a0, va_rf rp1] = [(0, .ref a0), (1, va_rf rp1)] from by cases rp1 <;> rfl] at hl
  have hB36 : ∀ (k2 : Option Nat → Int32 → ql_H → Prop) (hk2 : ∀ (rl1 : Option Nat) (xl2 : Int32) (h : ql_H) (H : Heap) (locs : List Loc) (ls : Array Slot), ql_S D h0 s H locs h → lv_has ls 4 [(0, .ref a0), (1, va_rf rl1), (2, .int xl2)] → k2 rl1 xl2 h → W p l e ({ frames := 6, cells := 0, slots := 0, locals := 111 } : Room) s m ([.ref a0, va_rf rp1] : List Value).toArray below meth c H locs 0 0 (vx_MQ below (ql_Q D h0 (ql_rV Q)) (ql_X D h0 X) ([.ref a0, va_rf rp1] : List Value).toArray s 0 0 (ql_A h0)) (F0 m 2 ls [])) , ∀ (rl1 : Option Nat) (xl2 : Int32) (rs0 : Option Nat) (xs1 : Int32) (xs2 : Int32) (h : ql_H) (H : Heap) (locs : List Loc) (ls : Array Slot), ql_S D h0 s H locs h → lv_has ls 4 [(0, .ref a0), (1, va_rf rl1), (2, .int xl2)] → qw_X2_read_36 a0 Q k2 rl1 xl2 rs0 xs1 xs2 h → W p l e ({ frames := 6, cells := 0, slots := 0, locals := 111 } : Room) s m ([.ref a0, va_rf rp1] : List Value).toArray below meth c H locs 0 0 (vx_MQ below (ql_Q D h0 (ql_rV Q)) (ql_X D h0 X) ([.ref a0, va_rf rp1] : List Value).toArray s 0 0 (ql_A h0)) (F0 m 36 ls [.int xs2, .int xs1, va_rf rs0]) := by
    intro k2 hk2 rl1 xl2 rs0 xs1 xs2 h H locs ls S hl w
    unfold qw_X2_read_36 at w
    refine ql_iast C S dX2_read_36 w (fun h H locs S w => ?_)
    refine lv_iinc (v := (xl2 + (1 : Int32))) (lv' := [(2, .int (xl2 + (1 : Int32))), (0, .ref a0), (1, va_rf rl1)]) C.1.1 C.1.2.1 dX2_read_37 hl (k := 2) rfl rfl (by decide) (by generalize rl1 = z9; cases z9 <;> rfl) (fun ls hl => ?_)
    refine lv_goto (tgt := 2) C.1.1 C.1.2.1 dX2_read_40 (by decide) ?_
    exact hk2 rl1 (xl2 + (1 : Int32)) _ _ _ _ S (lv_sub hl [1, 2, 0] rfl) w
  have hB2 : ∀ n : Nat, ∀ (rl1 : Option Nat) (xl2 : Int32) (h : ql_H) (H : Heap) (locs : List Loc) (ls : Array Slot), ql_S D h0 s H locs h → lv_has ls 4 [(0, .ref a0), (1, va_rf rl1), (2, .int xl2)] → qw_X2_read_2 a0 Q n rl1 xl2 h → W p l e ({ frames := 6, cells := 0, slots := 0, locals := 111 } : Room) s m ([.ref a0, va_rf rp1] : List Value).toArray below meth c H locs 0 0 (vx_MQ below (ql_Q D h0 (ql_rV Q)) (ql_X D h0 X) ([.ref a0, va_rf rp1] : List Value).toArray s 0 0 (ql_A h0)) (F0 m 2 ls []) := by
    intro n
    induction n with
    | zero => intro rl1 xl2 h H locs ls S hl w; rw [qw_X2_read_2] at w; exact w.elim
    | succ n ih =>
      intro rl1 xl2 h H locs ls S hl w
      rw [qw_X2_read_2] at w
      refine lv_iload_n C.1.1 C.1.2.1 dX2_read_2 rfl (lv_at hl 2 rfl) ?_
      refine lv_bipush (v := (16 : Int32)) C.1.1 C.1.2.1 dX2_read_3 (by decide) ?_
      refine lv_icmp_ge (tgt := 43) C.1.1 C.1.2.1 dX2_read_5 (by decide) (fun c9 => ?_) (fun c9 => ?_)
      · replace w := ql_if w c9
        exact ql_vret C S hr hlocks dX2_read_43 ⟨Nat.le_of_ble_eq_true rfl, Nat.le_of_ble_eq_true rfl⟩ w
      · replace w := ql_ifn w c9
        refine ql_aload_n (r := rl1) C dX2_read_8 rfl (lv_at hl 1 rfl) ?_
        refine ql_getRN C S qf_4_0 (qn_RX2_21) dX2_read_9 w (fun r1 w => ?_)
        refine lv_iload_n C.1.1 C.1.2.1 dX2_read_12 rfl (lv_at hl 2 rfl) ?_
        refine ql_aald (kd := 5) C S rfl rfl dX2_read_13 w (fun r2 w => ?_)
        refine ql_astore_n (lv' := [(3, va_rf r2), (0, .ref a0), (1, va_rf rl1), (2, .int xl2)]) C dX2_read_14 rfl hl (by decide) rfl (fun ls hl => ?_)
        refine ql_aload_n (r := (some a0)) C dX2_read_15 rfl (lv_at hl 1 rfl) ?_
        refine ql_getR C S qf_5_0 gw_338 dX2_read_16 w (fun r3 w => ?_)
        refine lv_iload_n C.1.1 C.1.2.1 dX2_read_19 rfl (lv_at hl 3 rfl) ?_
        refine ql_aload_n (r := r2) C dX2_read_20 rfl (lv_at hl 0 rfl) ?_
        refine ql_getIN C S qf_6_0 (qn_RX2_27) dX2_read_21 w (fun x4 w => ?_)
        refine lv_if_eq (tgt := 35) C.1.1 C.1.2.1 dX2_read_24 (by decide) (fun c9 => ?_) (fun c9 => ?_)
        · replace w := ql_if w c9
          refine lv_iconst (v := (0 : Int32)) C.1.1 C.1.2.1 dX2_read_35 (by decide) ?_
          exact hB36 (qw_X2_read_2 a0 Q n) ih rl1 xl2 r3 xl2 (0 : Int32) _ _ _ _ S (lv_sub hl [1, 2, 3] rfl) w
        · replace w := ql_ifn w c9
          refine ql_aload_n (r := r2) C dX2_read_27 rfl (lv_at hl 0 rfl) ?_
          refine ql_aload_n (r := rl1) C dX2_read_28 rfl (lv_at hl 2 rfl) ?_
          refine ql_SI (As := [va_rf r2, va_rf rl1]) (rest := [.int xl2, va_rf r3]) C S htab hlocks hl qy_X2_slotsCitedBy qi_X2_slotsCitedBy gw_742 (qm_X2_slotsCitedBy l hl9 D _ r2 rl1 _ _ w) rfl ⟨Nat.le_of_ble_eq_true rfl, Nat.le_of_ble_eq_true rfl⟩ ⟨rfl, rfl⟩ (by generalize r3 = z0; cases z0 <;> exact Nat.le_of_ble_eq_true rfl) rfl dX2_read_29 ⟨Nat.le_of_ble_eq_true rfl, Nat.le_of_ble_eq_true rfl⟩ ⟨Nat.le_of_ble_eq_true rfl, Nat.le_of_ble_eq_true rfl⟩ (fun x5 h H locs S w => ?_)
          refine W.cs (cells' := 0) (slots' := 0) rfl rfl ?_
          refine lv_goto (tgt := 36) C.1.1 C.1.2.1 dX2_read_32 (by decide) ?_
          exact hB36 (qw_X2_read_2 a0 Q n) ih rl1 xl2 r3 xl2 x5 _ _ _ _ S (lv_sub hl [1, 2, 3] rfl) w
  unfold qw_X2_read at w
  refine lv_iconst (v := (0 : Int32)) C.1.1 C.1.2.1 dX2_read_0 (by decide) ?_
  refine lv_istore_n (lv' := [(2, .int (0 : Int32)), (0, .ref a0), (1, va_rf rp1)]) C.1.1 C.1.2.1 dX2_read_1 rfl hl (by decide) (by generalize rp1 = z9; cases z9 <;> rfl) (fun ls hl => ?_)
  exact hB2 ql_FU rp1 (0 : Int32) _ _ _ _ S (lv_sub hl [1, 2, 0] rfl) w
def qw_X2_countCiters_39 (a0 : Nat) (Q : Int32 → ql_H → Prop) (k14 : Int32 → Int32 → Option Nat → Int32 → Int32 → ql_H → Prop) (xl1 : Int32) (xl2 : Int32) (rl3 : Option Nat) (xl4 : Int32) (xl5 : Int32) (h : ql_H) : Prop :=
k14 xl1 xl2 rl3 xl4 (xl5 + (1 : Int32)) h
def qw_X2_countCiters_14 (a0 : Nat) (Q : Int32 → ql_H → Prop) : Nat → Int32 → Int32 → Option Nat → Int32 → Int32 → ql_H → Prop
  | 0, _, _, _, _, _, _ => False
  | n + 1, xl1, xl2, rl3, xl4, xl5, h =>
    if xl4 ≤ xl5 then (Q xl2 h) else (ql_lI h rl3 0 xl5 fun x1 =>
    qw_X2_hasSlot x1 xl1 h (fun x2 h =>
    if x2 = 0 then (qw_X2_countCiters_39 a0 Q (qw_X2_countCiters_14 a0 Q n) xl1 xl2 rl3 xl4 xl5 h) else (qw_X2_countCiters_39 a0 Q (qw_X2_countCiters_14 a0 Q n) xl1 (xl2 + (1 : Int32)) rl3 xl4 xl5 h)))
def qw_X2_countCiters (a0 : Nat) (xp1 : Int32) (h : ql_H) (Q : Int32 → ql_H → Prop) : Prop :=
ql_gR h (some a0) 5 0 fun r3 =>
ql_len h r3 0 fun x4 =>
qw_X2_countCiters_14 a0 Q ql_FU xp1 (0 : Int32) r3 x4 (0 : Int32) h
set_option maxHeartbeats 4000000 in
set_option maxRecDepth 100000 in
theorem qm_X2_countCiters (l : Launch) (hl9 : l.stackTraces = false) (D : ql_D) (h0 : ql_H) (a0 : Nat) (xp1 : Int32) (Q : Int32 → ql_H → Prop) (X : String → ql_H → Prop) (w : qw_X2_countCiters a0 xp1 h0 Q) : ql_M D l yX2_countCiters cX2_countCiters 7 (some .int) ({ frames := 4, cells := 0, slots := 0, locals := 77 } : Room) h0 [.ref a0, .int xp1] (ql_rI Q) X 0 0 := by
  refine ql_ofW (by decide) (Nat.le_of_ble_eq_true rfl) ?_
  intro p e s m below meth c ls C hr hlocks hnm htab S hl
  have hl : lv_has ls 7 [(0, .ref a0), (1, .int xp1)] := hl
  have hB39 : ∀ (k14 : Int32 → Int32 → Option Nat → Int32 → Int32 → ql_H → Prop) (hk14 : ∀ (xl1 : Int32) (xl2 : Int32) (rl3 : Option Nat) (xl4 : Int32) (xl5 : Int32) (h : ql_H) (H : Heap) (locs : List Loc) (ls : Array Slot), ql_S D h0 s H locs h → lv_has ls 7 [(1, .int xl1), (2, .int xl2), (3, va_rf rl3), (4, .int xl4), (5, .int xl5)] → k14 xl1 xl2 rl3 xl4 xl5 h → W p l e ({ frames := 4, cells := 0, slots := 0, locals := 77 } : Room) s m ([.ref a0, .int xp1] : List Value).toArray below meth c H locs 0 0 (vx_MQ below (ql_Q D h0 (ql_rI Q)) (ql_X D h0 X) ([.ref a0, .int xp1] : List Value).toArray s 0 0 (ql_A h0)) (F0 m 14 ls [])) , ∀ (xl1 : Int32) (xl2 : Int32) (rl3 : Option Nat) (xl4 : Int32) (xl5 : Int32) (h : ql_H) (H : Heap) (locs : List Loc) (ls : Array Slot), ql_S D h0 s H locs h → lv_has ls 7 [(1, .int xl1), (2, .int xl2), (3, va_rf rl3), (4, .int xl4), (5, .int xl5)] → qw_X2_countCiters_39 a0 Q k14 xl1 xl2 rl3 xl4 xl5 h → W p l e ({ frames := 4, cells := 0, slots := 0, locals := 77 } : Room) s m ([.ref a0, .int xp1] : List Value).toArray below meth c H locs 0 0 (vx_MQ below (ql_Q D h0 (ql_rI Q)) (ql_X D h0 X) ([.ref a0, .int xp1] : List Value).toArray s 0 0 (ql_A h0)) (F0 m 39 ls []) := by
    intro k14 hk14 xl1 xl2 rl3 xl4 xl5 h H locs ls S hl w
    unfold qw_X2_countCiters_39 at w
    refine lv_iinc (v := (xl5 + (1 : Int32))) (lv' := [(5, .int (xl5 + (1 : Int32))), (1, .int xl1), (2, .int xl2), (3, va_rf rl3), (4, .int xl4)]) C.1.1 C.1.2.1 dX2_countCiters_39 hl (k := 4) rfl rfl (by decide) rfl (fun ls hl => ?_)
    refine lv_goto (tgt := 14) C.1.1 C.1.2.1 dX2_countCiters_42 (by decide) ?_
    exact hk14 xl1 xl2 rl3 xl4 (xl5 + (1 : Int32)) _ _ _ _ S (lv_sub hl [1, 2, 3, 4, 0] rfl) w
  have hB14 : ∀ n : Nat, ∀ (xl1 : Int32) (xl2 : Int32) (rl3 : Option Nat) (xl4 : Int32) (xl5 : Int32) (h : ql_H) (H : Heap) (locs : List Loc) (ls : Array Slot), ql_S D h0 s H locs h → lv_has ls 7 [(1, .int xl1), (2, .int xl2), (3, va_rf rl3), (4, .int xl4), (5, .int xl5)] → qw_X2_countCiters_14 a0 Q n xl1 xl2 rl3 xl4 xl5 h → W p l e ({ frames := 4, cells := 0, slots := 0, locals := 77 } : Room) s m ([.ref a0, .int xp1] : List Value).toArray below meth c H locs 0 0 (vx_MQ below (ql_Q D h0 (ql_rI Q)) (ql_X D h0 X) ([.ref a0, .int xp1] : List Value).toArray s 0 0 (ql_A h0)) (F0 m 14 ls []) := by
    intro n
    induction n with
    | zero => intro xl1 xl2 rl3 xl4 xl5 h H locs ls S hl w; rw [qw_X2_countCiters_14] at w; exact w.elim
    | succ n ih =>
      intro xl1 xl2 rl3 xl4 xl5 h H locs ls S hl w
      rw [qw_X2_countCiters_14] at w
      refine lv_iload C.1.1 C.1.2.1 dX2_countCiters_14 (lv_at hl 4 rfl) ?_
      refine lv_iload C.1.1 C.1.2.1 dX2_countCiters_16 (lv_at hl 3 rfl) ?_
      refine lv_icmp_ge (tgt := 45) C.1.1 C.1.2.1 dX2_countCiters_18 (by decide) (fun c9 => ?_) (fun c9 => ?_)
      · replace w := ql_if w c9
        refine lv_iload_n C.1.1 C.1.2.1 dX2_countCiters_45 rfl (lv_at hl 1 rfl) ?_
        exact ql_iret C S hr hlocks dX2_countCiters_46 ⟨Nat.le_of_ble_eq_true rfl, Nat.le_of_ble_eq_true rfl⟩ w
      · replace w := ql_ifn w c9
        refine ql_aload_n (r := rl3) C dX2_countCiters_21 rfl (lv_at hl 2 rfl) ?_
        refine lv_iload C.1.1 C.1.2.1 dX2_countCiters_22 (lv_at hl 4 rfl) ?_
        refine ql_iald C S dX2_countCiters_24 w (fun x1 w => ?_)
        refine lv_istore (lv' := [(6, .int x1), (1, .int xl1), (2, .int xl2), (3, va_rf rl3), (4, .int xl4), (5, .int xl5)]) C.1.1 C.1.2.1 dX2_countCiters_25 hl (by decide) rfl (fun ls hl => ?_)
        refine lv_iload C.1.1 C.1.2.1 dX2_countCiters_27 (lv_at hl 0 rfl) ?_
        refine lv_iload_n C.1.1 C.1.2.1 dX2_countCiters_29 rfl (lv_at hl 1 rfl) ?_
        refine ql_SI (As := [.int x1, .int xl1]) (rest := []) C S htab hlocks hl qy_X2_hasSlot qi_X2_hasSlot gw_753 (qm_X2_hasSlot l hl9 D _ x1 xl1 _ _ w) rfl ⟨Nat.le_of_ble_eq_true rfl, Nat.le_of_ble_eq_true rfl⟩ ⟨rfl, rfl⟩ (by exact Nat.le_of_ble_eq_true rfl) rfl dX2_countCiters_30 ⟨Nat.le_of_ble_eq_true rfl, Nat.le_of_ble_eq_true rfl⟩ ⟨Nat.le_of_ble_eq_true rfl, Nat.le_of_ble_eq_true rfl⟩ (fun x2 h H locs S w => ?_)
        refine W.cs (cells' := 0) (slots' := 0) rfl rfl ?_
        refine lv_if_eq (tgt := 39) C.1.1 C.1.2.1 dX2_countCiters_33 (by decide) (fun c9 => ?_) (fun c9 => ?_)
        · replace w := ql_if w c9
          exact hB39 (qw_X2_countCiters_14 a0 Q n) ih xl1 xl2 rl3 xl4 xl5 _ _ _ _ S (lv_sub hl [1, 2, 3, 4, 5] rfl) w
        · replace w := ql_ifn w c9
          refine lv_iinc (v := (xl2 + (1 : Int32))) (lv' := [(2, .int (xl2 + (1 : Int32))), (6, .int x1), (1, .int xl1), (3, va_rf rl3), (4, .int xl4), (5, .int xl5)]) C.1.1 C.1.2.1 dX2_countCiters_36 hl (k := 2) rfl rfl (by decide) rfl (fun ls hl => ?_)
          exact hB39 (qw_X2_countCiters_14 a0 Q n) ih xl1 (xl2 + (1 : Int32)) rl3 xl4 xl5 _ _ _ _ S (lv_sub hl [2, 0, 3, 4, 5] rfl) w
  unfold qw_X2_countCiters at w
  refine lv_iconst (v := (0 : Int32)) C.1.1 C.1.2.1 dX2_countCiters_0 (by decide) ?_
  refine lv_istore_n (lv' := [(2, .int (0 : Int32)), (0, .ref a0), (1, .int xp1)]) C.1.1 C.1.2.1 dX2_countCiters_1 rfl hl (by decide) rfl (fun ls hl => ?_)
  refine ql_aload_n (r := (some a0)) C dX2_countCiters_2 rfl (lv_at hl 1 rfl) ?_
  refine ql_getR C S qf_5_0 gw_338 dX2_countCiters_3 w (fun r3 w => ?_)
  refine ql_astore_n (lv' := [(3, va_rf r3), (2, .int (0 : Int32)), (0, .ref a0), (1, .int xp1)]) C dX2_countCiters_6 rfl hl (by decide) rfl (fun ls hl => ?_)
  refine ql_aload_n (r := r3) C dX2_countCiters_7 rfl (lv_at hl 0 rfl) ?_
  refine ql_alen (kd := 0) C S rfl dX2_countCiters_8 w (fun x4 w => ?_)
  refine lv_istore (lv' := [(4, .int x4), (3, va_rf r3), (2, .int (0 : Int32)), (0, .ref a0), (1, .int xp1)]) C.1.1 C.1.2.1 dX2_countCiters_9 hl (by decide) (by generalize r3 = z9; cases z9 <;> rfl) (fun ls hl => ?_)
  refine lv_iconst (v := (0 : Int32)) C.1.1 C.1.2.1 dX2_countCiters_11 (by decide) ?_
  refine lv_istore (lv' := [(5, .int (0 : Int32)), (4, .int x4), (3, va_rf r3), (2, .int (0 : Int32)), (0, .ref a0), (1, .int xp1)]) C.1.1 C.1.2.1 dX2_countCiters_12 hl (by decide) rfl (fun ls hl => ?_)
  exact hB14 ql_FU xp1 (0 : Int32) r3 x4 (0 : Int32) _ _ _ _ S (lv_sub hl [5, 3, 2, 1, 0] rfl) w
def qw_X2_slotsFoundFrom_93 (a0 : Nat) (Q : Int32 → ql_H → Prop) (k56 : Int32 → Int32 → Int32 → Int32 → Int32 → ql_H → Prop) (xl2 : Int32) (xl3 : Int32) (xl4 : Int32) (xl5 : Int32) (xl6 : Int32) (h : ql_H) : Prop :=
k56 xl2 xl3 xl4 xl5 (xl6 + (1 : Int32)) h
def qw_X2_slotsFoundFrom_56 (a0 : Nat) (Q : Int32 → ql_H → Prop) (k14 : Int32 → Int32 → Int32 → ql_H → Prop) : Nat → Int32 → Int32 → Int32 → Int32 → Int32 → ql_H → Prop
  | 0, _, _, _, _, _, _ => False
  | n + 1, xl2, xl3, xl4, xl5, xl6, h =>
    if (16 : Int32) ≤ xl6 then (k14 xl2 xl3 (xl4 + (1 : Int32)) h) else (qw_X2_hasSlot xl5 xl6 h (fun x1 h =>
    if x1 = 0 then (qw_X2_slotsFoundFrom_93 a0 Q (qw_X2_slotsFoundFrom_56 a0 Q k14 n) xl2 xl3 xl4 xl5 xl6 h) else (ql_gR h (some a0) 5 2 fun r2 =>
    ql_len h r2 0 fun x3 =>
    if x3 ≤ xl3 then (qw_X2_slotsFoundFrom_93 a0 Q (qw_X2_slotsFoundFrom_56 a0 Q k14 n) xl2 xl3 xl4 xl5 xl6 h) else (ql_gR h (some a0) 5 2 fun r4 =>
    ql_sI h r4 0 xl3 xl6 fun h =>
    qw_X2_slotsFoundFrom_93 a0 Q (qw_X2_slotsFoundFrom_56 a0 Q k14 n) xl2 (xl3 + (1 : Int32)) xl4 xl5 xl6 h))))
def qw_X2_slotsFoundFrom_14 (a0 : Nat) (Q : Int32 → ql_H → Prop) : Nat → Int32 → Int32 → Int32 → ql_H → Prop
  | 0, _, _, _, _ => False
  | n + 1, xl2, xl3, xl4, h =>
    if xl3 ≤ xl4 then (Q xl2 h) else (ql_gR h (some a0) 5 2 fun r5 =>
    ql_len h r5 0 fun x6 =>
    if x6 ≤ xl4 then (Q xl2 h) else (ql_gR h (some a0) 5 0 fun r7 =>
    ql_gR h (some a0) 5 2 fun r8 =>
    ql_lI h r8 0 xl4 fun x9 =>
    ql_lI h r7 0 x9 fun x10 =>
    qw_X2_slotsFoundFrom_56 a0 Q (qw_X2_slotsFoundFrom_14 a0 Q n) ql_FU (xl2 ||| (x10 &&& (xl2 ^^^ (-1 : Int32)))) xl3 xl4 (x10 &&& (xl2 ^^^ (-1 : Int32))) (0 : Int32) h))
def qw_X2_slotsFoundFrom (a0 : Nat) (xp1 : Int32) (h : ql_H) (Q : Int32 → ql_H → Prop) : Prop :=
ql_gR h (some a0) 5 2 fun r11 =>
ql_sI h r11 0 (0 : Int32) xp1 fun h =>
qw_X2_slotsFoundFrom_14 a0 Q ql_FU (0 : Int32) (1 : Int32) (0 : Int32) h
set_option maxHeartbeats 4000000 in
set_option maxRecDepth 100000 in
theorem qm_X2_slotsFoundFrom (l : Launch) (hl9 : l.stackTraces = false) (D : ql_D) (h0 : ql_H) (a0 : Nat) (xp1 : Int32) (Q : Int32 → ql_H → Prop) (X : String → ql_H → Prop) (w : qw_X2_slotsFoundFrom a0 xp1 h0 Q) : ql_M D l yX2_slotsFoundFrom cX2_slotsFoundFrom 7 (some .int) ({ frames := 4, cells := 0, slots := 0, locals := 77 } : Room) h0 [.ref a0, .int xp1] (ql_rI Q) X 0 0 := by
  refine ql_ofW (by decide) (Nat.le_of_ble_eq_true rfl) ?_
  intro p e s m below meth c ls C hr hlocks hnm htab S hl
  have hl : lv_has ls 7 [(0, .ref a0), (1, .int xp1)] := hl
  have hB93 : ∀ (k56 : Int32 → Int32 → Int32 → Int32 → Int32 → ql_H → Prop) (hk56 : ∀ (xl2 : Int32) (xl3 : Int32) (xl4 : Int32) (xl5 : Int32) (xl6 : Int32) (h : ql_H) (H : Heap) (locs : List Loc) (ls : Array Slot), ql_S D h0 s H locs h → lv_has ls 7 [(0, .ref a0), (2, .int xl2), (3, .int xl3), (4, .int xl4), (5, .int xl5), (6, .int xl6)] → k56 xl2 xl3 xl4 xl5 xl6 h → W p l e ({ frames := 4, cells := 0, slots := 0, locals := 77 } : Room) s m ([.ref a0, .int xp1] : List Value).toArray below meth c H locs 0 0 (vx_MQ below (ql_Q D h0 (ql_rI Q)) (ql_X D h0 X) ([.ref a0, .int xp1] : List Value).toArray s 0 0 (ql_A h0)) (F0 m 56 ls [])) , ∀ (xl2 : Int32) (xl3 : Int32) (xl4 : Int32) (xl5 : Int32) (xl6 : Int32) (h : ql_H) (H : Heap) (locs : List Loc) (ls : Array Slot), ql_S D h0 s H locs h → lv_has ls 7 [(0, .ref a0), (2, .int xl2), (3, .int xl3), (4, .int xl4), (5, .int xl5), (6, .int xl6)] → qw_X2_slotsFoundFrom_93 a0 Q k56 xl2 xl3 xl4 xl5 xl6 h → W p l e ({ frames := 4, cells := 0, slots := 0, locals := 77 } : Room) s m ([.ref a0, .int xp1] : List Value).toArray below meth c H locs 0 0 (vx_MQ below (ql_Q D h0 (ql_rI Q)) (ql_X D h0 X) ([.ref a0, .int xp1] : List Value).toArray s 0 0 (ql_A h0)) (F0 m 93 ls []) := by
    intro k56 hk56 xl2 xl3 xl4 xl5 xl6 h H locs ls S hl w
    unfold qw_X2_slotsFoundFrom_93 at w
    refine lv_iinc (v := (xl6 + (1 : Int32))) (lv' := [(6, .int (xl6 + (1 : Int32))), (0, .ref a0), (2, .int xl2), (3, .int xl3), (4, .int xl4), (5, .int xl5)]) C.1.1 C.1.2.1 dX2_slotsFoundFrom_93 hl (k := 5) rfl rfl (by decide) rfl (fun ls hl => ?_)
    refine lv_goto (tgt := 56) C.1.1 C.1.2.1 dX2_slotsFoundFrom_96 (by decide) ?_
    exact hk56 xl2 xl3 xl4 xl5 (xl6 + (1 : Int32)) _ _ _ _ S (lv_sub hl [1, 2, 3, 4, 5, 0] rfl) w
  have hB56 : ∀ (k14 : Int32 → Int32 → Int32 → ql_H → Prop) (hk14 : ∀ (xl2 : Int32) (xl3 : Int32) (xl4 : Int32) (h : ql_H) (H : Heap) (locs : List Loc) (ls : Array Slot), ql_S D h0 s H locs h → lv_has ls 7 [(0, .ref a0), (2, .int xl2), (3, .int xl3), (4, .int xl4)] → k14 xl2 xl3 xl4 h → W p l e ({ frames := 4, cells := 0, slots := 0, locals := 77 } : Room) s m ([.ref a0, .int xp1] : List Value).toArray below meth c H locs 0 0 (vx_MQ below (ql_Q D h0 (ql_rI Q)) (ql_X D h0 X) ([.ref a0, .int xp1] : List Value).toArray s 0 0 (ql_A h0)) (F0 m 14 ls [])) , ∀ n : Nat, ∀ (xl2 : Int32) (xl3 : Int32) (xl4 : Int32) (xl5 : Int32) (xl6 : Int32) (h : ql_H) (H : Heap) (locs : List Loc) (ls : Array Slot), ql_S D h0 s H locs h → lv_has ls 7 [(0, .ref a0), (2, .int xl2), (3, .int xl3), (4, .int xl4), (5, .int xl5), (6, .int xl6)] → qw_X2_slotsFoundFrom_56 a0 Q k14 n xl2 xl3 xl4 xl5 xl6 h → W p l e ({ frames := 4, cells := 0, slots := 0, locals := 77 } : Room) s m ([.ref a0, .int xp1] : List Value).toArray below meth c H locs 0 0 (vx_MQ below (ql_Q D h0 (ql_rI Q)) (ql_X D h0 X) ([.ref a0, .int xp1] : List Value).toArray s 0 0 (ql_A h0)) (F0 m 56 ls []) := by
    intro k14 hk14 n
    induction n with
    | zero => intro xl2 xl3 xl4 xl5 xl6 h H locs ls S hl w; rw [qw_X2_slotsFoundFrom_56] at w; exact w.elim
    | succ n ih =>
      intro xl2 xl3 xl4 xl5 xl6 h H locs ls S hl w
      rw [qw_X2_slotsFoundFrom_56] at w
      refine lv_iload C.1.1 C.1.2.1 dX2_slotsFoundFrom_56 (lv_at hl 5 rfl) ?_
      refine lv_bipush (v := (16 : Int32)) C.1.1 C.1.2.1 dX2_slotsFoundFrom_58 (by decide) ?_
      refine lv_icmp_ge (tgt := 99) C.1.1 C.1.2.1 dX2_slotsFoundFrom_60 (by decide) (fun c9 => ?_) (fun c9 => ?_)
      · replace w := ql_if w c9
        refine lv_iinc (v := (xl4 + (1 : Int32))) (lv' := [(4, .int (xl4 + (1 : Int32))), (0, .ref a0), (2, .int xl2), (3, .int xl3), (5, .int xl5), (6, .int xl6)]) C.1.1 C.1.2.1 dX2_slotsFoundFrom_99 hl (k := 3) rfl rfl (by decide) rfl (fun ls hl => ?_)
        refine lv_goto (tgt := 14) C.1.1 C.1.2.1 dX2_slotsFoundFrom_102 (by decide) ?_
        exact hk14 xl2 xl3 (xl4 + (1 : Int32)) _ _ _ _ S (lv_sub hl [1, 2, 3, 0] rfl) w
      · replace w := ql_ifn w c9
        refine lv_iload C.1.1 C.1.2.1 dX2_slotsFoundFrom_63 (lv_at hl 4 rfl) ?_
        refine lv_iload C.1.1 C.1.2.1 dX2_slotsFoundFrom_65 (lv_at hl 5 rfl) ?_
        refine ql_SI (As := [.int xl5, .int xl6]) (rest := []) C S htab hlocks hl qy_X2_hasSlot qi_X2_hasSlot gw_753 (qm_X2_hasSlot l hl9 D _ xl5 xl6 _ _ w) rfl ⟨Nat.le_of_ble_eq_true rfl, Nat.le_of_ble_eq_true rfl⟩ ⟨rfl, rfl⟩ (by exact Nat.le_of_ble_eq_true rfl) rfl dX2_slotsFoundFrom_67 ⟨Nat.le_of_ble_eq_true rfl, Nat.le_of_ble_eq_true rfl⟩ ⟨Nat.le_of_ble_eq_true rfl, Nat.le_of_ble_eq_true rfl⟩ (fun x1 h H locs S w => ?_)
        refine W.cs (cells' := 0) (slots' := 0) rfl rfl ?_
        refine lv_if_eq (tgt := 93) C.1.1 C.1.2.1 dX2_slotsFoundFrom_70 (by decide) (fun c9 => ?_) (fun c9 => ?_)
        · replace w := ql_if w c9
          exact hB93 (qw_X2_slotsFoundFrom_56 a0 Q k14 n) ih xl2 xl3 xl4 xl5 xl6 _ _ _ _ S (lv_sub hl [0, 1, 2, 3, 4, 5] rfl) w
        · replace w := ql_ifn w c9
          refine lv_iload_n C.1.1 C.1.2.1 dX2_slotsFoundFrom_73 rfl (lv_at hl 2 rfl) ?_
          refine ql_aload_n (r := (some a0)) C dX2_slotsFoundFrom_74 rfl (lv_at hl 0 rfl) ?_
          refine ql_getR C S qf_5_2 gw_340 dX2_slotsFoundFrom_75 w (fun r2 w => ?_)
          refine ql_alen (kd := 0) C S rfl dX2_slotsFoundFrom_78 w (fun x3 w => ?_)
          refine lv_icmp_ge (tgt := 93) C.1.1 C.1.2.1 dX2_slotsFoundFrom_79 (by decide) (fun c9 => ?_) (fun c9 => ?_)
          · replace w := ql_if w c9
            exact hB93 (qw_X2_slotsFoundFrom_56 a0 Q k14 n) ih xl2 xl3 xl4 xl5 xl6 _ _ _ _ S (lv_sub hl [0, 1, 2, 3, 4, 5] rfl) w
          · replace w := ql_ifn w c9
            refine ql_aload_n (r := (some a0)) C dX2_slotsFoundFrom_82 rfl (lv_at hl 0 rfl) ?_
            refine ql_getR C S qf_5_2 gw_340 dX2_slotsFoundFrom_83 w (fun r4 w => ?_)
            refine lv_iload_n C.1.1 C.1.2.1 dX2_slotsFoundFrom_86 rfl (lv_at hl 2 rfl) ?_
            refine lv_iload C.1.1 C.1.2.1 dX2_slotsFoundFrom_87 (lv_at hl 5 rfl) ?_
            refine ql_iast C S dX2_slotsFoundFrom_89 w (fun h H locs S w => ?_)
            refine lv_iinc (v := (xl3 + (1 : Int32))) (lv' := [(3, .int (xl3 + (1 : Int32))), (0, .ref a0), (2, .int xl2), (4, .int xl4), (5, .int xl5), (6, .int xl6)]) C.1.1 C.1.2.1 dX2_slotsFoundFrom_90 hl (k := 2) rfl rfl (by decide) rfl (fun ls hl => ?_)
            exact hB93 (qw_X2_slotsFoundFrom_56 a0 Q k14 n) ih xl2 (xl3 + (1 : Int32)) xl4 xl5 xl6 _ _ _ _ S (lv_sub hl [1, 2, 0, 3, 4, 5] rfl) w
  have hB14 : ∀ n : Nat, ∀ (xl2 : Int32) (xl3 : Int32) (xl4 : Int32) (h : ql_H) (H : Heap) (locs : List Loc) (ls : Array Slot), ql_S D h0 s H locs h → lv_has ls 7 [(0, .ref a0), (2, .int xl2), (3, .int xl3), (4, .int xl4)] → qw_X2_slotsFoundFrom_14 a0 Q n xl2 xl3 xl4 h → W p l e ({ frames := 4, cells := 0, slots := 0, locals := 77 } : Room) s m ([.ref a0, .int xp1] : List Value).toArray below meth c H locs 0 0 (vx_MQ below (ql_Q D h0 (ql_rI Q)) (ql_X D h0 X) ([.ref a0, .int xp1] : List Value).toArray s 0 0 (ql_A h0)) (F0 m 14 ls []) := by
    intro n
    induction n with
    | zero => intro xl2 xl3 xl4 h H locs ls S hl w; rw [qw_X2_slotsFoundFrom_14] at w; exact w.elim
    | succ n ih =>
      intro xl2 xl3 xl4 h H locs ls S hl w
      rw [qw_X2_slotsFoundFrom_14] at w
      refine lv_iload C.1.1 C.1.2.1 dX2_slotsFoundFrom_14 (lv_at hl 3 rfl) ?_
      refine lv_iload_n C.1.1 C.1.2.1 dX2_slotsFoundFrom_16 rfl (lv_at hl 2 rfl) ?_
      refine lv_icmp_ge (tgt := 105) C.1.1 C.1.2.1 dX2_slotsFoundFrom_17 (by decide) (fun c9 => ?_) (fun c9 => ?_)
      · replace w := ql_if w c9
        refine lv_iload_n C.1.1 C.1.2.1 dX2_slotsFoundFrom_105 rfl (lv_at hl 1 rfl) ?_
        exact ql_iret C S hr hlocks dX2_slotsFoundFrom_106 ⟨Nat.le_of_ble_eq_true rfl, Nat.le_of_ble_eq_true rfl⟩ w
      · replace w := ql_ifn w c9
        refine lv_iload C.1.1 C.1.2.1 dX2_slotsFoundFrom_20 (lv_at hl 3 rfl) ?_
        refine ql_aload_n (r := (some a0)) C dX2_slotsFoundFrom_22 rfl (lv_at hl 0 rfl) ?_
        refine ql_getR C S qf_5_2 gw_340 dX2_slotsFoundFrom_23 w (fun r5 w => ?_)
        refine ql_alen (kd := 0) C S rfl dX2_slotsFoundFrom_26 w (fun x6 w => ?_)
        refine lv_icmp_ge (tgt := 105) C.1.1 C.1.2.1 dX2_slotsFoundFrom_27 (by decide) (fun c9 => ?_) (fun c9 => ?_)
        · replace w := ql_if w c9
          refine lv_iload_n C.1.1 C.1.2.1 dX2_slotsFoundFrom_105 rfl (lv_at hl 1 rfl) ?_
          exact ql_iret C S hr hlocks dX2_slotsFoundFrom_106 ⟨Nat.le_of_ble_eq_true rfl, Nat.le_of_ble_eq_true rfl⟩ w
        · replace w := ql_ifn w c9
          refine ql_aload_n (r := (some a0)) C dX2_slotsFoundFrom_30 rfl (lv_at hl 0 rfl) ?_
          refine ql_getR C S qf_5_0 gw_338 dX2_slotsFoundFrom_31 w (fun r7 w => ?_)
          refine ql_aload_n (r := (some a0)) C dX2_slotsFoundFrom_34 rfl (lv_at hl 0 rfl) ?_
          refine ql_getR C S qf_5_2 gw_340 dX2_slotsFoundFrom_35 w (fun r8 w => ?_)
          refine lv_iload C.1.1 C.1.2.1 dX2_slotsFoundFrom_38 (lv_at hl 3 rfl) ?_
          refine ql_iald C S dX2_slotsFoundFrom_40 w (fun x9 w => ?_)
          refine ql_iald C S dX2_slotsFoundFrom_41 w (fun x10 w => ?_)
          refine lv_iload_n C.1.1 C.1.2.1 dX2_slotsFoundFrom_42 rfl (lv_at hl 1 rfl) ?_
          refine lv_iconst (v := (-1 : Int32)) C.1.1 C.1.2.1 dX2_slotsFoundFrom_43 (by decide) ?_
          refine lv_ixor C.1.1 C.1.2.1 dX2_slotsFoundFrom_44 ?_
          refine lv_iand C.1.1 C.1.2.1 dX2_slotsFoundFrom_45 ?_
          refine lv_istore (lv' := [(5, .int (x10 &&& (xl2 ^^^ (-1 : Int32)))), (0, .ref a0), (2, .int xl2), (3, .int xl3), (4, .int xl4)]) C.1.1 C.1.2.1 dX2_slotsFoundFrom_46 hl (by decide) rfl (fun ls hl => ?_)
          refine lv_iload_n C.1.1 C.1.2.1 dX2_slotsFoundFrom_48 rfl (lv_at hl 2 rfl) ?_
          refine lv_iload C.1.1 C.1.2.1 dX2_slotsFoundFrom_49 (lv_at hl 0 rfl) ?_
          refine lv_ior C.1.1 C.1.2.1 dX2_slotsFoundFrom_51 ?_
          refine lv_istore_n (lv' := [(2, .int (xl2 ||| (x10 &&& (xl2 ^^^ (-1 : Int32))))), (5, .int (x10 &&& (xl2 ^^^ (-1 : Int32)))), (0, .ref a0), (3, .int xl3), (4, .int xl4)]) C.1.1 C.1.2.1 dX2_slotsFoundFrom_52 rfl hl (by decide) rfl (fun ls hl => ?_)
          refine lv_iconst (v := (0 : Int32)) C.1.1 C.1.2.1 dX2_slotsFoundFrom_53 (by decide) ?_
          refine lv_istore (lv' := [(6, .int (0 : Int32)), (2, .int (xl2 ||| (x10 &&& (xl2 ^^^ (-1 : Int32))))), (5, .int (x10 &&& (xl2 ^^^ (-1 : Int32)))), (0, .ref a0), (3, .int xl3), (4, .int xl4)]) C.1.1 C.1.2.1 dX2_slotsFoundFrom_54 hl (by decide) rfl (fun ls hl => ?_)
          exact hB56 (qw_X2_slotsFoundFrom_14 a0 Q n) ih ql_FU (xl2 ||| (x10 &&& (xl2 ^^^ (-1 : Int32)))) xl3 xl4 (x10 &&& (xl2 ^^^ (-1 : Int32))) (0 : Int32) _ _ _ _ S (lv_sub hl [3, 1, 4, 5, 2, 0] rfl) w
  unfold qw_X2_slotsFoundFrom at w
  refine lv_iconst (v := (0 : Int32)) C.1.1 C.1.2.1 dX2_slotsFoundFrom_0 (by decide) ?_
  refine lv_istore_n (lv' := [(2, .int (0 : Int32)), (0, .ref a0), (1, .int xp1)]) C.1.1 C.1.2.1 dX2_slotsFoundFrom_1 rfl hl (by decide) rfl (fun ls hl => ?_)
  refine lv_iconst (v := (1 : Int32)) C.1.1 C.1.2.1 dX2_slotsFoundFrom_2 (by decide) ?_
  refine lv_istore_n (lv' := [(3, .int (1 : Int32)), (2, .int (0 : Int32)), (0, .ref a0), (1, .int xp1)]) C.1.1 C.1.2.1 dX2_slotsFoundFrom_3 rfl hl (by decide) rfl (fun ls hl => ?_)
  refine ql_aload_n (r := (some a0)) C dX2_slotsFoundFrom_4 rfl (lv_at hl 2 rfl) ?_
  refine ql_getR C S qf_5_2 gw_340 dX2_slotsFoundFrom_5 w (fun r11 w => ?_)
  refine lv_iconst (v := (0 : Int32)) C.1.1 C.1.2.1 dX2_slotsFoundFrom_8 (by decide) ?_
  refine lv_iload_n C.1.1 C.1.2.1 dX2_slotsFoundFrom_9 rfl (lv_at hl 3 rfl) ?_
  refine ql_iast C S dX2_slotsFoundFrom_10 w (fun h H locs S w => ?_)
  refine lv_iconst (v := (0 : Int32)) C.1.1 C.1.2.1 dX2_slotsFoundFrom_11 (by decide) ?_
  refine lv_istore (lv' := [(4, .int (0 : Int32)), (3, .int (1 : Int32)), (2, .int (0 : Int32)), (0, .ref a0), (1, .int xp1)]) C.1.1 C.1.2.1 dX2_slotsFoundFrom_12 hl (by decide) rfl (fun ls hl => ?_)
  exact hB14 ql_FU (0 : Int32) (1 : Int32) (0 : Int32) _ _ _ _ S (lv_sub hl [3, 2, 1, 0] rfl) w
def qw_X2_close_59 (a0 : Nat) (Q : ql_H → Prop) (k25 : Int32 → Int32 → ql_H → Prop) (xl1 : Int32) (xl2 : Int32) (h : ql_H) : Prop :=
k25 xl1 (xl2 + (1 : Int32)) h
def qw_X2_close_25 (a0 : Nat) (Q : ql_H → Prop) (k17 : Int32 → ql_H → Prop) : Nat → Int32 → Int32 → ql_H → Prop
  | 0, _, _, _ => False
  | n + 1, xl1, xl2, h =>
    if (16 : Int32) ≤ xl2 then (k17 (xl1 + (1 : Int32)) h) else (ql_gR h (some a0) 5 1 fun r1 =>
    ql_lI h r1 0 xl2 fun x2 =>
    qw_X2_hasSlot x2 xl1 h (fun x3 h =>
    if x3 = 0 then (qw_X2_close_59 a0 Q (qw_X2_close_25 a0 Q k17 n) xl1 xl2 h) else (ql_gR h (some a0) 5 1 fun r4 =>
    ql_lI h r4 0 xl2 fun x5 =>
    ql_gR h (some a0) 5 1 fun r6 =>
    ql_lI h r6 0 xl1 fun x7 =>
    ql_sI h r4 0 xl2 (x5 ||| x7) fun h =>
    qw_X2_close_59 a0 Q (qw_X2_close_25 a0 Q k17 n) xl1 xl2 h)))
def qw_X2_close_17 (a0 : Nat) (Q : ql_H → Prop) : Nat → Int32 → ql_H → Prop
  | 0, _, _ => False
  | n + 1, xl1, h =>
    if (16 : Int32) ≤ xl1 then (Q h) else (qw_X2_close_25 a0 Q (qw_X2_close_17 a0 Q n) ql_FU xl1 (0 : Int32) h)
def qw_X2_close (a0 : Nat) (h : ql_H) (Q : ql_H → Prop) : Prop :=
ql_gR h (some a0) 5 0 fun r8 =>
ql_gR h (some a0) 5 1 fun r9 =>
ql_cpI h r8 (0 : Int32) r9 (0 : Int32) (16 : Int32) 0 .int fun h =>
qw_X2_close_17 a0 Q ql_FU (0 : Int32) h
set_option maxHeartbeats 4000000 in
set_option maxRecDepth 100000 in
theorem qm_X2_close (l : Launch) (hl9 : l.stackTraces = false) (D : ql_D) (h0 : ql_H) (a0 : Nat) (Q : ql_H → Prop) (X : String → ql_H → Prop) (w : qw_X2_close a0 h0 Q) : ql_M D l yX2_close cX2_close 3 none ({ frames := 4, cells := 0, slots := 0, locals := 77 } : Room) h0 [.ref a0] (ql_rV Q) X 0 0 := by
  refine ql_ofW (by decide) (Nat.le_of_ble_eq_true rfl) ?_
  intro p e s m below meth c ls C hr hlocks hnm htab S hl
  have hl : lv_has ls 3 [(0, .ref a0)] := hl
  have hB59 : ∀ (k25 : Int32 → Int32 → ql_H → Prop) (hk25 : ∀ (xl1 : Int32) (xl2 : Int32) (h : ql_H) (H : Heap) (locs : List Loc) (ls : Array Slot), ql_S D h0 s H locs h → lv_has ls 3 [(0, .ref a0), (1, .int xl1), (2, .int xl2)] → k25 xl1 xl2 h → W p l e ({ frames := 4, cells := 0, slots := 0, locals := 77 } : Room) s m ([.ref a0] : List Value).toArray below meth c H locs 0 0 (vx_MQ below (ql_Q D h0 (ql_rV Q)) (ql_X D h0 X) ([.ref a0] : List Value).toArray s 0 0 (ql_A h0)) (F0 m 25 ls [])) , ∀ (xl1 : Int32) (xl2 : Int32) (h : ql_H) (H : Heap) (locs : List Loc) (ls : Array Slot), ql_S D h0 s H locs h → lv_has ls 3 [(0, .ref a0), (1, .int xl1), (2, .int xl2)] → qw_X2_close_59 a0 Q k25 xl1 xl2 h → W p l e ({ frames := 4, cells := 0, slots := 0, locals := 77 } : Room) s m ([.ref a0] : List Value).toArray below meth c H locs 0 0 (vx_MQ below (ql_Q D h0 (ql_rV Q)) (ql_X D h0 X) ([.ref a0] : List Value).toArray s 0 0 (ql_A h0)) (F0 m 59 ls []) := by
    intro k25 hk25 xl1 xl2 h H locs ls S hl w
    unfold qw_X2_close_59 at w
    refine lv_iinc (v := (xl2 + (1 : Int32))) (lv' := [(2, .int (xl2 + (1 : Int32))), (0, .ref a0), (1, .int xl1)]) C.1.1 C.1.2.1 dX2_close_59 hl (k := 2) rfl rfl (by decide) rfl (fun ls hl => ?_)
    refine lv_goto (tgt := 25) C.1.1 C.1.2.1 dX2_close_62 (by decide) ?_
    exact hk25 xl1 (xl2 + (1 : Int32)) _ _ _ _ S (lv_sub hl [1, 2, 0] rfl) w
  have hB25 : ∀ (k17 : Int32 → ql_H → Prop) (hk17 : ∀ (xl1 : Int32) (h : ql_H) (H : Heap) (locs : List Loc) (ls : Array Slot), ql_S D h0 s H locs h → lv_has ls 3 [(0, .ref a0), (1, .int xl1)] → k17 xl1 h → W p l e ({ frames := 4, cells := 0, slots := 0, locals := 77 } : Room) s m ([.ref a0] : List Value).toArray below meth c H locs 0 0 (vx_MQ below (ql_Q D h0 (ql_rV Q)) (ql_X D h0 X) ([.ref a0] : List Value).toArray s 0 0 (ql_A h0)) (F0 m 17 ls [])) , ∀ n : Nat, ∀ (xl1 : Int32) (xl2 : Int32) (h : ql_H) (H : Heap) (locs : List Loc) (ls : Array Slot), ql_S D h0 s H locs h → lv_has ls 3 [(0, .ref a0), (1, .int xl1), (2, .int xl2)] → qw_X2_close_25 a0 Q k17 n xl1 xl2 h → W p l e ({ frames := 4, cells := 0, slots := 0, locals := 77 } : Room) s m ([.ref a0] : List Value).toArray below meth c H locs 0 0 (vx_MQ below (ql_Q D h0 (ql_rV Q)) (ql_X D h0 X) ([.ref a0] : List Value).toArray s 0 0 (ql_A h0)) (F0 m 25 ls []) := by
    intro k17 hk17 n
    induction n with
    | zero => intro xl1 xl2 h H locs ls S hl w; rw [qw_X2_close_25] at w; exact w.elim
    | succ n ih =>
      intro xl1 xl2 h H locs ls S hl w
      rw [qw_X2_close_25] at w
      refine lv_iload_n C.1.1 C.1.2.1 dX2_close_25 rfl (lv_at hl 2 rfl) ?_
      refine lv_bipush (v := (16 : Int32)) C.1.1 C.1.2.1 dX2_close_26 (by decide) ?_
      refine lv_icmp_ge (tgt := 65) C.1.1 C.1.2.1 dX2_close_28 (by decide) (fun c9 => ?_) (fun c9 => ?_)
      · replace w := ql_if w c9
        refine lv_iinc (v := (xl1 + (1 : Int32))) (lv' := [(1, .int (xl1 + (1 : Int32))), (0, .ref a0), (2, .int xl2)]) C.1.1 C.1.2.1 dX2_close_65 hl (k := 1) rfl rfl (by decide) rfl (fun ls hl => ?_)
        refine lv_goto (tgt := 17) C.1.1 C.1.2.1 dX2_close_68 (by decide) ?_
        exact hk17 (xl1 + (1 : Int32)) _ _ _ _ S (lv_sub hl [1, 0] rfl) w
      · replace w := ql_ifn w c9
        refine ql_aload_n (r := (some a0)) C dX2_close_31 rfl (lv_at hl 0 rfl) ?_
        refine ql_getR C S qf_5_1 gw_339 dX2_close_32 w (fun r1 w => ?_)
        refine lv_iload_n C.1.1 C.1.2.1 dX2_close_35 rfl (lv_at hl 2 rfl) ?_
        refine ql_iald C S dX2_close_36 w (fun x2 w => ?_)
        refine lv_iload_n C.1.1 C.1.2.1 dX2_close_37 rfl (lv_at hl 1 rfl) ?_
        refine ql_SI (As := [.int x2, .int xl1]) (rest := []) C S htab hlocks hl qy_X2_hasSlot qi_X2_hasSlot gw_753 (qm_X2_hasSlot l hl9 D _ x2 xl1 _ _ w) rfl ⟨Nat.le_of_ble_eq_true rfl, Nat.le_of_ble_eq_true rfl⟩ ⟨rfl, rfl⟩ (by exact Nat.le_of_ble_eq_true rfl) rfl dX2_close_38 ⟨Nat.le_of_ble_eq_true rfl, Nat.le_of_ble_eq_true rfl⟩ ⟨Nat.le_of_ble_eq_true rfl, Nat.le_of_ble_eq_true rfl⟩ (fun x3 h H locs S w => ?_)
        refine W.cs (cells' := 0) (slots' := 0) rfl rfl ?_
        refine lv_if_eq (tgt := 59) C.1.1 C.1.2.1 dX2_close_41 (by decide) (fun c9 => ?_) (fun c9 => ?_)
        · replace w := ql_if w c9
          exact hB59 (qw_X2_close_25 a0 Q k17 n) ih xl1 xl2 _ _ _ _ S (lv_sub hl [0, 1, 2] rfl) w
        · replace w := ql_ifn w c9
          refine ql_aload_n (r := (some a0)) C dX2_close_44 rfl (lv_at hl 0 rfl) ?_
          refine ql_getR C S qf_5_1 gw_339 dX2_close_45 w (fun r4 w => ?_)
          refine lv_iload_n C.1.1 C.1.2.1 dX2_close_48 rfl (lv_at hl 2 rfl) ?_
          refine lv_dup2_11 C.1.1 C.1.2.1 dX2_close_49 rfl (ql_catR _) ?_
          refine ql_iald C S dX2_close_50 w (fun x5 w => ?_)
          refine ql_aload_n (r := (some a0)) C dX2_close_51 rfl (lv_at hl 0 rfl) ?_
          refine ql_getR C S qf_5_1 gw_339 dX2_close_52 w (fun r6 w => ?_)
          refine lv_iload_n C.1.1 C.1.2.1 dX2_close_55 rfl (lv_at hl 1 rfl) ?_
          refine ql_iald C S dX2_close_56 w (fun x7 w => ?_)
          refine lv_ior C.1.1 C.1.2.1 dX2_close_57 ?_
          refine ql_iast C S dX2_close_58 w (fun h H locs S w => ?_)
          exact hB59 (qw_X2_close_25 a0 Q k17 n) ih xl1 xl2 _ _ _ _ S (lv_sub hl [0, 1, 2] rfl) w
  have hB17 : ∀ n : Nat, ∀ (xl1 : Int32) (h : ql_H) (H : Heap) (locs : List Loc) (ls : Array Slot), ql_S D h0 s H locs h → lv_has ls 3 [(0, .ref a0), (1, .int xl1)] → qw_X2_close_17 a0 Q n xl1 h → W p l e ({ frames := 4, cells := 0, slots := 0, locals := 77 } : Room) s m ([.ref a0] : List Value).toArray below meth c H locs 0 0 (vx_MQ below (ql_Q D h0 (ql_rV Q)) (ql_X D h0 X) ([.ref a0] : List Value).toArray s 0 0 (ql_A h0)) (F0 m 17 ls []) := by
    intro n
    induction n with
    | zero => intro xl1 h H locs ls S hl w; rw [qw_X2_close_17] at w; exact w.elim
    | succ n ih =>
      intro xl1 h H locs ls S hl w
      rw [qw_X2_close_17] at w
      refine lv_iload_n C.1.1 C.1.2.1 dX2_close_17 rfl (lv_at hl 1 rfl) ?_
      refine lv_bipush (v := (16 : Int32)) C.1.1 C.1.2.1 dX2_close_18 (by decide) ?_
      refine lv_icmp_ge (tgt := 71) C.1.1 C.1.2.1 dX2_close_20 (by decide) (fun c9 => ?_) (fun c9 => ?_)
      · replace w := ql_if w c9
        exact ql_vret C S hr hlocks dX2_close_71 ⟨Nat.le_of_ble_eq_true rfl, Nat.le_of_ble_eq_true rfl⟩ w
      · replace w := ql_ifn w c9
        refine lv_iconst (v := (0 : Int32)) C.1.1 C.1.2.1 dX2_close_23 (by decide) ?_
        refine lv_istore_n (lv' := [(2, .int (0 : Int32)), (0, .ref a0), (1, .int xl1)]) C.1.1 C.1.2.1 dX2_close_24 rfl hl (by decide) rfl (fun ls hl => ?_)
        exact hB25 (qw_X2_close_17 a0 Q n) ih ql_FU xl1 (0 : Int32) _ _ _ _ S (lv_sub hl [1, 2, 0] rfl) w
  unfold qw_X2_close at w
  refine ql_aload_n (r := (some a0)) C dX2_close_0 rfl (lv_at hl 0 rfl) ?_
  refine ql_getR C S qf_5_0 gw_338 dX2_close_1 w (fun r8 w => ?_)
  refine lv_iconst (v := (0 : Int32)) C.1.1 C.1.2.1 dX2_close_4 (by decide) ?_
  refine ql_aload_n (r := (some a0)) C dX2_close_5 rfl (lv_at hl 0 rfl) ?_
  refine ql_getR C S qf_5_1 gw_339 dX2_close_6 w (fun r9 w => ?_)
  refine lv_iconst (v := (0 : Int32)) C.1.1 C.1.2.1 dX2_close_9 (by decide) ?_
  refine lv_bipush (v := (16 : Int32)) C.1.1 C.1.2.1 dX2_close_10 (by decide) ?_
  refine ql_copyI (kd := 0) (ty := .int) C S hl rfl rfl ⟨gw_752, gw_400, gw_399, gw_87⟩ (Nat.le_of_ble_eq_true rfl) (by exact Nat.le_of_ble_eq_true rfl) dX2_close_12 w (fun h H locs S w => ?_)
  refine lv_iconst (v := (0 : Int32)) C.1.1 C.1.2.1 dX2_close_15 (by decide) ?_
  refine lv_istore_n (lv' := [(1, .int (0 : Int32)), (0, .ref a0)]) C.1.1 C.1.2.1 dX2_close_16 rfl hl (by decide) rfl (fun ls hl => ?_)
  exact hB17 ql_FU (0 : Int32) _ _ _ _ S (lv_sub hl [1, 0] rfl) w
def qw_X2_slotsClosedFrom (a0 : Nat) (xp1 : Int32) (h : ql_H) (Q : Int32 → ql_H → Prop) : Prop :=
ql_gR h (some a0) 5 1 fun r1 =>
ql_lI h r1 0 xp1 fun x2 =>
Q x2 h
set_option maxHeartbeats 4000000 in
set_option maxRecDepth 100000 in
theorem qm_X2_slotsClosedFrom (l : Launch) (hl9 : l.stackTraces = false) (D : ql_D) (h0 : ql_H) (a0 : Nat) (xp1 : Int32) (Q : Int32 → ql_H → Prop) (X : String → ql_H → Prop) (w : qw_X2_slotsClosedFrom a0 xp1 h0 Q) : ql_M D l yX2_slotsClosedFrom cX2_slotsClosedFrom 2 (some .int) ({ frames := 2, cells := 0, slots := 0, locals := 48 } : Room) h0 [.ref a0, .int xp1] (ql_rI Q) X 0 0 := by
  refine ql_ofW (by decide) (Nat.le_of_ble_eq_true rfl) ?_
  intro p e s m below meth c ls C hr hlocks hnm htab S hl
  have hl : lv_has ls 2 [(0, .ref a0), (1, .int xp1)] := hl
  unfold qw_X2_slotsClosedFrom at w
  refine ql_aload_n (r := (some a0)) C dX2_slotsClosedFrom_0 rfl (lv_at hl 0 rfl) ?_
  refine ql_getR C S qf_5_1 gw_339 dX2_slotsClosedFrom_1 w (fun r1 w => ?_)
  refine lv_iload_n C.1.1 C.1.2.1 dX2_slotsClosedFrom_4 rfl (lv_at hl 1 rfl) ?_
  refine ql_iald C S dX2_slotsClosedFrom_5 w (fun x2 w => ?_)
  exact ql_iret C S hr hlocks dX2_slotsClosedFrom_6 ⟨Nat.le_of_ble_eq_true rfl, Nat.le_of_ble_eq_true rfl⟩ w
def qw_X3_init (a0 : Nat) (h : ql_H) (Q : ql_H → Prop) : Prop :=
ql_pV h (some a0) 6 0 (.int (0 : Int32)) fun h =>
ql_pV h (some a0) 6 1 (.int (-1 : Int32)) fun h =>
ql_pV h (some a0) 6 2 (.int (0 : Int32)) fun h =>
ql_pV h (some a0) 6 3 (.int (0 : Int32)) fun h =>
ql_pV h (some a0) 6 4 (.int (-1 : Int32)) fun h =>
ql_nw h (.inl (0, 8, .inl (fun _ => 0))) fun r1 h =>
ql_pV h (some a0) 6 5 (va_rf r1) fun h =>
ql_nw h (.inl (1, 8, .inr (.inl (fun _ => 0)))) fun r2 h =>
ql_pV h (some a0) 6 6 (va_rf r2) fun h =>
ql_nw h (.inl (0, 4, .inl (fun _ => 0))) fun r3 h =>
ql_pV h (some a0) 6 7 (va_rf r3) fun h =>
Q h
set_option maxHeartbeats 4000000 in
set_option maxRecDepth 100000 in
theorem qm_X3_init (l : Launch) (hl9 : l.stackTraces = false) (D : ql_D) (h0 : ql_H) (a0 : Nat) (Q : ql_H → Prop) (X : String → ql_H → Prop) (w : qw_X3_init a0 h0 Q) : ql_M D l yX3_init cX3_init 1 none ({ frames := 3, cells := 3, slots := 20, locals := 48 } : Room) h0 [.ref a0] (ql_rV Q) X 3 20 := by
  refine ql_ofW (by decide) (Nat.le_of_ble_eq_true rfl) ?_
  intro p e s m below meth c ls C hr hlocks hnm htab S hl
  have hl : lv_has ls 1 [(0, .ref a0)] := hl
  unfold qw_X3_init at w
  refine ql_aload_n (r := (some a0)) C dX3_init_0 rfl (lv_at hl 0 rfl) ?_
  refine ql_objInit C hl gw_128 gw_114 gw_115 dX3_init_1 (Nat.le_of_ble_eq_true rfl) (by exact Nat.le_of_ble_eq_true rfl) ?_
  refine ql_aload_n (r := (some a0)) C dX3_init_4 rfl (lv_at hl 0 rfl) ?_
  refine lv_iconst (v := (0 : Int32)) C.1.1 C.1.2.1 dX3_init_5 (by decide) ?_
  refine ql_putV C S qf_6_0 gw_129 (tyX3) tyX3_ok nmX3 rfl dX3_init_6 (v := .int (0 : Int32)) rfl rfl w (fun h H locs S w => ?_)
  refine ql_aload_n (r := (some a0)) C dX3_init_9 rfl (lv_at hl 0 rfl) ?_
  refine lv_iconst (v := (-1 : Int32)) C.1.1 C.1.2.1 dX3_init_10 (by decide) ?_
  refine ql_putV C S qf_6_1 gw_133 (tyX3) tyX3_ok nmX3 rfl dX3_init_11 (v := .int (-1 : Int32)) rfl rfl w (fun h H locs S w => ?_)
  refine ql_aload_n (r := (some a0)) C dX3_init_14 rfl (lv_at hl 0 rfl) ?_
  refine lv_iconst (v := (0 : Int32)) C.1.1 C.1.2.1 dX3_init_15 (by decide) ?_
  refine ql_putV C S qf_6_2 gw_136 (tyX3) tyX3_ok nmX3 rfl dX3_init_16 (v := .int (0 : Int32)) rfl rfl w (fun h H locs S w => ?_)
  refine ql_aload_n (r := (some a0)) C dX3_init_19 rfl (lv_at hl 0 rfl) ?_
  refine lv_iconst (v := (0 : Int32)) C.1.1 C.1.2.1 dX3_init_20 (by decide) ?_
  refine ql_putV C S qf_6_3 gw_139 (tyX3) tyX3_ok nmX3 rfl dX3_init_21 (v := .int (0 : Int32)) rfl rfl w (fun h H locs S w => ?_)
  refine ql_aload_n (r := (some a0)) C dX3_init_24 rfl (lv_at hl 0 rfl) ?_
  refine lv_iconst (v := (-1 : Int32)) C.1.1 C.1.2.1 dX3_init_25 (by decide) ?_
  refine ql_putV C S qf_6_4 gw_141 (tyX3) tyX3_ok nmX3 rfl dX3_init_26 (v := .int (-1 : Int32)) rfl rfl w (fun h H locs S w => ?_)
  refine ql_aload_n (r := (some a0)) C dX3_init_29 rfl (lv_at hl 0 rfl) ?_
  refine lv_bipush (v := (8 : Int32)) C.1.1 C.1.2.1 dX3_init_30 (by decide) ?_
  refine ql_newa (kd := 0) (a0 := (8, .inl (fun _ => 0))) (atype := .int) C S gw_164 rfl (fun z => z) (fun cA => rfl) (by decide) (by decide) (by decide) ⟨Nat.le_of_ble_eq_true rfl, Nat.le_of_ble_eq_true rfl⟩ dX3_init_32 w (fun r1 h H S w => ?_)
  refine W.cs (cells' := 1) (slots' := 8) rfl rfl ?_
  refine ql_putVF C S qf_6_5 gw_144 (tyX3) tyX3_ok nmX3 rfl hnm rfl dX3_init_34 (v := va_rf r1) (by cases r1 <;> rfl) (by cases r1 <;> rfl) w (fun h H locs S w => ?_)
  refine ql_aload_n (r := (some a0)) C dX3_init_37 rfl (lv_at hl 0 rfl) ?_
  refine lv_bipush (v := (8 : Int32)) C.1.1 C.1.2.1 dX3_init_38 (by decide) ?_
  refine ql_newa (kd := 1) (a0 := (8, .inr (.inl (fun _ => 0)))) (atype := .long) C S gw_165 rfl (fun z => z) (fun cA => rfl) (by decide) (by decide) (by decide) ⟨Nat.le_of_ble_eq_true rfl, Nat.le_of_ble_eq_true rfl⟩ dX3_init_40 w (fun r2 h H S w => ?_)
  refine W.cs (cells' := 2) (slots' := 16) rfl rfl ?_
  refine ql_putVF C S qf_6_6 gw_145 (tyX3) tyX3_ok nmX3 rfl hnm rfl dX3_init_42 (v := va_rf r2) (by cases r2 <;> rfl) (by cases r2 <;> rfl) w (fun h H locs S w => ?_)
  refine ql_aload_n (r := (some a0)) C dX3_init_45 rfl (lv_at hl 0 rfl) ?_
  refine lv_iconst (v := (4 : Int32)) C.1.1 C.1.2.1 dX3_init_46 (by decide) ?_
  refine ql_newa (kd := 0) (a0 := (4, .inl (fun _ => 0))) (atype := .int) C S gw_164 rfl (fun z => z) (fun cA => rfl) (by decide) (by decide) (by decide) ⟨Nat.le_of_ble_eq_true rfl, Nat.le_of_ble_eq_true rfl⟩ dX3_init_47 w (fun r3 h H S w => ?_)
  refine W.cs (cells' := 3) (slots' := 20) rfl rfl ?_
  refine ql_putVF C S qf_6_7 gw_146 (tyX3) tyX3_ok nmX3 rfl hnm rfl dX3_init_49 (v := va_rf r3) (by cases r3 <;> rfl) (by cases r3 <;> rfl) w (fun h H locs S w => ?_)
  exact ql_vret C S hr hlocks dX3_init_52 ⟨Nat.le_of_ble_eq_true rfl, Nat.le_of_ble_eq_true rfl⟩ w
def qw_X3_firstDay (a0 : Nat) (h : ql_H) (Q : Int32 → ql_H → Prop) : Prop :=
ql_gR h (some a0) 6 5 fun r1 =>
ql_lI h r1 0 (0 : Int32) fun x2 =>
Q x2 h
set_option maxHeartbeats 4000000 in
set_option maxRecDepth 100000 in
theorem qm_X3_firstDay (l : Launch) (hl9 : l.stackTraces = false) (D : ql_D) (h0 : ql_H) (a0 : Nat) (Q : Int32 → ql_H → Prop) (X : String → ql_H → Prop) (w : qw_X3_firstDay a0 h0 Q) : ql_M D l yX3_firstDay cX3_firstDay 1 (some .int) ({ frames := 2, cells := 0, slots := 0, locals := 48 } : Room) h0 [.ref a0] (ql_rI Q) X 0 0 := by
  refine ql_ofW (by decide) (Nat.le_of_ble_eq_true rfl) ?_
  intro p e s m below meth c ls C hr hlocks hnm htab S hl
  have hl : lv_has ls 1 [(0, .ref a0)] := hl
  unfold qw_X3_firstDay at w
  refine ql_aload_n (r := (some a0)) C dX3_firstDay_0 rfl (lv_at hl 0 rfl) ?_
  refine ql_getR C S qf_6_5 gw_144 dX3_firstDay_1 w (fun r1 w => ?_)
  refine lv_iconst (v := (0 : Int32)) C.1.1 C.1.2.1 dX3_firstDay_4 (by decide) ?_
  refine ql_iald C S dX3_firstDay_5 w (fun x2 w => ?_)
  exact ql_iret C S hr hlocks dX3_firstDay_6 ⟨Nat.le_of_ble_eq_true rfl, Nat.le_of_ble_eq_true rfl⟩ w
def qw_X3_textOnDay_35 (a0 : Nat) (Q : Int64 → ql_H → Prop) (k10 : Int32 → Int32 → Int64 → Int32 → ql_H → Prop) (xl1 : Int32) (xl2 : Int32) (jl3 : Int64) (xl5 : Int32) (h : ql_H) : Prop :=
k10 xl1 xl2 jl3 (xl5 + (1 : Int32)) h
def qw_X3_textOnDay_10 (a0 : Nat) (Q : Int64 → ql_H → Prop) : Nat → Int32 → Int32 → Int64 → Int32 → ql_H → Prop
  | 0, _, _, _, _, _ => False
  | n + 1, xl1, xl2, jl3, xl5, h =>
    if xl2 ≤ xl5 then (Q jl3 h) else (ql_gR h (some a0) 6 5 fun r1 =>
    ql_lI h r1 0 xl5 fun x2 =>
    if xl1 < x2 then (qw_X3_textOnDay_35 a0 Q (qw_X3_textOnDay_10 a0 Q n) xl1 xl2 jl3 xl5 h) else (ql_gR h (some a0) 6 6 fun r3 =>
    ql_lJ h r3 xl5 fun j4 =>
    qw_X3_textOnDay_35 a0 Q (qw_X3_textOnDay_10 a0 Q n) xl1 xl2 j4 xl5 h))
def qw_X3_textOnDay (a0 : Nat) (xp1 : Int32) (h : ql_H) (Q : Int64 → ql_H → Prop) : Prop :=
ql_rv h (some a0) 6 fun b5 => qw_X3_countVersions b5  h (fun x5 h =>
qw_X3_textOnDay_10 a0 Q ql_FU xp1 x5 (0 : Int64) (0 : Int32) h)
set_option maxHeartbeats 4000000 in
set_option maxRecDepth 100000 in
theorem qm_X3_textOnDay (l : Launch) (hl9 : l.stackTraces = false) (D : ql_D) (h0 : ql_H) (a0 : Nat) (xp1 : Int32) (Q : Int64 → ql_H → Prop) (X : String → ql_H → Prop) (w : qw_X3_textOnDay a0 xp1 h0 Q) : ql_M D l yX3_textOnDay cX3_textOnDay 6 (some .long) ({ frames := 4, cells := 0, slots := 0, locals := 77 } : Room) h0 [.ref a0, .int xp1] (ql_rJ Q) X 0 0 := by
  refine ql_ofW (by decide) (Nat.le_of_ble_eq_true rfl) ?_
  intro p e s m below meth c ls C hr hlocks hnm htab S hl
  have hl : lv_has ls 6 [(0, .ref a0), (1, .int xp1)] := hl
  have hB35 : ∀ (k10 : Int32 → Int32 → Int64 → Int32 → ql_H → Prop) (hk10 : ∀ (xl1 : Int32) (xl2 : Int32) (jl3 : Int64) (xl5 : Int32) (h : ql_H) (H : Heap) (locs : List Loc) (ls : Array Slot), ql_S D h0 s H locs h → lv_has ls 6 [(0, .ref a0), (1, .int xl1), (2, .int xl2), (3, .long jl3), (5, .int xl5)] → k10 xl1 xl2 jl3 xl5 h → W p l e ({ frames := 4, cells := 0, slots := 0, locals := 77 } : Room) s m ([.ref a0, .int xp1] : List Value).toArray below meth c H locs 0 0 (vx_MQ below (ql_Q D h0 (ql_rJ Q)) (ql_X D h0 X) ([.ref a0, .int xp1] : List Value).toArray s 0 0 (ql_A h0)) (F0 m 10 ls [])) , ∀ (xl1 : Int32) (xl2 : Int32) (jl3 : Int64) (xl5 : Int32) (h : ql_H) (H : Heap) (locs : List Loc) (ls : Array Slot), ql_S D h0 s H locs h → lv_has ls 6 [(0, .ref a0), (1, .int xl1), (2, .int xl2), (3, .long jl3), (5, .int xl5)] → qw_X3_textOnDay_35 a0 Q k10 xl1 xl2 jl3 xl5 h → W p l e ({ frames := 4, cells := 0, slots := 0, locals := 77 } : Room) s m ([.ref a0, .int xp1] : List Value).toArray below meth c H locs 0 0 (vx_MQ below (ql_Q D h0 (ql_rJ Q)) (ql_X D h0 X) ([.ref a0, .int xp1] : List Value).toArray s 0 0 (ql_A h0)) (F0 m 35 ls []) := by
    intro k10 hk10 xl1 xl2 jl3 xl5 h H locs ls S hl w
    unfold qw_X3_textOnDay_35 at w
    refine lv_iinc (v := (xl5 + (1 : Int32))) (lv' := [(5, .int (xl5 + (1 : Int32))), (0, .ref a0), (1, .int xl1), (2, .int xl2), (3, .long jl3)]) C.1.1 C.1.2.1 dX3_textOnDay_35 hl (k := 4) rfl rfl (by decide) rfl (fun ls hl => ?_)
    refine lv_goto (tgt := 10) C.1.1 C.1.2.1 dX3_textOnDay_38 (by decide) ?_
    exact hk10 xl1 xl2 jl3 (xl5 + (1 : Int32)) _ _ _ _ S (lv_sub hl [1, 2, 3, 4, 0] rfl) w
  have hB10 : ∀ n : Nat, ∀ (xl1 : Int32) (xl2 : Int32) (jl3 : Int64) (xl5 : Int32) (h : ql_H) (H : Heap) (locs : List Loc) (ls : Array Slot), ql_S D h0 s H locs h → lv_has ls 6 [(0, .ref a0), (1, .int xl1), (2, .int xl2), (3, .long jl3), (5, .int xl5)] → qw_X3_textOnDay_10 a0 Q n xl1 xl2 jl3 xl5 h → W p l e ({ frames := 4, cells := 0, slots := 0, locals := 77 } : Room) s m ([.ref a0, .int xp1] : List Value).toArray below meth c H locs 0 0 (vx_MQ below (ql_Q D h0 (ql_rJ Q)) (ql_X D h0 X) ([.ref a0, .int xp1] : List Value).toArray s 0 0 (ql_A h0)) (F0 m 10 ls []) := by
    intro n
    induction n with
    | zero => intro xl1 xl2 jl3 xl5 h H locs ls S hl w; rw [qw_X3_textOnDay_10] at w; exact w.elim
    | succ n ih =>
      intro xl1 xl2 jl3 xl5 h H locs ls S hl w
      rw [qw_X3_textOnDay_10] at w
      refine lv_iload C.1.1 C.1.2.1 dX3_textOnDay_10 (lv_at hl 4 rfl) ?_
      refine lv_iload_n C.1.1 C.1.2.1 dX3_textOnDay_12 rfl (lv_at hl 2 rfl) ?_
      refine lv_icmp_ge (tgt := 41) C.1.1 C.1.2.1 dX3_textOnDay_13 (by decide) (fun c9 => ?_) (fun c9 => ?_)
      · replace w := ql_if w c9
        refine lv_lload_n C.1.1 C.1.2.1 dX3_textOnDay_41 rfl (lv_at hl 3 rfl) ?_
        exact ql_lret C S hr hlocks dX3_textOnDay_42 ⟨Nat.le_of_ble_eq_true rfl, Nat.le_of_ble_eq_true rfl⟩ w
      · replace w := ql_ifn w c9
        refine ql_aload_n (r := (some a0)) C dX3_textOnDay_16 rfl (lv_at hl 0 rfl) ?_
        refine ql_getR C S qf_6_5 gw_144 dX3_textOnDay_17 w (fun r1 w => ?_)
        refine lv_iload C.1.1 C.1.2.1 dX3_textOnDay_20 (lv_at hl 4 rfl) ?_
        refine ql_iald C S dX3_textOnDay_22 w (fun x2 w => ?_)
        refine lv_iload_n C.1.1 C.1.2.1 dX3_textOnDay_23 rfl (lv_at hl 1 rfl) ?_
        refine lv_icmp_gt (tgt := 35) C.1.1 C.1.2.1 dX3_textOnDay_24 (by decide) (fun c9 => ?_) (fun c9 => ?_)
        · replace w := ql_if w c9
          exact hB35 (qw_X3_textOnDay_10 a0 Q n) ih xl1 xl2 jl3 xl5 _ _ _ _ S (lv_sub hl [0, 1, 2, 3, 4] rfl) w
        · replace w := ql_ifn w c9
          refine ql_aload_n (r := (some a0)) C dX3_textOnDay_27 rfl (lv_at hl 0 rfl) ?_
          refine ql_getR C S qf_6_6 gw_145 dX3_textOnDay_28 w (fun r3 w => ?_)
          refine lv_iload C.1.1 C.1.2.1 dX3_textOnDay_31 (lv_at hl 4 rfl) ?_
          refine ql_lald C S dX3_textOnDay_33 w (fun j4 w => ?_)
          refine lv_lstore_n (lv' := [(3, .long j4), (0, .ref a0), (1, .int xl1), (2, .int xl2), (5, .int xl5)]) C.1.1 C.1.2.1 dX3_textOnDay_34 rfl hl (by decide) rfl (fun ls hl => ?_)
          exact hB35 (qw_X3_textOnDay_10 a0 Q n) ih xl1 xl2 j4 xl5 _ _ _ _ S (lv_sub hl [1, 2, 3, 0, 4] rfl) w
  unfold qw_X3_textOnDay at w
  refine ql_aload_n (r := (some a0)) C dX3_textOnDay_0 rfl (lv_at hl 0 rfl) ?_
  refine ql_VI (As := []) (rest := []) C S htab hlocks hl qy_X3_countVersions qi_X3_countVersions qs_X3_countVersions gw_467 (ci := 6) rfl w (fun b w => qm_X3_countVersions l hl9 D _ b _ _ w) rfl ⟨Nat.le_of_ble_eq_true rfl, Nat.le_of_ble_eq_true rfl⟩ ⟨rfl, rfl⟩ (by exact Nat.le_of_ble_eq_true rfl) (fun b e9 => by cases e9; rfl) dX3_textOnDay_1 ⟨Nat.le_of_ble_eq_true rfl, Nat.le_of_ble_eq_true rfl⟩ ⟨Nat.le_of_ble_eq_true rfl, Nat.le_of_ble_eq_true rfl⟩ (fun x5 h H locs S w => ?_)
  refine W.cs (cells' := 0) (slots' := 0) rfl rfl ?_
  refine lv_istore_n (lv' := [(2, .int x5), (0, .ref a0), (1, .int xp1)]) C.1.1 C.1.2.1 dX3_textOnDay_4 rfl hl (by decide) rfl (fun ls hl => ?_)
  refine lv_lconst (v := (0 : Int64)) C.1.1 C.1.2.1 dX3_textOnDay_5 (by decide) ?_
  refine lv_lstore_n (lv' := [(3, .long (0 : Int64)), (2, .int x5), (0, .ref a0), (1, .int xp1)]) C.1.1 C.1.2.1 dX3_textOnDay_6 rfl hl (by decide) rfl (fun ls hl => ?_)
  refine lv_iconst (v := (0 : Int32)) C.1.1 C.1.2.1 dX3_textOnDay_7 (by decide) ?_
  refine lv_istore (lv' := [(5, .int (0 : Int32)), (3, .long (0 : Int64)), (2, .int x5), (0, .ref a0), (1, .int xp1)]) C.1.1 C.1.2.1 dX3_textOnDay_8 hl (by decide) rfl (fun ls hl => ?_)
  exact hB10 ql_FU xp1 x5 (0 : Int64) (0 : Int32) _ _ _ _ S (lv_sub hl [3, 4, 2, 1, 0] rfl) w
def qw_X5_init (a0 : Nat) (h : ql_H) (Q : ql_H → Prop) : Prop :=
ql_nm h 13 13 fun r1 h =>
ql_pV h (some a0) 8 0 (va_rf r1) fun h =>
Q h
set_option maxHeartbeats 4000000 in
set_option maxRecDepth 100000 in
theorem qm_X5_init (l : Launch) (hl9 : l.stackTraces = false) (D : ql_D) (h0 : ql_H) (a0 : Nat) (Q : ql_H → Prop) (X : String → ql_H → Prop) (w : qw_X5_init a0 h0 Q) : ql_M D l yX5_init cX5_init 1 none ({ frames := 3, cells := 14, slots := 182, locals := 48 } : Room) h0 [.ref a0] (ql_rV Q) X 14 182 := by
  refine ql_ofW (by decide) (Nat.le_of_ble_eq_true rfl) ?_
  intro p e s m below meth c ls C hr hlocks hnm htab S hl
  have hl : lv_has ls 1 [(0, .ref a0)] := hl
  unfold qw_X5_init at w
  refine ql_aload_n (r := (some a0)) C dX5_init_0 rfl (lv_at hl 0 rfl) ?_
  refine ql_objInit C hl gw_312 gw_114 gw_115 dX5_init_1 (Nat.le_of_ble_eq_true rfl) (by exact Nat.le_of_ble_eq_true rfl) ?_
  refine ql_aload_n (r := (some a0)) C dX5_init_4 rfl (lv_at hl 0 rfl) ?_
  refine lv_bipush (v := (13 : Int32)) C.1.1 C.1.2.1 dX5_init_5 (by decide) ?_
  refine lv_bipush (v := (13 : Int32)) C.1.1 C.1.2.1 dX5_init_7 (by decide) ?_
  refine ql_mna (N := 13) (K := 13) C S gw_313 gw_164 (by decide) (by decide) (by decide) (by decide) (by decide) (by decide) (by decide) (Nat.le_of_ble_eq_true rfl) (Nat.le_of_ble_eq_true rfl) dX5_init_9 w (fun r1 h H S w => ?_)
  refine W.cs (cells' := 14) (slots' := 182) rfl rfl ?_
  refine ql_putVF C S qf_8_0 gw_315 (tyX5) tyX5_ok nmX5 rfl hnm rfl dX5_init_13 (v := va_rf r1) (by cases r1 <;> rfl) (by cases r1 <;> rfl) w (fun h H locs S w => ?_)
  exact ql_vret C S hr hlocks dX5_init_16 ⟨Nat.le_of_ble_eq_true rfl, Nat.le_of_ble_eq_true rfl⟩ w
def qw_X9_noteOf (jp0 : Int64) (xp2 : Int32) (h : ql_H) (Q : Int32 → ql_H → Prop) : Prop :=
qw_X9_codeAt jp0 xp2 h (fun x1 h =>
ql_nz .char ((((97 : Int32) + x1) - (1 : Int32)).toUInt32 % 65536).toInt32 ∧ Q ((((97 : Int32) + x1) - (1 : Int32)).toUInt32 % 65536).toInt32 h)
set_option maxHeartbeats 4000000 in
set_option maxRecDepth 100000 in
theorem qm_X9_noteOf (l : Launch) (hl9 : l.stackTraces = false) (D : ql_D) (h0 : ql_H) (jp0 : Int64) (xp2 : Int32) (Q : Int32 → ql_H → Prop) (X : String → ql_H → Prop) (w : qw_X9_noteOf jp0 xp2 h0 Q) : ql_M D l yX9_noteOf cX9_noteOf 3 (some .char) ({ frames := 4, cells := 0, slots := 0, locals := 78 } : Room) h0 [.long jp0, .int xp2] (ql_rI Q) X 0 0 := by
  refine ql_ofW (by decide) (Nat.le_of_ble_eq_true rfl) ?_
  intro p e s m below meth c ls C hr hlocks hnm htab S hl
  have hl : lv_has ls 3 [(0, .long jp0), (2, .int xp2)] := hl
  unfold qw_X9_noteOf at w
  refine lv_bipush (v := (97 : Int32)) C.1.1 C.1.2.1 dX9_noteOf_0 (by decide) ?_
  refine lv_lload_n C.1.1 C.1.2.1 dX9_noteOf_2 rfl (lv_at hl 0 rfl) ?_
  refine lv_iload_n C.1.1 C.1.2.1 dX9_noteOf_3 rfl (lv_at hl 1 rfl) ?_
  refine ql_SI (As := [.long jp0, .int xp2]) (rest := [.int (97 : Int32)]) C S htab hlocks hl qy_X9_codeAt qi_X9_codeAt gw_721 (qm_X9_codeAt l hl9 D _ jp0 xp2 _ _ w) rfl ⟨Nat.le_of_ble_eq_true rfl, Nat.le_of_ble_eq_true rfl⟩ ⟨rfl, rfl⟩ (by exact Nat.le_of_ble_eq_true rfl) rfl dX9_noteOf_4 ⟨Nat.le_of_ble_eq_true rfl, Nat.le_of_ble_eq_true rfl⟩ ⟨Nat.le_of_ble_eq_true rfl, Nat.le_of_ble_eq_true rfl⟩ (fun x1 h H locs S w => ?_)
  refine W.cs (cells' := 0) (slots' := 0) rfl rfl ?_
  refine lv_iadd C.1.1 C.1.2.1 dX9_noteOf_7 ?_
  refine lv_iconst (v := (1 : Int32)) C.1.1 C.1.2.1 dX9_noteOf_8 (by decide) ?_
  refine lv_isub C.1.1 C.1.2.1 dX9_noteOf_9 ?_
  refine lv_i2c C.1.1 C.1.2.1 dX9_noteOf_10 rfl ?_
  exact ql_zret C S hr hlocks dX9_noteOf_11 ⟨Nat.le_of_ble_eq_true rfl, Nat.le_of_ble_eq_true rfl⟩ w
def qw_J9_min_7cf53 (xp0 : Int32) (xp1 : Int32) (h : ql_H) (Q : Int32 → ql_H → Prop) : Prop :=
if xp1 < xp0 then (Q xp1 h) else (Q xp0 h)
set_option maxHeartbeats 4000000 in
set_option maxRecDepth 100000 in
theorem qm_J9_min_7cf53 (l : Launch) (hl9 : l.stackTraces = false) (D : ql_D) (h0 : ql_H) (xp0 : Int32) (xp1 : Int32) (Q : Int32 → ql_H → Prop) (X : String → ql_H → Prop) (w : qw_J9_min_7cf53 xp0 xp1 h0 Q) : ql_M D l yJ9_min_7cf53 cJ9_min_7cf53 2 (some .int) ({ frames := 2, cells := 0, slots := 0, locals := 48 } : Room) h0 [.int xp0, .int xp1] (ql_rI Q) X 0 0 := by
  refine ql_ofW (by decide +kernel) (Nat.le_of_ble_eq_true rfl) ?_
  intro p e s m below meth c ls C hr hlocks hnm htab S hl
  have hl : lv_has ls 2 [(0, .int xp0), (1, .int xp1)] := hl
  unfold qw_J9_min_7cf53 at w
  refine lv_iload_n C.1.1 C.1.2.1 dJ9_min_7cf53_0 rfl (lv_at hl 0 rfl) ?_
  refine lv_iload_n C.1.1 C.1.2.1 dJ9_min_7cf53_1 rfl (lv_at hl 1 rfl) ?_
  refine lv_icmp_gt (tgt := 9) C.1.1 C.1.2.1 dJ9_min_7cf53_2 (by decide) (fun c9 => ?_) (fun c9 => ?_)
  · replace w := ql_if w c9
    refine lv_iload_n C.1.1 C.1.2.1 dJ9_min_7cf53_9 rfl (lv_at hl 1 rfl) ?_
    exact ql_iret C S hr hlocks dJ9_min_7cf53_10 ⟨Nat.le_of_ble_eq_true rfl, Nat.le_of_ble_eq_true rfl⟩ w
  · replace w := ql_ifn w c9
    refine lv_iload_n C.1.1 C.1.2.1 dJ9_min_7cf53_5 rfl (lv_at hl 0 rfl) ?_
    refine lv_goto (tgt := 10) C.1.1 C.1.2.1 dJ9_min_7cf53_6 (by decide) ?_
    exact ql_iret C S hr hlocks dJ9_min_7cf53_10 ⟨Nat.le_of_ble_eq_true rfl, Nat.le_of_ble_eq_true rfl⟩ w
def qw_X5_byBeginnings_145 (a0 : Nat) (Q : Int32 → ql_H → Prop) (k25 : Int64 → Int64 → Int32 → Int32 → Int32 → Int32 → ql_H → Prop) (jl1 : Int64) (jl3 : Int64) (xl5 : Int32) (xl6 : Int32) (xl7 : Int32) (xl8 : Int32) (h : ql_H) : Prop :=
k25 jl1 jl3 xl5 xl6 xl7 (xl8 + (1 : Int32)) h
def qw_X5_byBeginnings_42 (a0 : Nat) (Q : Int32 → ql_H → Prop) (k25 : Int64 → Int64 → Int32 → Int32 → Int32 → Int32 → ql_H → Prop) (jl1 : Int64) (jl3 : Int64) (xl5 : Int32) (xl6 : Int32) (xl7 : Int32) (xl8 : Int32) (h : ql_H) : Prop :=
ql_gR h (some a0) 8 0 fun r1 =>
ql_lR h r1 8 xl7 fun r2 =>
ql_sI h r2 0 xl8 (xl7 + xl8) fun h =>
qw_X5_byBeginnings_145 a0 Q k25 jl1 jl3 xl5 xl6 xl7 xl8 h
def qw_X5_byBeginnings_25 (a0 : Nat) (Q : Int32 → ql_H → Prop) (k15 : Int64 → Int64 → Int32 → Int32 → Int32 → ql_H → Prop) : Nat → Int64 → Int64 → Int32 → Int32 → Int32 → Int32 → ql_H → Prop
  | 0, _, _, _, _, _, _, _ => False
  | n + 1, jl1, jl3, xl5, xl6, xl7, xl8, h =>
    if xl6 < xl8 then (k15 jl1 jl3 xl5 xl6 (xl7 + (1 : Int32)) h) else (if xl7 = 0 then (qw_X5_byBeginnings_42 a0 Q (qw_X5_byBeginnings_25 a0 Q k15 n) jl1 jl3 xl5 xl6 xl7 xl8 h) else (if xl8 = 0 then (qw_X5_byBeginnings_42 a0 Q (qw_X5_byBeginnings_25 a0 Q k15 n) jl1 jl3 xl5 xl6 xl7 xl8 h) else (qw_X9_noteOf jl1 (xl7 - (1 : Int32)) h (fun x3 h =>
    qw_X9_noteOf jl3 (xl8 - (1 : Int32)) h (fun x4 h =>
    if x3 = x4 then (ql_gR h (some a0) 8 0 fun r14 =>
    ql_lR h r14 8 xl7 fun r15 =>
    ql_gR h (some a0) 8 0 fun r16 =>
    ql_lR h r16 8 (xl7 - (1 : Int32)) fun r17 =>
    ql_lI h r17 0 (xl8 - (1 : Int32)) fun x18 =>
    ql_sI h r15 0 xl8 x18 fun h =>
    qw_X5_byBeginnings_145 a0 Q (qw_X5_byBeginnings_25 a0 Q k15 n) jl1 jl3 xl5 xl6 xl7 xl8 h) else (ql_gR h (some a0) 8 0 fun r5 =>
    ql_lR h r5 8 xl7 fun r6 =>
    ql_gR h (some a0) 8 0 fun r7 =>
    ql_lR h r7 8 (xl7 - (1 : Int32)) fun r8 =>
    ql_lI h r8 0 xl8 fun x9 =>
    ql_gR h (some a0) 8 0 fun r10 =>
    ql_lR h r10 8 xl7 fun r11 =>
    ql_lI h r11 0 (xl8 - (1 : Int32)) fun x12 =>
    qw_J9_min_7cf53 x9 x12 h (fun x13 h =>
    ql_sI h r6 0 xl8 ((1 : Int32) + x13) fun h =>
    qw_X5_byBeginnings_145 a0 Q (qw_X5_byBeginnings_25 a0 Q k15 n) jl1 jl3 xl5 xl6 xl7 xl8 h)))))))
def qw_X5_byBeginnings_15 (a0 : Nat) (Q : Int32 → ql_H → Prop) : Nat → Int64 → Int64 → Int32 → Int32 → Int32 → ql_H → Prop
  | 0, _, _, _, _, _, _ => False
  | n + 1, jl1, jl3, xl5, xl6, xl7, h =>
    if xl5 < xl7 then (ql_gR h (some a0) 8 0 fun r19 =>
    ql_lR h r19 8 xl5 fun r20 =>
    ql_lI h r20 0 xl6 fun x21 =>
    Q x21 h) else (qw_X5_byBeginnings_25 a0 Q (qw_X5_byBeginnings_15 a0 Q n) ql_FU jl1 jl3 xl5 xl6 xl7 (0 : Int32) h)
def qw_X5_byBeginnings (a0 : Nat) (jp1 : Int64) (jp3 : Int64) (h : ql_H) (Q : Int32 → ql_H → Prop) : Prop :=
qw_X9_lengthOf jp1 h (fun x22 h =>
qw_X9_lengthOf jp3 h (fun x23 h =>
qw_X5_byBeginnings_15 a0 Q ql_FU jp1 jp3 x22 x23 (0 : Int32) h))
set_option maxHeartbeats 4000000 in
set_option maxRecDepth 100000 in
theorem qm_X5_byBeginnings (l : Launch) (hl9 : l.stackTraces = false) (D : ql_D) (h0 : ql_H) (a0 : Nat) (jp1 : Int64) (jp3 : Int64) (Q : Int32 → ql_H → Prop) (X : String → ql_H → Prop) (w : qw_X5_byBeginnings a0 jp1 jp3 h0 Q) : ql_M D l yX5_byBeginnings cX5_byBeginnings 9 (some .int) ({ frames := 6, cells := 0, slots := 0, locals := 108 } : Room) h0 [.ref a0, .long jp1, .long jp3] (ql_rI Q) X 0 0 := by
  refine ql_ofW (by decide) (Nat.le_of_ble_eq_true rfl) ?_
  intro p e s m below meth c ls C hr hlocks hnm htab S hl
  have hl : lv_has ls 9 [(0, .ref a0), (1, .long jp1), (3, .long jp3)] := hl
  have hB145 : ∀ (k25 : Int64 → Int64 → Int32 → Int32 → Int32 → Int32 → ql_H → Prop) (hk25 : ∀ (jl1 : Int64) (jl3 : Int64) (xl5 : Int32) (xl6 : Int32) (xl7 : Int32) (xl8 : Int32) (h : ql_H) (H : Heap) (locs : List Loc) (ls : Array Slot), ql_S D h0 s H locs h → lv_has ls 9 [(0, .ref a0), (1, .long jl1), (3, .long jl3), (5, .int xl5), (6, .int xl6), (7, .int xl7), (8, .int xl8)] → k25 jl1 jl3 xl5 xl6 xl7 xl8 h → W p l e ({ frames := 6, cells := 0, slots := 0, locals := 108 } : Room) s m ([.ref a0, .long jp1, .long jp3] : List Value).toArray below meth c H locs 0 0 (vx_MQ below (ql_Q D h0 (ql_rI Q)) (ql_X D h0 X) ([.ref a0, .long jp1, .long jp3] : List Value).toArray s 0 0 (ql_A h0)) (F0 m 25 ls [])) , ∀ (jl1 : Int64) (jl3 : Int64) (xl5 : Int32) (xl6 : Int32) (xl7 : Int32) (xl8 : Int32) (h : ql_H) (H : Heap) (locs : List Loc) (ls : Array Slot), ql_S D h0 s H locs h → lv_has ls 9 [(0, .ref a0), (1, .long jl1), (3, .long jl3), (5, .int xl5), (6, .int xl6), (7, .int xl7), (8, .int xl8)] → qw_X5_byBeginnings_145 a0 Q k25 jl1 jl3 xl5 xl6 xl7 xl8 h → W p l e ({ frames := 6, cells := 0, slots := 0, locals := 108 } : Room) s m ([.ref a0, .long jp1, .long jp3] : List Value).toArray below meth c H locs 0 0 (vx_MQ below (ql_Q D h0 (ql_rI Q)) (ql_X D h0 X) ([.ref a0, .long jp1, .long jp3] : List Value).toArray s 0 0 (ql_A h0)) (F0 m 145 ls []) := by
    intro k25 hk25 jl1 jl3 xl5 xl6 xl7 xl8 h H locs ls S hl w
    unfold qw_X5_byBeginnings_145 at w
    refine lv_iinc (v := (xl8 + (1 : Int32))) (lv' := [(8, .int (xl8 + (1 : Int32))), (0, .ref a0), (1, .long jl1), (3, .long jl3), (5, .int xl5), (6, .int xl6), (7, .int xl7)]) C.1.1 C.1.2.1 dX5_byBeginnings_145 hl (k := 6) rfl rfl (by decide) rfl (fun ls hl => ?_)
    refine lv_goto (tgt := 25) C.1.1 C.1.2.1 dX5_byBeginnings_148 (by decide) ?_
    exact hk25 jl1 jl3 xl5 xl6 xl7 (xl8 + (1 : Int32)) _ _ _ _ S (lv_sub hl [1, 2, 3, 4, 5, 6, 0] rfl) w
  have hB42 : ∀ (k25 : Int64 → Int64 → Int32 → Int32 → Int32 → Int32 → ql_H → Prop) (hk25 : ∀ (jl1 : Int64) (jl3 : Int64) (xl5 : Int32) (xl6 : Int32) (xl7 : Int32) (xl8 : Int32) (h : ql_H) (H : Heap) (locs : List Loc) (ls : Array Slot), ql_S D h0 s H locs h → lv_has ls 9 [(0, .ref a0), (1, .long jl1), (3, .long jl3), (5, .int xl5), (6, .int xl6), (7, .int xl7), (8, .int xl8)] → k25 jl1 jl3 xl5 xl6 xl7 xl8 h → W p l e ({ frames := 6, cells := 0, slots := 0, locals := 108 } : Room) s m ([.ref a0, .long jp1, .long jp3] : List Value).toArray below meth c H locs 0 0 (vx_MQ below (ql_Q D h0 (ql_rI Q)) (ql_X D h0 X) ([.ref a0, .long jp1, .long jp3] : List Value).toArray s 0 0 (ql_A h0)) (F0 m 25 ls [])) , ∀ (jl1 : Int64) (jl3 : Int64) (xl5 : Int32) (xl6 : Int32) (xl7 : Int32) (xl8 : Int32) (h : ql_H) (H : Heap) (locs : List Loc) (ls : Array Slot), ql_S D h0 s H locs h → lv_has ls 9 [(0, .ref a0), (1, .long jl1), (3, .long jl3), (5, .int xl5), (6, .int xl6), (7, .int xl7), (8, .int xl8)] → qw_X5_byBeginnings_42 a0 Q k25 jl1 jl3 xl5 xl6 xl7 xl8 h → W p l e ({ frames := 6, cells := 0, slots := 0, locals := 108 } : Room) s m ([.ref a0, .long jp1, .long jp3] : List Value).toArray below meth c H locs 0 0 (vx_MQ below (ql_Q D h0 (ql_rI Q)) (ql_X D h0 X) ([.ref a0, .long jp1, .long jp3] : List Value).toArray s 0 0 (ql_A h0)) (F0 m 42 ls []) := by
    intro k25 hk25 jl1 jl3 xl5 xl6 xl7 xl8 h H locs ls S hl w
    unfold qw_X5_byBeginnings_42 at w
    refine ql_aload_n (r := (some a0)) C dX5_byBeginnings_42 rfl (lv_at hl 0 rfl) ?_
    refine ql_getR C S qf_8_0 gw_315 dX5_byBeginnings_43 w (fun r1 w => ?_)
    refine lv_iload C.1.1 C.1.2.1 dX5_byBeginnings_46 (lv_at hl 5 rfl) ?_
    refine ql_aald (kd := 8) C S rfl rfl dX5_byBeginnings_48 w (fun r2 w => ?_)
    refine lv_iload C.1.1 C.1.2.1 dX5_byBeginnings_49 (lv_at hl 6 rfl) ?_
    refine lv_iload C.1.1 C.1.2.1 dX5_byBeginnings_51 (lv_at hl 5 rfl) ?_
    refine lv_iload C.1.1 C.1.2.1 dX5_byBeginnings_53 (lv_at hl 6 rfl) ?_
    refine lv_iadd C.1.1 C.1.2.1 dX5_byBeginnings_55 ?_
    refine ql_iast C S dX5_byBeginnings_56 w (fun h H locs S w => ?_)
    refine lv_goto (tgt := 145) C.1.1 C.1.2.1 dX5_byBeginnings_57 (by decide) ?_
    exact hB145 k25 hk25 jl1 jl3 xl5 xl6 xl7 xl8 _ _ _ _ S (lv_sub hl [0, 1, 2, 3, 4, 5, 6] rfl) w
  have hB25 : ∀ (k15 : Int64 → Int64 → Int32 → Int32 → Int32 → ql_H → Prop) (hk15 : ∀ (jl1 : Int64) (jl3 : Int64) (xl5 : Int32) (xl6 : Int32) (xl7 : Int32) (h : ql_H) (H : Heap) (locs : List Loc) (ls : Array Slot), ql_S D h0 s H locs h → lv_has ls 9 [(0, .ref a0), (1, .long jl1), (3, .long jl3), (5, .int xl5), (6, .int xl6), (7, .int xl7)] → k15 jl1 jl3 xl5 xl6 xl7 h → W p l e ({ frames := 6, cells := 0, slots := 0, locals := 108 } : Room) s m ([.ref a0, .long jp1, .long jp3] : List Value).toArray below meth c H locs 0 0 (vx_MQ below (ql_Q D h0 (ql_rI Q)) (ql_X D h0 X) ([.ref a0, .long jp1, .long jp3] : List Value).toArray s 0 0 (ql_A h0)) (F0 m 15 ls [])) , ∀ n : Nat, ∀ (jl1 : Int64) (jl3 : Int64) (xl5 : Int32) (xl6 : Int32) (xl7 : Int32) (xl8 : Int32) (h : ql_H) (H : Heap) (locs : List Loc) (ls : Array Slot), ql_S D h0 s H locs h → lv_has ls 9 [(0, .ref a0), (1, .long jl1), (3, .long jl3), (5, .int xl5), (6, .int xl6), (7, .int xl7), (8, .int xl8)] → qw_X5_byBeginnings_25 a0 Q k15 n jl1 jl3 xl5 xl6 xl7 xl8 h → W p l e ({ frames := 6, cells := 0, slots := 0, locals := 108 } : Room) s m ([.ref a0, .long jp1, .long jp3] : List Value).toArray below meth c H locs 0 0 (vx_MQ below (ql_Q D h0 (ql_rI Q)) (ql_X D h0 X) ([.ref a0, .long jp1, .long jp3] : List Value).toArray s 0 0 (ql_A h0)) (F0 m 25 ls []) := by
    intro k15 hk15 n
    induction n with
    | zero => intro jl1 jl3 xl5 xl6 xl7 xl8 h H locs ls S hl w; rw [qw_X5_byBeginnings_25] at w; exact w.elim
    | succ n ih =>
      intro jl1 jl3 xl5 xl6 xl7 xl8 h H locs ls S hl w
      rw [qw_X5_byBeginnings_25] at w
      refine lv_iload C.1.1 C.1.2.1 dX5_byBeginnings_25 (lv_at hl 6 rfl) ?_
      refine lv_iload C.1.1 C.1.2.1 dX5_byBeginnings_27 (lv_at hl 4 rfl) ?_
      refine lv_icmp_gt (tgt := 151) C.1.1 C.1.2.1 dX5_byBeginnings_29 (by decide) (fun c9 => ?_) (fun c9 => ?_)
      · replace w := ql_if w c9
        refine lv_iinc (v := (xl7 + (1 : Int32))) (lv' := [(7, .int (xl7 + (1 : Int32))), (0, .ref a0), (1, .long jl1), (3, .long jl3), (5, .int xl5), (6, .int xl6), (8, .int xl8)]) C.1.1 C.1.2.1 dX5_byBeginnings_151 hl (k := 5) rfl rfl (by decide) rfl (fun ls hl => ?_)
        refine lv_goto (tgt := 15) C.1.1 C.1.2.1 dX5_byBeginnings_154 (by decide) ?_
        exact hk15 jl1 jl3 xl5 xl6 (xl7 + (1 : Int32)) _ _ _ _ S (lv_sub hl [1, 2, 3, 4, 5, 0] rfl) w
      · replace w := ql_ifn w c9
        refine lv_iload C.1.1 C.1.2.1 dX5_byBeginnings_32 (lv_at hl 5 rfl) ?_
        refine lv_if_eq (tgt := 42) C.1.1 C.1.2.1 dX5_byBeginnings_34 (by decide) (fun c9 => ?_) (fun c9 => ?_)
        · replace w := ql_if w c9
          exact hB42 (qw_X5_byBeginnings_25 a0 Q k15 n) ih jl1 jl3 xl5 xl6 xl7 xl8 _ _ _ _ S (lv_sub hl [0, 1, 2, 3, 4, 5, 6] rfl) w
        · replace w := ql_ifn w c9
          refine lv_iload C.1.1 C.1.2.1 dX5_byBeginnings_37 (lv_at hl 6 rfl) ?_
          refine lv_if_ne (tgt := 60) C.1.1 C.1.2.1 dX5_byBeginnings_39 (by decide) (fun c9 => ?_) (fun c9 => ?_)
          · replace w := ql_ifn w c9
            refine lv_lload_n C.1.1 C.1.2.1 dX5_byBeginnings_60 rfl (lv_at hl 1 rfl) ?_
            refine lv_iload C.1.1 C.1.2.1 dX5_byBeginnings_61 (lv_at hl 5 rfl) ?_
            refine lv_iconst (v := (1 : Int32)) C.1.1 C.1.2.1 dX5_byBeginnings_63 (by decide) ?_
            refine lv_isub C.1.1 C.1.2.1 dX5_byBeginnings_64 ?_
            refine ql_SI (As := [.long jl1, .int (xl7 - (1 : Int32))]) (rest := []) C S htab hlocks hl qy_X9_noteOf qi_X9_noteOf gw_724 (qm_X9_noteOf l hl9 D _ jl1 (xl7 - (1 : Int32)) _ _ w) rfl ⟨Nat.le_of_ble_eq_true rfl, Nat.le_of_ble_eq_true rfl⟩ ⟨rfl, rfl⟩ (by exact Nat.le_of_ble_eq_true rfl) rfl dX5_byBeginnings_65 ⟨Nat.le_of_ble_eq_true rfl, Nat.le_of_ble_eq_true rfl⟩ ⟨Nat.le_of_ble_eq_true rfl, Nat.le_of_ble_eq_true rfl⟩ (fun x3 h H locs S w => ?_)
            refine W.cs (cells' := 0) (slots' := 0) rfl rfl ?_
            refine lv_lload_n C.1.1 C.1.2.1 dX5_byBeginnings_68 rfl (lv_at hl 2 rfl) ?_
            refine lv_iload C.1.1 C.1.2.1 dX5_byBeginnings_69 (lv_at hl 6 rfl) ?_
            refine lv_iconst (v := (1 : Int32)) C.1.1 C.1.2.1 dX5_byBeginnings_71 (by decide) ?_
            refine lv_isub C.1.1 C.1.2.1 dX5_byBeginnings_72 ?_
            refine ql_SI (As := [.long jl3, .int (xl8 - (1 : Int32))]) (rest := [.int x3]) C S htab hlocks hl qy_X9_noteOf qi_X9_noteOf gw_724 (qm_X9_noteOf l hl9 D _ jl3 (xl8 - (1 : Int32)) _ _ w) rfl ⟨Nat.le_of_ble_eq_true rfl, Nat.le_of_ble_eq_true rfl⟩ ⟨rfl, rfl⟩ (by exact Nat.le_of_ble_eq_true rfl) rfl dX5_byBeginnings_73 ⟨Nat.le_of_ble_eq_true rfl, Nat.le_of_ble_eq_true rfl⟩ ⟨Nat.le_of_ble_eq_true rfl, Nat.le_of_ble_eq_true rfl⟩ (fun x4 h H locs S w => ?_)
            refine W.cs (cells' := 0) (slots' := 0) rfl rfl ?_
            refine lv_icmp_ne (tgt := 106) C.1.1 C.1.2.1 dX5_byBeginnings_76 (by decide) (fun c9 => ?_) (fun c9 => ?_)
            · replace w := ql_ifn w c9
              refine ql_aload_n (r := (some a0)) C dX5_byBeginnings_106 rfl (lv_at hl 0 rfl) ?_
              refine ql_getR C S qf_8_0 gw_315 dX5_byBeginnings_107 w (fun r5 w => ?_)
              refine lv_iload C.1.1 C.1.2.1 dX5_byBeginnings_110 (lv_at hl 5 rfl) ?_
              refine ql_aald (kd := 8) C S rfl rfl dX5_byBeginnings_112 w (fun r6 w => ?_)
              refine lv_iload C.1.1 C.1.2.1 dX5_byBeginnings_113 (lv_at hl 6 rfl) ?_
              refine lv_iconst (v := (1 : Int32)) C.1.1 C.1.2.1 dX5_byBeginnings_115 (by decide) ?_
              refine ql_aload_n (r := (some a0)) C dX5_byBeginnings_116 rfl (lv_at hl 0 rfl) ?_
              refine ql_getR C S qf_8_0 gw_315 dX5_byBeginnings_117 w (fun r7 w => ?_)
              refine lv_iload C.1.1 C.1.2.1 dX5_byBeginnings_120 (lv_at hl 5 rfl) ?_
              refine lv_iconst (v := (1 : Int32)) C.1.1 C.1.2.1 dX5_byBeginnings_122 (by decide) ?_
              refine lv_isub C.1.1 C.1.2.1 dX5_byBeginnings_123 ?_
              refine ql_aald (kd := 8) C S rfl rfl dX5_byBeginnings_124 w (fun r8 w => ?_)
              refine lv_iload C.1.1 C.1.2.1 dX5_byBeginnings_125 (lv_at hl 6 rfl) ?_
              refine ql_iald C S dX5_byBeginnings_127 w (fun x9 w => ?_)
              refine ql_aload_n (r := (some a0)) C dX5_byBeginnings_128 rfl (lv_at hl 0 rfl) ?_
              refine ql_getR C S qf_8_0 gw_315 dX5_byBeginnings_129 w (fun r10 w => ?_)
              refine lv_iload C.1.1 C.1.2.1 dX5_byBeginnings_132 (lv_at hl 5 rfl) ?_
              refine ql_aald (kd := 8) C S rfl rfl dX5_byBeginnings_134 w (fun r11 w => ?_)
              refine lv_iload C.1.1 C.1.2.1 dX5_byBeginnings_135 (lv_at hl 6 rfl) ?_
              refine lv_iconst (v := (1 : Int32)) C.1.1 C.1.2.1 dX5_byBeginnings_137 (by decide) ?_
              refine lv_isub C.1.1 C.1.2.1 dX5_byBeginnings_138 ?_
              refine ql_iald C S dX5_byBeginnings_139 w (fun x12 w => ?_)
              refine ql_SI (As := [.int x9, .int x12]) (rest := [.int (1 : Int32), .int xl8, va_rf r6]) C S htab hlocks hl qy_J9_min_7cf53 qi_J9_min_7cf53 gw_727 (qm_J9_min_7cf53 l hl9 D _ x9 x12 _ _ w) rfl ⟨Nat.le_of_ble_eq_true rfl, Nat.le_of_ble_eq_true rfl⟩ ⟨rfl, rfl⟩ (by generalize r6 = z0; cases z0 <;> exact Nat.le_of_ble_eq_true rfl) rfl dX5_byBeginnings_140 ⟨Nat.le_of_ble_eq_true rfl, Nat.le_of_ble_eq_true rfl⟩ ⟨Nat.le_of_ble_eq_true rfl, Nat.le_of_ble_eq_true rfl⟩ (fun x13 h H locs S w => ?_)
              refine W.cs (cells' := 0) (slots' := 0) rfl rfl ?_
              refine lv_iadd C.1.1 C.1.2.1 dX5_byBeginnings_143 ?_
              refine ql_iast C S dX5_byBeginnings_144 w (fun h H locs S w => ?_)
              exact hB145 (qw_X5_byBeginnings_25 a0 Q k15 n) ih jl1 jl3 xl5 xl6 xl7 xl8 _ _ _ _ S (lv_sub hl [0, 1, 2, 3, 4, 5, 6] rfl) w
            · replace w := ql_if w c9
              refine ql_aload_n (r := (some a0)) C dX5_byBeginnings_79 rfl (lv_at hl 0 rfl) ?_
              refine ql_getR C S qf_8_0 gw_315 dX5_byBeginnings_80 w (fun r14 w => ?_)
              refine lv_iload C.1.1 C.1.2.1 dX5_byBeginnings_83 (lv_at hl 5 rfl) ?_
              refine ql_aald (kd := 8) C S rfl rfl dX5_byBeginnings_85 w (fun r15 w => ?_)
              refine lv_iload C.1.1 C.1.2.1 dX5_byBeginnings_86 (lv_at hl 6 rfl) ?_
              refine ql_aload_n (r := (some a0)) C dX5_byBeginnings_88 rfl (lv_at hl 0 rfl) ?_
              refine ql_getR C S qf_8_0 gw_315 dX5_byBeginnings_89 w (fun r16 w => ?_)
              refine lv_iload C.1.1 C.1.2.1 dX5_byBeginnings_92 (lv_at hl 5 rfl) ?_
              refine lv_iconst (v := (1 : Int32)) C.1.1 C.1.2.1 dX5_byBeginnings_94 (by decide) ?_
              refine lv_isub C.1.1 C.1.2.1 dX5_byBeginnings_95 ?_
              refine ql_aald (kd := 8) C S rfl rfl dX5_byBeginnings_96 w (fun r17 w => ?_)
              refine lv_iload C.1.1 C.1.2.1 dX5_byBeginnings_97 (lv_at hl 6 rfl) ?_
              refine lv_iconst (v := (1 : Int32)) C.1.1 C.1.2.1 dX5_byBeginnings_99 (by decide) ?_
              refine lv_isub C.1.1 C.1.2.1 dX5_byBeginnings_100 ?_
              refine ql_iald C S dX5_byBeginnings_101 w (fun x18 w => ?_)
              refine ql_iast C S dX5_byBeginnings_102 w (fun h H locs S w => ?_)
              refine lv_goto (tgt := 145) C.1.1 C.1.2.1 dX5_byBeginnings_103 (by decide) ?_
              exact hB145 (qw_X5_byBeginnings_25 a0 Q k15 n) ih jl1 jl3 xl5 xl6 xl7 xl8 _ _ _ _ S (lv_sub hl [0, 1, 2, 3, 4, 5, 6] rfl) w
          · replace w := ql_if w c9
            exact hB42 (qw_X5_byBeginnings_25 a0 Q k15 n) ih jl1 jl3 xl5 xl6 xl7 xl8 _ _ _ _ S (lv_sub hl [0, 1, 2, 3, 4, 5, 6] rfl) w
  have hB15 : ∀ n : Nat, ∀ (jl1 : Int64) (jl3 : Int64) (xl5 : Int32) (xl6 : Int32) (xl7 : Int32) (h : ql_H) (H : Heap) (locs : List Loc) (ls : Array Slot), ql_S D h0 s H locs h → lv_has ls 9 [(0, .ref a0), (1, .long jl1), (3, .long jl3), (5, .int xl5), (6, .int xl6), (7, .int xl7)] → qw_X5_byBeginnings_15 a0 Q n jl1 jl3 xl5 xl6 xl7 h → W p l e ({ frames := 6, cells := 0, slots := 0, locals := 108 } : Room) s m ([.ref a0, .long jp1, .long jp3] : List Value).toArray below meth c H locs 0 0 (vx_MQ below (ql_Q D h0 (ql_rI Q)) (ql_X D h0 X) ([.ref a0, .long jp1, .long jp3] : List Value).toArray s 0 0 (ql_A h0)) (F0 m 15 ls []) := by
    intro n
    induction n with
    | zero => intro jl1 jl3 xl5 xl6 xl7 h H locs ls S hl w; rw [qw_X5_byBeginnings_15] at w; exact w.elim
    | succ n ih =>
      intro jl1 jl3 xl5 xl6 xl7 h H locs ls S hl w
      rw [qw_X5_byBeginnings_15] at w
      refine lv_iload C.1.1 C.1.2.1 dX5_byBeginnings_15 (lv_at hl 5 rfl) ?_
      refine lv_iload C.1.1 C.1.2.1 dX5_byBeginnings_17 (lv_at hl 3 rfl) ?_
      refine lv_icmp_gt (tgt := 157) C.1.1 C.1.2.1 dX5_byBeginnings_19 (by decide) (fun c9 => ?_) (fun c9 => ?_)
      · replace w := ql_if w c9
        refine ql_aload_n (r := (some a0)) C dX5_byBeginnings_157 rfl (lv_at hl 0 rfl) ?_
        refine ql_getR C S qf_8_0 gw_315 dX5_byBeginnings_158 w (fun r19 w => ?_)
        refine lv_iload C.1.1 C.1.2.1 dX5_byBeginnings_161 (lv_at hl 3 rfl) ?_
        refine ql_aald (kd := 8) C S rfl rfl dX5_byBeginnings_163 w (fun r20 w => ?_)
        refine lv_iload C.1.1 C.1.2.1 dX5_byBeginnings_164 (lv_at hl 4 rfl) ?_
        refine ql_iald C S dX5_byBeginnings_166 w (fun x21 w => ?_)
        exact ql_iret C S hr hlocks dX5_byBeginnings_167 ⟨Nat.le_of_ble_eq_true rfl, Nat.le_of_ble_eq_true rfl⟩ w
      · replace w := ql_ifn w c9
        refine lv_iconst (v := (0 : Int32)) C.1.1 C.1.2.1 dX5_byBeginnings_22 (by decide) ?_
        refine lv_istore (lv' := [(8, .int (0 : Int32)), (0, .ref a0), (1, .long jl1), (3, .long jl3), (5, .int xl5), (6, .int xl6), (7, .int xl7)]) C.1.1 C.1.2.1 dX5_byBeginnings_23 hl (by decide) rfl (fun ls hl => ?_)
        exact hB25 (qw_X5_byBeginnings_15 a0 Q n) ih ql_FU jl1 jl3 xl5 xl6 xl7 (0 : Int32) _ _ _ _ S (lv_sub hl [1, 2, 3, 4, 5, 6, 0] rfl) w
  unfold qw_X5_byBeginnings at w
  refine lv_lload_n C.1.1 C.1.2.1 dX5_byBeginnings_0 rfl (lv_at hl 1 rfl) ?_
  refine ql_SI (As := [.long jp1]) (rest := []) C S htab hlocks hl qy_X9_lengthOf qi_X9_lengthOf gw_718 (qm_X9_lengthOf l hl9 D _ jp1 _ _ w) rfl ⟨Nat.le_of_ble_eq_true rfl, Nat.le_of_ble_eq_true rfl⟩ ⟨rfl, rfl⟩ (by exact Nat.le_of_ble_eq_true rfl) rfl dX5_byBeginnings_1 ⟨Nat.le_of_ble_eq_true rfl, Nat.le_of_ble_eq_true rfl⟩ ⟨Nat.le_of_ble_eq_true rfl, Nat.le_of_ble_eq_true rfl⟩ (fun x22 h H locs S w => ?_)
  refine W.cs (cells' := 0) (slots' := 0) rfl rfl ?_
  refine lv_istore (lv' := [(5, .int x22), (0, .ref a0), (1, .long jp1), (3, .long jp3)]) C.1.1 C.1.2.1 dX5_byBeginnings_4 hl (by decide) rfl (fun ls hl => ?_)
  refine lv_lload_n C.1.1 C.1.2.1 dX5_byBeginnings_6 rfl (lv_at hl 3 rfl) ?_
  refine ql_SI (As := [.long jp3]) (rest := []) C S htab hlocks hl qy_X9_lengthOf qi_X9_lengthOf gw_718 (qm_X9_lengthOf l hl9 D _ jp3 _ _ w) rfl ⟨Nat.le_of_ble_eq_true rfl, Nat.le_of_ble_eq_true rfl⟩ ⟨rfl, rfl⟩ (by exact Nat.le_of_ble_eq_true rfl) rfl dX5_byBeginnings_7 ⟨Nat.le_of_ble_eq_true rfl, Nat.le_of_ble_eq_true rfl⟩ ⟨Nat.le_of_ble_eq_true rfl, Nat.le_of_ble_eq_true rfl⟩ (fun x23 h H locs S w => ?_)
  refine W.cs (cells' := 0) (slots' := 0) rfl rfl ?_
  refine lv_istore (lv' := [(6, .int x23), (5, .int x22), (0, .ref a0), (1, .long jp1), (3, .long jp3)]) C.1.1 C.1.2.1 dX5_byBeginnings_10 hl (by decide) rfl (fun ls hl => ?_)
  refine lv_iconst (v := (0 : Int32)) C.1.1 C.1.2.1 dX5_byBeginnings_12 (by decide) ?_
  refine lv_istore (lv' := [(7, .int (0 : Int32)), (6, .int x23), (5, .int x22), (0, .ref a0), (1, .long jp1), (3, .long jp3)]) C.1.1 C.1.2.1 dX5_byBeginnings_13 hl (by decide) rfl (fun ls hl => ?_)
  exact hB15 ql_FU jp1 jp3 x22 x23 (0 : Int32) _ _ _ _ S (lv_sub hl [3, 4, 5, 2, 1, 0] rfl) w
def qw_X5_byEnds_149 (a0 : Nat) (Q : Int32 → ql_H → Prop) (k25 : Int64 → Int64 → Int32 → Int32 → Int32 → Int32 → ql_H → Prop) (jl1 : Int64) (jl3 : Int64) (xl5 : Int32) (xl6 : Int32) (xl7 : Int32) (xl8 : Int32) (h : ql_H) : Prop :=
k25 jl1 jl3 xl5 xl6 xl7 (xl8 + (-1 : Int32)) h
def qw_X5_byEnds_44 (a0 : Nat) (Q : Int32 → ql_H → Prop) (k25 : Int64 → Int64 → Int32 → Int32 → Int32 → Int32 → ql_H → Prop) (jl1 : Int64) (jl3 : Int64) (xl5 : Int32) (xl6 : Int32) (xl7 : Int32) (xl8 : Int32) (h : ql_H) : Prop :=
ql_gR h (some a0) 8 0 fun r1 =>
ql_lR h r1 8 xl7 fun r2 =>
ql_sI h r2 0 xl8 (((xl5 - xl7) + xl6) - xl8) fun h =>
qw_X5_byEnds_149 a0 Q k25 jl1 jl3 xl5 xl6 xl7 xl8 h
def qw_X5_byEnds_25 (a0 : Nat) (Q : Int32 → ql_H → Prop) (k16 : Int64 → Int64 → Int32 → Int32 → Int32 → ql_H → Prop) : Nat → Int64 → Int64 → Int32 → Int32 → Int32 → Int32 → ql_H → Prop
  | 0, _, _, _, _, _, _, _ => False
  | n + 1, jl1, jl3, xl5, xl6, xl7, xl8, h =>
    if xl8 < 0 then (k16 jl1 jl3 xl5 xl6 (xl7 + (-1 : Int32)) h) else (if xl7 = xl5 then (qw_X5_byEnds_44 a0 Q (qw_X5_byEnds_25 a0 Q k16 n) jl1 jl3 xl5 xl6 xl7 xl8 h) else (if xl8 = xl6 then (qw_X5_byEnds_44 a0 Q (qw_X5_byEnds_25 a0 Q k16 n) jl1 jl3 xl5 xl6 xl7 xl8 h) else (qw_X9_noteOf jl1 xl7 h (fun x3 h =>
    qw_X9_noteOf jl3 xl8 h (fun x4 h =>
    if x3 = x4 then (ql_gR h (some a0) 8 0 fun r14 =>
    ql_lR h r14 8 xl7 fun r15 =>
    ql_gR h (some a0) 8 0 fun r16 =>
    ql_lR h r16 8 (xl7 + (1 : Int32)) fun r17 =>
    ql_lI h r17 0 (xl8 + (1 : Int32)) fun x18 =>
    ql_sI h r15 0 xl8 x18 fun h =>
    qw_X5_byEnds_149 a0 Q (qw_X5_byEnds_25 a0 Q k16 n) jl1 jl3 xl5 xl6 xl7 xl8 h) else (ql_gR h (some a0) 8 0 fun r5 =>
    ql_lR h r5 8 xl7 fun r6 =>
    ql_gR h (some a0) 8 0 fun r7 =>
    ql_lR h r7 8 (xl7 + (1 : Int32)) fun r8 =>
    ql_lI h r8 0 xl8 fun x9 =>
    ql_gR h (some a0) 8 0 fun r10 =>
    ql_lR h r10 8 xl7 fun r11 =>
    ql_lI h r11 0 (xl8 + (1 : Int32)) fun x12 =>
    qw_J9_min_7cf53 x9 x12 h (fun x13 h =>
    ql_sI h r6 0 xl8 ((1 : Int32) + x13) fun h =>
    qw_X5_byEnds_149 a0 Q (qw_X5_byEnds_25 a0 Q k16 n) jl1 jl3 xl5 xl6 xl7 xl8 h)))))))
def qw_X5_byEnds_16 (a0 : Nat) (Q : Int32 → ql_H → Prop) : Nat → Int64 → Int64 → Int32 → Int32 → Int32 → ql_H → Prop
  | 0, _, _, _, _, _, _ => False
  | n + 1, jl1, jl3, xl5, xl6, xl7, h =>
    if xl7 < 0 then (ql_gR h (some a0) 8 0 fun r19 =>
    ql_lR h r19 8 (0 : Int32) fun r20 =>
    ql_lI h r20 0 (0 : Int32) fun x21 =>
    Q x21 h) else (qw_X5_byEnds_25 a0 Q (qw_X5_byEnds_16 a0 Q n) ql_FU jl1 jl3 xl5 xl6 xl7 xl6 h)
def qw_X5_byEnds (a0 : Nat) (jp1 : Int64) (jp3 : Int64) (h : ql_H) (Q : Int32 → ql_H → Prop) : Prop :=
qw_X9_lengthOf jp1 h (fun x22 h =>
qw_X9_lengthOf jp3 h (fun x23 h =>
qw_X5_byEnds_16 a0 Q ql_FU jp1 jp3 x22 x23 x22 h))
set_option maxHeartbeats 4000000 in
set_option maxRecDepth 100000 in
theorem qm_X5_byEnds (l : Launch) (hl9 : l.stackTraces = false) (D : ql_D) (h0 : ql_H) (a0 : Nat) (jp1 : Int64) (jp3 : Int64) (Q : Int32 → ql_H → Prop) (X : String → ql_H → Prop) (w : qw_X5_byEnds a0 jp1 jp3 h0 Q) : ql_M D l yX5_byEnds cX5_byEnds 9 (some .int) ({ frames := 6, cells := 0, slots := 0, locals := 108 } : Room) h0 [.ref a0, .long jp1, .long jp3] (ql_rI Q) X 0 0 := by
  refine ql_ofW (by decide) (Nat.le_of_ble_eq_true rfl) ?_
  intro p e s m below meth c ls C hr hlocks hnm htab S hl
  have hl : lv_has ls 9 [(0, .ref a0), (1, .long jp1), (3, .long jp3)] := hl
  have hB149 : ∀ (k25 : Int64 → Int64 → Int32 → Int32 → Int32 → Int32 → ql_H → Prop) (hk25 : ∀ (jl1 : Int64) (jl3 : Int64) (xl5 : Int32) (xl6 : Int32) (xl7 : Int32) (xl8 : Int32) (h : ql_H) (H : Heap) (locs : List Loc) (ls : Array Slot), ql_S D h0 s H locs h → lv_has ls 9 [(0, .ref a0), (1, .long jl1), (3, .long jl3), (5, .int xl5), (6, .int xl6), (7, .int xl7), (8, .int xl8)] → k25 jl1 jl3 xl5 xl6 xl7 xl8 h → W p l e ({ frames := 6, cells := 0, slots := 0, locals := 108 } : Room) s m ([.ref a0, .long jp1, .long jp3] : List Value).toArray below meth c H locs 0 0 (vx_MQ below (ql_Q D h0 (ql_rI Q)) (ql_X D h0 X) ([.ref a0, .long jp1, .long jp3] : List Value).toArray s 0 0 (ql_A h0)) (F0 m 25 ls [])) , ∀ (jl1 : Int64) (jl3 : Int64) (xl5 : Int32) (xl6 : Int32) (xl7 : Int32) (xl8 : Int32) (h : ql_H) (H : Heap) (locs : List Loc) (ls : Array Slot), ql_S D h0 s H locs h → lv_has ls 9 [(0, .ref a0), (1, .long jl1), (3, .long jl3), (5, .int xl5), (6, .int xl6), (7, .int xl7), (8, .int xl8)] → qw_X5_byEnds_149 a0 Q k25 jl1 jl3 xl5 xl6 xl7 xl8 h → W p l e ({ frames := 6, cells := 0, slots := 0, locals := 108 } : Room) s m ([.ref a0, .long jp1, .long jp3] : List Value).toArray below meth c H locs 0 0 (vx_MQ below (ql_Q D h0 (ql_rI Q)) (ql_X D h0 X) ([.ref a0, .long jp1, .long jp3] : List Value).toArray s 0 0 (ql_A h0)) (F0 m 149 ls []) := by
    intro k25 hk25 jl1 jl3 xl5 xl6 xl7 xl8 h H locs ls S hl w
    unfold qw_X5_byEnds_149 at w
    refine lv_iinc (v := (xl8 + (-1 : Int32))) (lv' := [(8, .int (xl8 + (-1 : Int32))), (0, .ref a0), (1, .long jl1), (3, .long jl3), (5, .int xl5), (6, .int xl6), (7, .int xl7)]) C.1.1 C.1.2.1 dX5_byEnds_149 hl (k := 6) rfl rfl (by decide) rfl (fun ls hl => ?_)
    refine lv_goto (tgt := 25) C.1.1 C.1.2.1 dX5_byEnds_152 (by decide) ?_
    exact hk25 jl1 jl3 xl5 xl6 xl7 (xl8 + (-1 : Int32)) _ _ _ _ S (lv_sub hl [1, 2, 3, 4, 5, 6, 0] rfl) w
  have hB44 : ∀ (k25 : Int64 → Int64 → Int32 → Int32 → Int32 → Int32 → ql_H → Prop) (hk25 : ∀ (jl1 : Int64) (jl3 : Int64) (xl5 : Int32) (xl6 : Int32) (xl7 : Int32) (xl8 : Int32) (h : ql_H) (H : Heap) (locs : List Loc) (ls : Array Slot), ql_S D h0 s H locs h → lv_has ls 9 [(0, .ref a0), (1, .long jl1), (3, .long jl3), (5, .int xl5), (6, .int xl6), (7, .int xl7), (8, .int xl8)] → k25 jl1 jl3 xl5 xl6 xl7 xl8 h → W p l e ({ frames := 6, cells := 0, slots := 0, locals := 108 } : Room) s m ([.ref a0, .long jp1, .long jp3] : List Value).toArray below meth c H locs 0 0 (vx_MQ below (ql_Q D h0 (ql_rI Q)) (ql_X D h0 X) ([.ref a0, .long jp1, .long jp3] : List Value).toArray s 0 0 (ql_A h0)) (F0 m 25 ls [])) , ∀ (jl1 : Int64) (jl3 : Int64) (xl5 : Int32) (xl6 : Int32) (xl7 : Int32) (xl8 : Int32) (h : ql_H) (H : Heap) (locs : List Loc) (ls : Array Slot), ql_S D h0 s H locs h → lv_has ls 9 [(0, .ref a0), (1, .long jl1), (3, .long jl3), (5, .int xl5), (6, .int xl6), (7, .int xl7), (8, .int xl8)] → qw_X5_byEnds_44 a0 Q k25 jl1 jl3 xl5 xl6 xl7 xl8 h → W p l e ({ frames := 6, cells := 0, slots := 0, locals := 108 } : Room) s m ([.ref a0, .long jp1, .long jp3] : List Value).toArray below meth c H locs 0 0 (vx_MQ below (ql_Q D h0 (ql_rI Q)) (ql_X D h0 X) ([.ref a0, .long jp1, .long jp3] : List Value).toArray s 0 0 (ql_A h0)) (F0 m 44 ls []) := by
    intro k25 hk25 jl1 jl3 xl5 xl6 xl7 xl8 h H locs ls S hl w
    unfold qw_X5_byEnds_44 at w
    refine ql_aload_n (r := (some a0)) C dX5_byEnds_44 rfl (lv_at hl 0 rfl) ?_
    refine ql_getR C S qf_8_0 gw_315 dX5_byEnds_45 w (fun r1 w => ?_)
    refine lv_iload C.1.1 C.1.2.1 dX5_byEnds_48 (lv_at hl 5 rfl) ?_
    refine ql_aald (kd := 8) C S rfl rfl dX5_byEnds_50 w (fun r2 w => ?_)
    refine lv_iload C.1.1 C.1.2.1 dX5_byEnds_51 (lv_at hl 6 rfl) ?_
    refine lv_iload C.1.1 C.1.2.1 dX5_byEnds_53 (lv_at hl 3 rfl) ?_
    refine lv_iload C.1.1 C.1.2.1 dX5_byEnds_55 (lv_at hl 5 rfl) ?_
    refine lv_isub C.1.1 C.1.2.1 dX5_byEnds_57 ?_
    refine lv_iload C.1.1 C.1.2.1 dX5_byEnds_58 (lv_at hl 4 rfl) ?_
    refine lv_iadd C.1.1 C.1.2.1 dX5_byEnds_60 ?_
    refine lv_iload C.1.1 C.1.2.1 dX5_byEnds_61 (lv_at hl 6 rfl) ?_
    refine lv_isub C.1.1 C.1.2.1 dX5_byEnds_63 ?_
    refine ql_iast C S dX5_byEnds_64 w (fun h H locs S w => ?_)
    refine lv_goto (tgt := 149) C.1.1 C.1.2.1 dX5_byEnds_65 (by decide) ?_
    exact hB149 k25 hk25 jl1 jl3 xl5 xl6 xl7 xl8 _ _ _ _ S (lv_sub hl [0, 1, 2, 3, 4, 5, 6] rfl) w
  have hB25 : ∀ (k16 : Int64 → Int64 → Int32 → Int32 → Int32 → ql_H → Prop) (hk16 : ∀ (jl1 : Int64) (jl3 : Int64) (xl5 : Int32) (xl6 : Int32) (xl7 : Int32) (h : ql_H) (H : Heap) (locs : List Loc) (ls : Array Slot), ql_S D h0 s H locs h → lv_has ls 9 [(0, .ref a0), (1, .long jl1), (3, .long jl3), (5, .int xl5), (6, .int xl6), (7, .int xl7)] → k16 jl1 jl3 xl5 xl6 xl7 h → W p l e ({ frames := 6, cells := 0, slots := 0, locals := 108 } : Room) s m ([.ref a0, .long jp1, .long jp3] : List Value).toArray below meth c H locs 0 0 (vx_MQ below (ql_Q D h0 (ql_rI Q)) (ql_X D h0 X) ([.ref a0, .long jp1, .long jp3] : List Value).toArray s 0 0 (ql_A h0)) (F0 m 16 ls [])) , ∀ n : Nat, ∀ (jl1 : Int64) (jl3 : Int64) (xl5 : Int32) (xl6 : Int32) (xl7 : Int32) (xl8 : Int32) (h : ql_H) (H : Heap) (locs : List Loc) (ls : Array Slot), ql_S D h0 s H locs h → lv_has ls 9 [(0, .ref a0), (1, .long jl1), (3, .long jl3), (5, .int xl5), (6, .int xl6), (7, .int xl7), (8, .int xl8)] → qw_X5_byEnds_25 a0 Q k16 n jl1 jl3 xl5 xl6 xl7 xl8 h → W p l e ({ frames := 6, cells := 0, slots := 0, locals := 108 } : Room) s m ([.ref a0, .long jp1, .long jp3] : List Value).toArray below meth c H locs 0 0 (vx_MQ below (ql_Q D h0 (ql_rI Q)) (ql_X D h0 X) ([.ref a0, .long jp1, .long jp3] : List Value).toArray s 0 0 (ql_A h0)) (F0 m 25 ls []) := by
    intro k16 hk16 n
    induction n with
    | zero => intro jl1 jl3 xl5 xl6 xl7 xl8 h H locs ls S hl w; rw [qw_X5_byEnds_25] at w; exact w.elim
    | succ n ih =>
      intro jl1 jl3 xl5 xl6 xl7 xl8 h H locs ls S hl w
      rw [qw_X5_byEnds_25] at w
      refine lv_iload C.1.1 C.1.2.1 dX5_byEnds_25 (lv_at hl 6 rfl) ?_
      refine lv_if_lt (tgt := 155) C.1.1 C.1.2.1 dX5_byEnds_27 (by decide) (fun c9 => ?_) (fun c9 => ?_)
      · replace w := ql_if w c9
        refine lv_iinc (v := (xl7 + (-1 : Int32))) (lv' := [(7, .int (xl7 + (-1 : Int32))), (0, .ref a0), (1, .long jl1), (3, .long jl3), (5, .int xl5), (6, .int xl6), (8, .int xl8)]) C.1.1 C.1.2.1 dX5_byEnds_155 hl (k := 5) rfl rfl (by decide) rfl (fun ls hl => ?_)
        refine lv_goto (tgt := 16) C.1.1 C.1.2.1 dX5_byEnds_158 (by decide) ?_
        exact hk16 jl1 jl3 xl5 xl6 (xl7 + (-1 : Int32)) _ _ _ _ S (lv_sub hl [1, 2, 3, 4, 5, 0] rfl) w
      · replace w := ql_ifn w c9
        refine lv_iload C.1.1 C.1.2.1 dX5_byEnds_30 (lv_at hl 5 rfl) ?_
        refine lv_iload C.1.1 C.1.2.1 dX5_byEnds_32 (lv_at hl 3 rfl) ?_
        refine lv_icmp_eq (tgt := 44) C.1.1 C.1.2.1 dX5_byEnds_34 (by decide) (fun c9 => ?_) (fun c9 => ?_)
        · replace w := ql_if w c9
          exact hB44 (qw_X5_byEnds_25 a0 Q k16 n) ih jl1 jl3 xl5 xl6 xl7 xl8 _ _ _ _ S (lv_sub hl [0, 1, 2, 3, 4, 5, 6] rfl) w
        · replace w := ql_ifn w c9
          refine lv_iload C.1.1 C.1.2.1 dX5_byEnds_37 (lv_at hl 6 rfl) ?_
          refine lv_iload C.1.1 C.1.2.1 dX5_byEnds_39 (lv_at hl 4 rfl) ?_
          refine lv_icmp_ne (tgt := 68) C.1.1 C.1.2.1 dX5_byEnds_41 (by decide) (fun c9 => ?_) (fun c9 => ?_)
          · replace w := ql_ifn w c9
            refine lv_lload_n C.1.1 C.1.2.1 dX5_byEnds_68 rfl (lv_at hl 1 rfl) ?_
            refine lv_iload C.1.1 C.1.2.1 dX5_byEnds_69 (lv_at hl 5 rfl) ?_
            refine ql_SI (As := [.long jl1, .int xl7]) (rest := []) C S htab hlocks hl qy_X9_noteOf qi_X9_noteOf gw_724 (qm_X9_noteOf l hl9 D _ jl1 xl7 _ _ w) rfl ⟨Nat.le_of_ble_eq_true rfl, Nat.le_of_ble_eq_true rfl⟩ ⟨rfl, rfl⟩ (by exact Nat.le_of_ble_eq_true rfl) rfl dX5_byEnds_71 ⟨Nat.le_of_ble_eq_true rfl, Nat.le_of_ble_eq_true rfl⟩ ⟨Nat.le_of_ble_eq_true rfl, Nat.le_of_ble_eq_true rfl⟩ (fun x3 h H locs S w => ?_)
            refine W.cs (cells' := 0) (slots' := 0) rfl rfl ?_
            refine lv_lload_n C.1.1 C.1.2.1 dX5_byEnds_74 rfl (lv_at hl 2 rfl) ?_
            refine lv_iload C.1.1 C.1.2.1 dX5_byEnds_75 (lv_at hl 6 rfl) ?_
            refine ql_SI (As := [.long jl3, .int xl8]) (rest := [.int x3]) C S htab hlocks hl qy_X9_noteOf qi_X9_noteOf gw_724 (qm_X9_noteOf l hl9 D _ jl3 xl8 _ _ w) rfl ⟨Nat.le_of_ble_eq_true rfl, Nat.le_of_ble_eq_true rfl⟩ ⟨rfl, rfl⟩ (by exact Nat.le_of_ble_eq_true rfl) rfl dX5_byEnds_77 ⟨Nat.le_of_ble_eq_true rfl, Nat.le_of_ble_eq_true rfl⟩ ⟨Nat.le_of_ble_eq_true rfl, Nat.le_of_ble_eq_true rfl⟩ (fun x4 h H locs S w => ?_)
            refine W.cs (cells' := 0) (slots' := 0) rfl rfl ?_
            refine lv_icmp_ne (tgt := 110) C.1.1 C.1.2.1 dX5_byEnds_80 (by decide) (fun c9 => ?_) (fun c9 => ?_)
            · replace w := ql_ifn w c9
              refine ql_aload_n (r := (some a0)) C dX5_byEnds_110 rfl (lv_at hl 0 rfl) ?_
              refine ql_getR C S qf_8_0 gw_315 dX5_byEnds_111 w (fun r5 w => ?_)
              refine lv_iload C.1.1 C.1.2.1 dX5_byEnds_114 (lv_at hl 5 rfl) ?_
              refine ql_aald (kd := 8) C S rfl rfl dX5_byEnds_116 w (fun r6 w => ?_)
              refine lv_iload C.1.1 C.1.2.1 dX5_byEnds_117 (lv_at hl 6 rfl) ?_
              refine lv_iconst (v := (1 : Int32)) C.1.1 C.1.2.1 dX5_byEnds_119 (by decide) ?_
              refine ql_aload_n (r := (some a0)) C dX5_byEnds_120 rfl (lv_at hl 0 rfl) ?_
              refine ql_getR C S qf_8_0 gw_315 dX5_byEnds_121 w (fun r7 w => ?_)
              refine lv_iload C.1.1 C.1.2.1 dX5_byEnds_124 (lv_at hl 5 rfl) ?_
              refine lv_iconst (v := (1 : Int32)) C.1.1 C.1.2.1 dX5_byEnds_126 (by decide) ?_
              refine lv_iadd C.1.1 C.1.2.1 dX5_byEnds_127 ?_
              refine ql_aald (kd := 8) C S rfl rfl dX5_byEnds_128 w (fun r8 w => ?_)
              refine lv_iload C.1.1 C.1.2.1 dX5_byEnds_129 (lv_at hl 6 rfl) ?_
              refine ql_iald C S dX5_byEnds_131 w (fun x9 w => ?_)
              refine ql_aload_n (r := (some a0)) C dX5_byEnds_132 rfl (lv_at hl 0 rfl) ?_
              refine ql_getR C S qf_8_0 gw_315 dX5_byEnds_133 w (fun r10 w => ?_)
              refine lv_iload C.1.1 C.1.2.1 dX5_byEnds_136 (lv_at hl 5 rfl) ?_
              refine ql_aald (kd := 8) C S rfl rfl dX5_byEnds_138 w (fun r11 w => ?_)
              refine lv_iload C.1.1 C.1.2.1 dX5_byEnds_139 (lv_at hl 6 rfl) ?_
              refine lv_iconst (v := (1 : Int32)) C.1.1 C.1.2.1 dX5_byEnds_141 (by decide) ?_
              refine lv_iadd C.1.1 C.1.2.1 dX5_byEnds_142 ?_
              refine ql_iald C S dX5_byEnds_143 w (fun x12 w => ?_)
              refine ql_SI (As := [.int x9, .int x12]) (rest := [.int (1 : Int32), .int xl8, va_rf r6]) C S htab hlocks hl qy_J9_min_7cf53 qi_J9_min_7cf53 gw_727 (qm_J9_min_7cf53 l hl9 D _ x9 x12 _ _ w) rfl ⟨Nat.le_of_ble_eq_true rfl, Nat.le_of_ble_eq_true rfl⟩ ⟨rfl, rfl⟩ (by generalize r6 = z0; cases z0 <;> exact Nat.le_of_ble_eq_true rfl) rfl dX5_byEnds_144 ⟨Nat.le_of_ble_eq_true rfl, Nat.le_of_ble_eq_true rfl⟩ ⟨Nat.le_of_ble_eq_true rfl, Nat.le_of_ble_eq_true rfl⟩ (fun x13 h H locs S w => ?_)
              refine W.cs (cells' := 0) (slots' := 0) rfl rfl ?_
              refine lv_iadd C.1.1 C.1.2.1 dX5_byEnds_147 ?_
              refine ql_iast C S dX5_byEnds_148 w (fun h H locs S w => ?_)
              exact hB149 (qw_X5_byEnds_25 a0 Q k16 n) ih jl1 jl3 xl5 xl6 xl7 xl8 _ _ _ _ S (lv_sub hl [0, 1, 2, 3, 4, 5, 6] rfl) w
            · replace w := ql_if w c9
              refine ql_aload_n (r := (some a0)) C dX5_byEnds_83 rfl (lv_at hl 0 rfl) ?_
              refine ql_getR C S qf_8_0 gw_315 dX5_byEnds_84 w (fun r14 w => ?_)
              refine lv_iload C.1.1 C.1.2.1 dX5_byEnds_87 (lv_at hl 5 rfl) ?_
              refine ql_aald (kd := 8) C S rfl rfl dX5_byEnds_89 w (fun r15 w => ?_)
              refine lv_iload C.1.1 C.1.2.1 dX5_byEnds_90 (lv_at hl 6 rfl) ?_
              refine ql_aload_n (r := (some a0)) C dX5_byEnds_92 rfl (lv_at hl 0 rfl) ?_
              refine ql_getR C S qf_8_0 gw_315 dX5_byEnds_93 w (fun r16 w => ?_)
              refine lv_iload C.1.1 C.1.2.1 dX5_byEnds_96 (lv_at hl 5 rfl) ?_
              refine lv_iconst (v := (1 : Int32)) C.1.1 C.1.2.1 dX5_byEnds_98 (by decide) ?_
              refine lv_iadd C.1.1 C.1.2.1 dX5_byEnds_99 ?_
              refine ql_aald (kd := 8) C S rfl rfl dX5_byEnds_100 w (fun r17 w => ?_)
              refine lv_iload C.1.1 C.1.2.1 dX5_byEnds_101 (lv_at hl 6 rfl) ?_
              refine lv_iconst (v := (1 : Int32)) C.1.1 C.1.2.1 dX5_byEnds_103 (by decide) ?_
              refine lv_iadd C.1.1 C.1.2.1 dX5_byEnds_104 ?_
              refine ql_iald C S dX5_byEnds_105 w (fun x18 w => ?_)
              refine ql_iast C S dX5_byEnds_106 w (fun h H locs S w => ?_)
              refine lv_goto (tgt := 149) C.1.1 C.1.2.1 dX5_byEnds_107 (by decide) ?_
              exact hB149 (qw_X5_byEnds_25 a0 Q k16 n) ih jl1 jl3 xl5 xl6 xl7 xl8 _ _ _ _ S (lv_sub hl [0, 1, 2, 3, 4, 5, 6] rfl) w
          · replace w := ql_if w c9
            exact hB44 (qw_X5_byEnds_25 a0 Q k16 n) ih jl1 jl3 xl5 xl6 xl7 xl8 _ _ _ _ S (lv_sub hl [0, 1, 2, 3, 4, 5, 6] rfl) w
  have hB16 : ∀ n : Nat, ∀ (jl1 : Int64) (jl3 : Int64) (xl5 : Int32) (xl6 : Int32) (xl7 : Int32) (h : ql_H) (H : Heap) (locs : List Loc) (ls : Array Slot), ql_S D h0 s H locs h → lv_has ls 9 [(0, .ref a0), (1, .long jl1), (3, .long jl3), (5, .int xl5), (6, .int xl6), (7, .int xl7)] → qw_X5_byEnds_16 a0 Q n jl1 jl3 xl5 xl6 xl7 h → W p l e ({ frames := 6, cells := 0, slots := 0, locals := 108 } : Room) s m ([.ref a0, .long jp1, .long jp3] : List Value).toArray below meth c H locs 0 0 (vx_MQ below (ql_Q D h0 (ql_rI Q)) (ql_X D h0 X) ([.ref a0, .long jp1, .long jp3] : List Value).toArray s 0 0 (ql_A h0)) (F0 m 16 ls []) := by
    intro n
    induction n with
    | zero => intro jl1 jl3 xl5 xl6 xl7 h H locs ls S hl w; rw [qw_X5_byEnds_16] at w; exact w.elim
    | succ n ih =>
      intro jl1 jl3 xl5 xl6 xl7 h H locs ls S hl w
      rw [qw_X5_byEnds_16] at w
      refine lv_iload C.1.1 C.1.2.1 dX5_byEnds_16 (lv_at hl 5 rfl) ?_
      refine lv_if_lt (tgt := 161) C.1.1 C.1.2.1 dX5_byEnds_18 (by decide) (fun c9 => ?_) (fun c9 => ?_)
      · replace w := ql_if w c9
        refine ql_aload_n (r := (some a0)) C dX5_byEnds_161 rfl (lv_at hl 0 rfl) ?_
        refine ql_getR C S qf_8_0 gw_315 dX5_byEnds_162 w (fun r19 w => ?_)
        refine lv_iconst (v := (0 : Int32)) C.1.1 C.1.2.1 dX5_byEnds_165 (by decide) ?_
        refine ql_aald (kd := 8) C S rfl rfl dX5_byEnds_166 w (fun r20 w => ?_)
        refine lv_iconst (v := (0 : Int32)) C.1.1 C.1.2.1 dX5_byEnds_167 (by decide) ?_
        refine ql_iald C S dX5_byEnds_168 w (fun x21 w => ?_)
        exact ql_iret C S hr hlocks dX5_byEnds_169 ⟨Nat.le_of_ble_eq_true rfl, Nat.le_of_ble_eq_true rfl⟩ w
      · replace w := ql_ifn w c9
        refine lv_iload C.1.1 C.1.2.1 dX5_byEnds_21 (lv_at hl 4 rfl) ?_
        refine lv_istore (lv' := [(8, .int xl6), (0, .ref a0), (1, .long jl1), (3, .long jl3), (5, .int xl5), (6, .int xl6), (7, .int xl7)]) C.1.1 C.1.2.1 dX5_byEnds_23 hl (by decide) rfl (fun ls hl => ?_)
        exact hB25 (qw_X5_byEnds_16 a0 Q n) ih ql_FU jl1 jl3 xl5 xl6 xl7 xl6 _ _ _ _ S (lv_sub hl [1, 2, 3, 4, 5, 6, 0] rfl) w
  unfold qw_X5_byEnds at w
  refine lv_lload_n C.1.1 C.1.2.1 dX5_byEnds_0 rfl (lv_at hl 1 rfl) ?_
  refine ql_SI (As := [.long jp1]) (rest := []) C S htab hlocks hl qy_X9_lengthOf qi_X9_lengthOf gw_718 (qm_X9_lengthOf l hl9 D _ jp1 _ _ w) rfl ⟨Nat.le_of_ble_eq_true rfl, Nat.le_of_ble_eq_true rfl⟩ ⟨rfl, rfl⟩ (by exact Nat.le_of_ble_eq_true rfl) rfl dX5_byEnds_1 ⟨Nat.le_of_ble_eq_true rfl, Nat.le_of_ble_eq_true rfl⟩ ⟨Nat.le_of_ble_eq_true rfl, Nat.le_of_ble_eq_true rfl⟩ (fun x22 h H locs S w => ?_)
  refine W.cs (cells' := 0) (slots' := 0) rfl rfl ?_
  refine lv_istore (lv' := [(5, .int x22), (0, .ref a0), (1, .long jp1), (3, .long jp3)]) C.1.1 C.1.2.1 dX5_byEnds_4 hl (by decide) rfl (fun ls hl => ?_)
  refine lv_lload_n C.1.1 C.1.2.1 dX5_byEnds_6 rfl (lv_at hl 3 rfl) ?_
  refine ql_SI (As := [.long jp3]) (rest := []) C S htab hlocks hl qy_X9_lengthOf qi_X9_lengthOf gw_718 (qm_X9_lengthOf l hl9 D _ jp3 _ _ w) rfl ⟨Nat.le_of_ble_eq_true rfl, Nat.le_of_ble_eq_true rfl⟩ ⟨rfl, rfl⟩ (by exact Nat.le_of_ble_eq_true rfl) rfl dX5_byEnds_7 ⟨Nat.le_of_ble_eq_true rfl, Nat.le_of_ble_eq_true rfl⟩ ⟨Nat.le_of_ble_eq_true rfl, Nat.le_of_ble_eq_true rfl⟩ (fun x23 h H locs S w => ?_)
  refine W.cs (cells' := 0) (slots' := 0) rfl rfl ?_
  refine lv_istore (lv' := [(6, .int x23), (5, .int x22), (0, .ref a0), (1, .long jp1), (3, .long jp3)]) C.1.1 C.1.2.1 dX5_byEnds_10 hl (by decide) rfl (fun ls hl => ?_)
  refine lv_iload C.1.1 C.1.2.1 dX5_byEnds_12 (lv_at hl 1 rfl) ?_
  refine lv_istore (lv' := [(7, .int x22), (6, .int x23), (5, .int x22), (0, .ref a0), (1, .long jp1), (3, .long jp3)]) C.1.1 C.1.2.1 dX5_byEnds_14 hl (by decide) rfl (fun ls hl => ?_)
  exact hB16 ql_FU jp1 jp3 x22 x23 x22 _ _ _ _ S (lv_sub hl [3, 4, 5, 2, 1, 0] rfl) w
def qw_X6_open (a0 : Nat) (rp1 : Option Nat) (h : ql_H) (Q : ql_H → Prop) : Prop :=
ql_gR h (some a0) 9 1 fun r1 =>
ql_rv h r1 4 fun b1 => qw_X1_copyFrom b1 rp1 h (fun h =>
Q h)
set_option maxHeartbeats 4000000 in
set_option maxRecDepth 100000 in
theorem qm_X6_open (l : Launch) (hl9 : l.stackTraces = false) (D : ql_D) (h0 : ql_H) (a0 : Nat) (rp1 : Option Nat) (Q : ql_H → Prop) (X : String → ql_H → Prop) (w : qw_X6_open a0 rp1 h0 Q) : ql_M D l yX6_open cX6_open 2 none ({ frames := 7, cells := 0, slots := 0, locals := 127 } : Room) h0 [.ref a0, va_rf rp1] (ql_rV Q) X 0 0 := by
  refine ql_ofW (by decide) (by cases rp1 <;> exact Nat.le_of_ble_eq_true rfl) ?_
  intro p e s m below meth c ls C hr hlocks hnm htab S hl
  rw [show lv_args 0 [.ref a0, va_rf rp1] = [(0, .ref a0), (1, va_rf rp1)] from by cases rp1 <;> rfl] at hl
  unfold qw_X6_open at w
  refine ql_aload_n (r := (some a0)) C dX6_open_0 rfl (lv_at hl 0 rfl) ?_
  refine ql_getR C S qf_9_1 gw_212 dX6_open_1 w (fun r1 w => ?_)
  refine ql_aload_n (r := rp1) C dX6_open_4 rfl (lv_at hl 1 rfl) ?_
  refine ql_VV (As := [va_rf rp1]) (rest := []) C S htab hlocks hl qy_X1_copyFrom qi_X1_copyFrom qs_X1_copyFrom gw_390 (ci := 4) rfl w (fun b w => qm_X1_copyFrom l hl9 D _ b rp1 _ _ w) rfl ⟨Nat.le_of_ble_eq_true rfl, Nat.le_of_ble_eq_true rfl⟩ ⟨rfl, rfl⟩ (by exact Nat.le_of_ble_eq_true rfl) (fun b e9 => by cases e9; rfl) dX6_open_5 ⟨Nat.le_of_ble_eq_true rfl, Nat.le_of_ble_eq_true rfl⟩ ⟨Nat.le_of_ble_eq_true rfl, Nat.le_of_ble_eq_true rfl⟩ (fun h H locs S w => ?_)
  refine W.cs (cells' := 0) (slots' := 0) rfl rfl ?_
  exact ql_vret C S hr hlocks dX6_open_8 ⟨Nat.le_of_ble_eq_true rfl, Nat.le_of_ble_eq_true rfl⟩ w
def qw_X6_keep (a0 : Nat) (h : ql_H) (Q : ql_H → Prop) : Prop :=
ql_gI h (some a0) 9 2 fun x1 =>
qw_J9_floorMod_7cf53 (x1 + (1 : Int32)) (8 : Int32) h (fun x2 h =>
ql_pV h (some a0) 9 2 (.int x2) fun h =>
ql_gR h (some a0) 9 0 fun r3 =>
ql_gI h (some a0) 9 2 fun x4 =>
ql_lR h r3 6 x4 fun r5 =>
ql_gR h (some a0) 9 0 fun r6 =>
ql_gI h (some a0) 9 2 fun x7 =>
ql_gR h (some a0) 9 1 fun r8 =>
ql_sR h r6 6 4 x7 r8 fun h =>
ql_pV h (some a0) 9 1 (va_rf r5) fun h =>
ql_gI h (some a0) 9 3 fun x9 =>
qw_J9_min_7cf53 (x9 + (1 : Int32)) (8 : Int32) h (fun x10 h =>
ql_pV h (some a0) 9 3 (.int x10) fun h =>
Q h))
set_option maxHeartbeats 4000000 in
set_option maxRecDepth 100000 in
theorem qm_X6_keep (l : Launch) (hl9 : l.stackTraces = false) (D : ql_D) (h0 : ql_H) (a0 : Nat) (Q : ql_H → Prop) (X : String → ql_H → Prop) (w : qw_X6_keep a0 h0 Q) : ql_M D l yX6_keep cX6_keep 2 none ({ frames := 4, cells := 0, slots := 0, locals := 78 } : Room) h0 [.ref a0] (ql_rV Q) X 0 0 := by
  refine ql_ofW (by decide) (Nat.le_of_ble_eq_true rfl) ?_
  intro p e s m below meth c ls C hr hlocks hnm htab S hl
  have hl : lv_has ls 2 [(0, .ref a0)] := hl
  unfold qw_X6_keep at w
  refine ql_aload_n (r := (some a0)) C dX6_keep_0 rfl (lv_at hl 0 rfl) ?_
  refine ql_aload_n (r := (some a0)) C dX6_keep_1 rfl (lv_at hl 0 rfl) ?_
  refine ql_getI C S qf_9_2 gw_213 dX6_keep_2 w (fun x1 w => ?_)
  refine lv_iconst (v := (1 : Int32)) C.1.1 C.1.2.1 dX6_keep_5 (by decide) ?_
  refine lv_iadd C.1.1 C.1.2.1 dX6_keep_6 ?_
  refine lv_bipush (v := (8 : Int32)) C.1.1 C.1.2.1 dX6_keep_7 (by decide) ?_
  refine ql_SI (As := [.int (x1 + (1 : Int32)), .int (8 : Int32)]) (rest := [.ref a0]) C S htab hlocks hl qy_J9_floorMod_7cf53 qi_J9_floorMod_7cf53 gw_621 (qm_J9_floorMod_7cf53 l hl9 D _ (x1 + (1 : Int32)) (8 : Int32) _ _ w) rfl ⟨Nat.le_of_ble_eq_true rfl, Nat.le_of_ble_eq_true rfl⟩ ⟨rfl, rfl⟩ (by exact Nat.le_of_ble_eq_true rfl) rfl dX6_keep_9 ⟨Nat.le_of_ble_eq_true rfl, Nat.le_of_ble_eq_true rfl⟩ ⟨Nat.le_of_ble_eq_true rfl, Nat.le_of_ble_eq_true rfl⟩ (fun x2 h H locs S w => ?_)
  refine W.cs (cells' := 0) (slots' := 0) rfl rfl ?_
  refine ql_putV C S qf_9_2 gw_213 (tyX6) tyX6_ok nmX6 rfl dX6_keep_12 (v := .int x2) rfl rfl w (fun h H locs S w => ?_)
  refine ql_aload_n (r := (some a0)) C dX6_keep_15 rfl (lv_at hl 0 rfl) ?_
  refine ql_getR C S qf_9_0 gw_211 dX6_keep_16 w (fun r3 w => ?_)
  refine ql_aload_n (r := (some a0)) C dX6_keep_19 rfl (lv_at hl 0 rfl) ?_
  refine ql_getI C S qf_9_2 gw_213 dX6_keep_20 w (fun x4 w => ?_)
  refine ql_aald (kd := 6) C S rfl rfl dX6_keep_23 w (fun r5 w => ?_)
  refine ql_astore_n (lv' := [(1, va_rf r5), (0, .ref a0)]) C dX6_keep_24 rfl hl (by decide) rfl (fun ls hl => ?_)
  refine ql_aload_n (r := (some a0)) C dX6_keep_25 rfl (lv_at hl 1 rfl) ?_
  refine ql_getR C S qf_9_0 gw_211 dX6_keep_26 w (fun r6 w => ?_)
  refine ql_aload_n (r := (some a0)) C dX6_keep_29 rfl (lv_at hl 1 rfl) ?_
  refine ql_getI C S qf_9_2 gw_213 dX6_keep_30 w (fun x7 w => ?_)
  refine ql_aload_n (r := (some a0)) C dX6_keep_33 rfl (lv_at hl 1 rfl) ?_
  refine ql_getR C S qf_9_1 gw_212 dX6_keep_34 w (fun r8 w => ?_)
  refine ql_aast (kd := 6) (ci := 4) C S rfl rfl dX6_keep_37 w (fun h H locs S w => ?_)
  refine ql_aload_n (r := (some a0)) C dX6_keep_38 rfl (lv_at hl 1 rfl) ?_
  refine ql_aload_n (r := r5) C dX6_keep_39 rfl (lv_at hl 0 rfl) ?_
  refine ql_putV C S qf_9_1 gw_212 (tyX6) tyX6_ok nmX6 rfl dX6_keep_40 (v := va_rf r5) (by cases r5 <;> rfl) (by cases r5 <;> rfl) w (fun h H locs S w => ?_)
  refine ql_aload_n (r := (some a0)) C dX6_keep_43 rfl (lv_at hl 1 rfl) ?_
  refine ql_aload_n (r := (some a0)) C dX6_keep_44 rfl (lv_at hl 1 rfl) ?_
  refine ql_getI C S qf_9_3 gw_214 dX6_keep_45 w (fun x9 w => ?_)
  refine lv_iconst (v := (1 : Int32)) C.1.1 C.1.2.1 dX6_keep_48 (by decide) ?_
  refine lv_iadd C.1.1 C.1.2.1 dX6_keep_49 ?_
  refine lv_bipush (v := (8 : Int32)) C.1.1 C.1.2.1 dX6_keep_50 (by decide) ?_
  refine ql_SI (As := [.int (x9 + (1 : Int32)), .int (8 : Int32)]) (rest := [.ref a0]) C S htab hlocks hl qy_J9_min_7cf53 qi_J9_min_7cf53 gw_622 (qm_J9_min_7cf53 l hl9 D _ (x9 + (1 : Int32)) (8 : Int32) _ _ w) rfl ⟨Nat.le_of_ble_eq_true rfl, Nat.le_of_ble_eq_true rfl⟩ ⟨rfl, rfl⟩ (by exact Nat.le_of_ble_eq_true rfl) rfl dX6_keep_52 ⟨Nat.le_of_ble_eq_true rfl, Nat.le_of_ble_eq_true rfl⟩ ⟨Nat.le_of_ble_eq_true rfl, Nat.le_of_ble_eq_true rfl⟩ (fun x10 h H locs S w => ?_)
  refine W.cs (cells' := 0) (slots' := 0) rfl rfl ?_
  refine ql_putV C S qf_9_3 gw_214 (tyX6) tyX6_ok nmX6 rfl dX6_keep_55 (v := .int x10) rfl rfl w (fun h H locs S w => ?_)
  exact ql_vret C S hr hlocks dX6_keep_58 ⟨Nat.le_of_ble_eq_true rfl, Nat.le_of_ble_eq_true rfl⟩ w
def qw_X6_abandon (a0 : Nat) (rp1 : Option Nat) (h : ql_H) (Q : ql_H → Prop) : Prop :=
ql_gR h (some a0) 9 1 fun r1 =>
ql_rv h rp1 4 fun b1 => qw_X1_copyFrom b1 r1 h (fun h =>
Q h)
set_option maxHeartbeats 4000000 in
set_option maxRecDepth 100000 in
theorem qm_X6_abandon (l : Launch) (hl9 : l.stackTraces = false) (D : ql_D) (h0 : ql_H) (a0 : Nat) (rp1 : Option Nat) (Q : ql_H → Prop) (X : String → ql_H → Prop) (w : qw_X6_abandon a0 rp1 h0 Q) : ql_M D l yX6_abandon cX6_abandon 2 none ({ frames := 7, cells := 0, slots := 0, locals := 127 } : Room) h0 [.ref a0, va_rf rp1] (ql_rV Q) X 0 0 := by
  refine ql_ofW (by decide) (by cases rp1 <;> exact Nat.le_of_ble_eq_true rfl) ?_
  intro p e s m below meth c ls C hr hlocks hnm htab S hl
  rw [show lv_args 0 [.ref a0, va_rf rp1] = [(0, .ref a0), (1, va_rf rp1)] from by cases rp1 <;> rfl] at hl
  unfold qw_X6_abandon at w
  refine ql_aload_n (r := rp1) C dX6_abandon_0 rfl (lv_at hl 1 rfl) ?_
  refine ql_aload_n (r := (some a0)) C dX6_abandon_1 rfl (lv_at hl 0 rfl) ?_
  refine ql_getR C S qf_9_1 gw_212 dX6_abandon_2 w (fun r1 w => ?_)
  refine ql_VV (As := [va_rf r1]) (rest := []) C S htab hlocks hl qy_X1_copyFrom qi_X1_copyFrom qs_X1_copyFrom gw_390 (ci := 4) rfl w (fun b w => qm_X1_copyFrom l hl9 D _ b r1 _ _ w) rfl ⟨Nat.le_of_ble_eq_true rfl, Nat.le_of_ble_eq_true rfl⟩ ⟨rfl, rfl⟩ (by exact Nat.le_of_ble_eq_true rfl) (fun b e9 => by cases e9; rfl) dX6_abandon_5 ⟨Nat.le_of_ble_eq_true rfl, Nat.le_of_ble_eq_true rfl⟩ ⟨Nat.le_of_ble_eq_true rfl, Nat.le_of_ble_eq_true rfl⟩ (fun h H locs S w => ?_)
  refine W.cs (cells' := 0) (slots' := 0) rfl rfl ?_
  exact ql_vret C S hr hlocks dX6_abandon_8 ⟨Nat.le_of_ble_eq_true rfl, Nat.le_of_ble_eq_true rfl⟩ w
def qw_X6_stepBack (a0 : Nat) (rp1 : Option Nat) (h : ql_H) (Q : ql_H → Prop) : Prop :=
ql_gR h (some a0) 9 0 fun r1 =>
ql_gI h (some a0) 9 2 fun x2 =>
ql_lR h r1 6 x2 fun r3 =>
ql_rv h rp1 4 fun b3 => qw_X1_copyFrom b3 r3 h (fun h =>
ql_gI h (some a0) 9 2 fun x5 =>
qw_J9_floorMod_7cf53 (x5 - (1 : Int32)) (8 : Int32) h (fun x6 h =>
ql_pV h (some a0) 9 2 (.int x6) fun h =>
ql_gI h (some a0) 9 3 fun x7 =>
ql_pV h (some a0) 9 3 (.int (x7 - (1 : Int32))) fun h =>
Q h))
set_option maxHeartbeats 4000000 in
set_option maxRecDepth 100000 in
theorem qm_X6_stepBack (l : Launch) (hl9 : l.stackTraces = false) (D : ql_D) (h0 : ql_H) (a0 : Nat) (rp1 : Option Nat) (Q : ql_H → Prop) (X : String → ql_H → Prop) (w : qw_X6_stepBack a0 rp1 h0 Q) : ql_M D l yX6_stepBack cX6_stepBack 2 none ({ frames := 7, cells := 0, slots := 0, locals := 127 } : Room) h0 [.ref a0, va_rf rp1] (ql_rV Q) X 0 0 := by
  refine ql_ofW (by decide) (by cases rp1 <;> exact Nat.le_of_ble_eq_true rfl) ?_
  intro p e s m below meth c ls C hr hlocks hnm htab S hl
  rw [show lv_args 0 [.ref a0, va_rf rp1] = [(0, .ref a0), (1, va_rf rp1)] from by cases rp1 <;> rfl] at hl
  unfold qw_X6_stepBack at w
  refine ql_aload_n (r := rp1) C dX6_stepBack_0 rfl (lv_at hl 1 rfl) ?_
  refine ql_aload_n (r := (some a0)) C dX6_stepBack_1 rfl (lv_at hl 0 rfl) ?_
  refine ql_getR C S qf_9_0 gw_211 dX6_stepBack_2 w (fun r1 w => ?_)
  refine ql_aload_n (r := (some a0)) C dX6_stepBack_5 rfl (lv_at hl 0 rfl) ?_
  refine ql_getI C S qf_9_2 gw_213 dX6_stepBack_6 w (fun x2 w => ?_)
  refine ql_aald (kd := 6) C S rfl rfl dX6_stepBack_9 w (fun r3 w => ?_)
  refine ql_VV (As := [va_rf r3]) (rest := []) C S htab hlocks hl qy_X1_copyFrom qi_X1_copyFrom qs_X1_copyFrom gw_390 (ci := 4) rfl w (fun b w => qm_X1_copyFrom l hl9 D _ b r3 _ _ w) rfl ⟨Nat.le_of_ble_eq_true rfl, Nat.le_of_ble_eq_true rfl⟩ ⟨rfl, rfl⟩ (by exact Nat.le_of_ble_eq_true rfl) (fun b e9 => by cases e9; rfl) dX6_stepBack_10 ⟨Nat.le_of_ble_eq_true rfl, Nat.le_of_ble_eq_true rfl⟩ ⟨Nat.le_of_ble_eq_true rfl, Nat.le_of_ble_eq_true rfl⟩ (fun h H locs S w => ?_)
  refine W.cs (cells' := 0) (slots' := 0) rfl rfl ?_
  refine ql_aload_n (r := (some a0)) C dX6_stepBack_13 rfl (lv_at hl 0 rfl) ?_
  refine ql_aload_n (r := (some a0)) C dX6_stepBack_14 rfl (lv_at hl 0 rfl) ?_
  refine ql_getI C S qf_9_2 gw_213 dX6_stepBack_15 w (fun x5 w => ?_)
  refine lv_iconst (v := (1 : Int32)) C.1.1 C.1.2.1 dX6_stepBack_18 (by decide) ?_
  refine lv_isub C.1.1 C.1.2.1 dX6_stepBack_19 ?_
  refine lv_bipush (v := (8 : Int32)) C.1.1 C.1.2.1 dX6_stepBack_20 (by decide) ?_
  refine ql_SI (As := [.int (x5 - (1 : Int32)), .int (8 : Int32)]) (rest := [.ref a0]) C S htab hlocks hl qy_J9_floorMod_7cf53 qi_J9_floorMod_7cf53 gw_621 (qm_J9_floorMod_7cf53 l hl9 D _ (x5 - (1 : Int32)) (8 : Int32) _ _ w) rfl ⟨Nat.le_of_ble_eq_true rfl, Nat.le_of_ble_eq_true rfl⟩ ⟨rfl, rfl⟩ (by exact Nat.le_of_ble_eq_true rfl) rfl dX6_stepBack_22 ⟨Nat.le_of_ble_eq_true rfl, Nat.le_of_ble_eq_true rfl⟩ ⟨Nat.le_of_ble_eq_true rfl, Nat.le_of_ble_eq_true rfl⟩ (fun x6 h H locs S w => ?_)
  refine W.cs (cells' := 0) (slots' := 0) rfl rfl ?_
  refine ql_putV C S qf_9_2 gw_213 (tyX6) tyX6_ok nmX6 rfl dX6_stepBack_25 (v := .int x6) rfl rfl w (fun h H locs S w => ?_)
  refine ql_aload_n (r := (some a0)) C dX6_stepBack_28 rfl (lv_at hl 0 rfl) ?_
  refine lv_dup C.1.1 C.1.2.1 dX6_stepBack_29 (ql_catR _) ?_
  refine ql_getI C S qf_9_3 gw_214 dX6_stepBack_30 w (fun x7 w => ?_)
  refine lv_iconst (v := (1 : Int32)) C.1.1 C.1.2.1 dX6_stepBack_33 (by decide) ?_
  refine lv_isub C.1.1 C.1.2.1 dX6_stepBack_34 ?_
  refine ql_putV C S qf_9_3 gw_214 (tyX6) tyX6_ok nmX6 rfl dX6_stepBack_35 (v := .int (x7 - (1 : Int32))) rfl rfl w (fun h H locs S w => ?_)
  exact ql_vret C S hr hlocks dX6_stepBack_38 ⟨Nat.le_of_ble_eq_true rfl, Nat.le_of_ble_eq_true rfl⟩ w
def qw_X6_clear (a0 : Nat) (h : ql_H) (Q : ql_H → Prop) : Prop :=
ql_pV h (some a0) 9 3 (.int (0 : Int32)) fun h =>
Q h
set_option maxHeartbeats 4000000 in
set_option maxRecDepth 100000 in
theorem qm_X6_clear (l : Launch) (hl9 : l.stackTraces = false) (D : ql_D) (h0 : ql_H) (a0 : Nat) (Q : ql_H → Prop) (X : String → ql_H → Prop) (w : qw_X6_clear a0 h0 Q) : ql_M D l yX6_clear cX6_clear 1 none ({ frames := 2, cells := 0, slots := 0, locals := 48 } : Room) h0 [.ref a0] (ql_rV Q) X 0 0 := by
  refine ql_ofW (by decide) (Nat.le_of_ble_eq_true rfl) ?_
  intro p e s m below meth c ls C hr hlocks hnm htab S hl
  have hl : lv_has ls 1 [(0, .ref a0)] := hl
  unfold qw_X6_clear at w
  refine ql_aload_n (r := (some a0)) C dX6_clear_0 rfl (lv_at hl 0 rfl) ?_
  refine lv_iconst (v := (0 : Int32)) C.1.1 C.1.2.1 dX6_clear_1 (by decide) ?_
  refine ql_putV C S qf_9_3 gw_214 (tyX6) tyX6_ok nmX6 rfl dX6_clear_2 (v := .int (0 : Int32)) rfl rfl w (fun h H locs S w => ?_)
  exact ql_vret C S hr hlocks dX6_clear_5 ⟨Nat.le_of_ble_eq_true rfl, Nat.le_of_ble_eq_true rfl⟩ w
def qw_J9_max_7cf53 (xp0 : Int32) (xp1 : Int32) (h : ql_H) (Q : Int32 → ql_H → Prop) : Prop :=
if xp0 < xp1 then (Q xp1 h) else (Q xp0 h)
set_option maxHeartbeats 4000000 in
set_option maxRecDepth 100000 in
theorem qm_J9_max_7cf53 (l : Launch) (hl9 : l.stackTraces = false) (D : ql_D) (h0 : ql_H) (xp0 : Int32) (xp1 : Int32) (Q : Int32 → ql_H → Prop) (X : String → ql_H → Prop) (w : qw_J9_max_7cf53 xp0 xp1 h0 Q) : ql_M D l yJ9_max_7cf53 cJ9_max_7cf53 2 (some .int) ({ frames := 2, cells := 0, slots := 0, locals := 48 } : Room) h0 [.int xp0, .int xp1] (ql_rI Q) X 0 0 := by
  refine ql_ofW (by decide +kernel) (Nat.le_of_ble_eq_true rfl) ?_
  intro p e s m below meth c ls C hr hlocks hnm htab S hl
  have hl : lv_has ls 2 [(0, .int xp0), (1, .int xp1)] := hl
  unfold qw_J9_max_7cf53 at w
  refine lv_iload_n C.1.1 C.1.2.1 dJ9_max_7cf53_0 rfl (lv_at hl 0 rfl) ?_
  refine lv_iload_n C.1.1 C.1.2.1 dJ9_max_7cf53_1 rfl (lv_at hl 1 rfl) ?_
  refine lv_icmp_lt (tgt := 9) C.1.1 C.1.2.1 dJ9_max_7cf53_2 (by decide) (fun c9 => ?_) (fun c9 => ?_)
  · replace w := ql_if w c9
    refine lv_iload_n C.1.1 C.1.2.1 dJ9_max_7cf53_9 rfl (lv_at hl 1 rfl) ?_
    exact ql_iret C S hr hlocks dJ9_max_7cf53_10 ⟨Nat.le_of_ble_eq_true rfl, Nat.le_of_ble_eq_true rfl⟩ w
  · replace w := ql_ifn w c9
    refine lv_iload_n C.1.1 C.1.2.1 dJ9_max_7cf53_5 rfl (lv_at hl 0 rfl) ?_
    refine lv_goto (tgt := 10) C.1.1 C.1.2.1 dJ9_max_7cf53_6 (by decide) ?_
    exact ql_iret C S hr hlocks dJ9_max_7cf53_10 ⟨Nat.le_of_ble_eq_true rfl, Nat.le_of_ble_eq_true rfl⟩ w
def qw_X10_init (a0 : Nat) (h : ql_H) (Q : ql_H → Prop) : Prop :=
ql_nw h (.inl (1, 32, .inr (.inl (fun _ => 0)))) fun r1 h =>
ql_pV h (some a0) 11 0 (va_rf r1) fun h =>
ql_nw h (.inl (0, 32, .inl (fun _ => 0))) fun r2 h =>
ql_pV h (some a0) 11 1 (va_rf r2) fun h =>
Q h
set_option maxHeartbeats 4000000 in
set_option maxRecDepth 100000 in
theorem qm_X10_init (l : Launch) (hl9 : l.stackTraces = false) (D : ql_D) (h0 : ql_H) (a0 : Nat) (Q : ql_H → Prop) (X : String → ql_H → Prop) (w : qw_X10_init a0 h0 Q) : ql_M D l yX10_init cX10_init 1 none ({ frames := 3, cells := 2, slots := 64, locals := 48 } : Room) h0 [.ref a0] (ql_rV Q) X 2 64 := by
  refine ql_ofW (by decide) (Nat.le_of_ble_eq_true rfl) ?_
  intro p e s m below meth c ls C hr hlocks hnm htab S hl
  have hl : lv_has ls 1 [(0, .ref a0)] := hl
  unfold qw_X10_init at w
  refine ql_aload_n (r := (some a0)) C dX10_init_0 rfl (lv_at hl 0 rfl) ?_
  refine ql_objInit C hl gw_324 gw_114 gw_115 dX10_init_1 (Nat.le_of_ble_eq_true rfl) (by exact Nat.le_of_ble_eq_true rfl) ?_
  refine ql_aload_n (r := (some a0)) C dX10_init_4 rfl (lv_at hl 0 rfl) ?_
  refine lv_bipush (v := (32 : Int32)) C.1.1 C.1.2.1 dX10_init_5 (by decide) ?_
  refine ql_newa (kd := 1) (a0 := (32, .inr (.inl (fun _ => 0)))) (atype := .long) C S gw_165 rfl (fun z => z) (fun cA => rfl) (by decide) (by decide) (by decide) ⟨Nat.le_of_ble_eq_true rfl, Nat.le_of_ble_eq_true rfl⟩ dX10_init_7 w (fun r1 h H S w => ?_)
  refine W.cs (cells' := 1) (slots' := 32) rfl rfl ?_
  refine ql_putVF C S qf_11_0 gw_325 (tyX10) tyX10_ok nmX10 rfl hnm rfl dX10_init_9 (v := va_rf r1) (by cases r1 <;> rfl) (by cases r1 <;> rfl) w (fun h H locs S w => ?_)
  refine ql_aload_n (r := (some a0)) C dX10_init_12 rfl (lv_at hl 0 rfl) ?_
  refine lv_bipush (v := (32 : Int32)) C.1.1 C.1.2.1 dX10_init_13 (by decide) ?_
  refine ql_newa (kd := 0) (a0 := (32, .inl (fun _ => 0))) (atype := .int) C S gw_164 rfl (fun z => z) (fun cA => rfl) (by decide) (by decide) (by decide) ⟨Nat.le_of_ble_eq_true rfl, Nat.le_of_ble_eq_true rfl⟩ dX10_init_15 w (fun r2 h H S w => ?_)
  refine W.cs (cells' := 2) (slots' := 64) rfl rfl ?_
  refine ql_putVF C S qf_11_1 gw_326 (tyX10) tyX10_ok nmX10 rfl hnm rfl dX10_init_17 (v := va_rf r2) (by cases r2 <;> rfl) (by cases r2 <;> rfl) w (fun h H locs S w => ?_)
  exact ql_vret C S hr hlocks dX10_init_20 ⟨Nat.le_of_ble_eq_true rfl, Nat.le_of_ble_eq_true rfl⟩ w
def qw_X10_clear_2 (a0 : Nat) (Q : ql_H → Prop) : Nat → Int32 → ql_H → Prop
  | 0, _, _ => False
  | n + 1, xl1, h =>
    if (32 : Int32) ≤ xl1 then (Q h) else (ql_gR h (some a0) 11 1 fun r1 =>
    ql_sI h r1 0 xl1 (0 : Int32) fun h =>
    qw_X10_clear_2 a0 Q n (xl1 + (1 : Int32)) h)
def qw_X10_clear (a0 : Nat) (h : ql_H) (Q : ql_H → Prop) : Prop :=
qw_X10_clear_2 a0 Q ql_FU (0 : Int32) h
set_option maxHeartbeats 4000000 in
set_option maxRecDepth 100000 in
theorem qm_X10_clear (l : Launch) (hl9 : l.stackTraces = false) (D : ql_D) (h0 : ql_H) (a0 : Nat) (Q : ql_H → Prop) (X : String → ql_H → Prop) (w : qw_X10_clear a0 h0 Q) : ql_M D l yX10_clear cX10_clear 2 none ({ frames := 2, cells := 0, slots := 0, locals := 48 } : Room) h0 [.ref a0] (ql_rV Q) X 0 0 := by
  refine ql_ofW (by decide) (Nat.le_of_ble_eq_true rfl) ?_
  intro p e s m below meth c ls C hr hlocks hnm htab S hl
  have hl : lv_has ls 2 [(0, .ref a0)] := hl
  have hB2 : ∀ n : Nat, ∀ (xl1 : Int32) (h : ql_H) (H : Heap) (locs : List Loc) (ls : Array Slot), ql_S D h0 s H locs h → lv_has ls 2 [(0, .ref a0), (1, .int xl1)] → qw_X10_clear_2 a0 Q n xl1 h → W p l e ({ frames := 2, cells := 0, slots := 0, locals := 48 } : Room) s m ([.ref a0] : List Value).toArray below meth c H locs 0 0 (vx_MQ below (ql_Q D h0 (ql_rV Q)) (ql_X D h0 X) ([.ref a0] : List Value).toArray s 0 0 (ql_A h0)) (F0 m 2 ls []) := by
    intro n
    induction n with
    | zero => intro xl1 h H locs ls S hl w; rw [qw_X10_clear_2] at w; exact w.elim
    | succ n ih =>
      intro xl1 h H locs ls S hl w
      rw [qw_X10_clear_2] at w
      refine lv_iload_n C.1.1 C.1.2.1 dX10_clear_2 rfl (lv_at hl 1 rfl) ?_
      refine lv_bipush (v := (32 : Int32)) C.1.1 C.1.2.1 dX10_clear_3 (by decide) ?_
      refine lv_icmp_ge (tgt := 21) C.1.1 C.1.2.1 dX10_clear_5 (by decide) (fun c9 => ?_) (fun c9 => ?_)
      · replace w := ql_if w c9
        exact ql_vret C S hr hlocks dX10_clear_21 ⟨Nat.le_of_ble_eq_true rfl, Nat.le_of_ble_eq_true rfl⟩ w
      · replace w := ql_ifn w c9
        refine ql_aload_n (r := (some a0)) C dX10_clear_8 rfl (lv_at hl 0 rfl) ?_
        refine ql_getR C S qf_11_1 gw_326 dX10_clear_9 w (fun r1 w => ?_)
        refine lv_iload_n C.1.1 C.1.2.1 dX10_clear_12 rfl (lv_at hl 1 rfl) ?_
        refine lv_iconst (v := (0 : Int32)) C.1.1 C.1.2.1 dX10_clear_13 (by decide) ?_
        refine ql_iast C S dX10_clear_14 w (fun h H locs S w => ?_)
        refine lv_iinc (v := (xl1 + (1 : Int32))) (lv' := [(1, .int (xl1 + (1 : Int32))), (0, .ref a0)]) C.1.1 C.1.2.1 dX10_clear_15 hl (k := 1) rfl rfl (by decide) rfl (fun ls hl => ?_)
        refine lv_goto (tgt := 2) C.1.1 C.1.2.1 dX10_clear_18 (by decide) ?_
        exact ih (xl1 + (1 : Int32)) _ _ _ _ S (lv_sub hl [1, 0] rfl) w
  unfold qw_X10_clear at w
  refine lv_iconst (v := (0 : Int32)) C.1.1 C.1.2.1 dX10_clear_0 (by decide) ?_
  refine lv_istore_n (lv' := [(1, .int (0 : Int32)), (0, .ref a0)]) C.1.1 C.1.2.1 dX10_clear_1 rfl hl (by decide) rfl (fun ls hl => ?_)
  exact hB2 ql_FU (0 : Int32) _ _ _ _ S (lv_sub hl [1, 0] rfl) w
def qw_X10_countBeforeAdding_47 (a0 : Nat) (Q : Int32 → ql_H → Prop) (k13 : Int64 → Int32 → Int32 → ql_H → Prop) (jl1 : Int64) (xl3 : Int32) (xl4 : Int32) (xl5 : Int32) (h : ql_H) : Prop :=
ql_gR h (some a0) 11 0 fun r1 =>
ql_lJ h r1 xl5 fun j2 =>
if (lg_cmp j2 jl1) = 0 then (ql_gR h (some a0) 11 1 fun r3 =>
ql_lI h r3 0 xl5 fun x4 =>
ql_sI h r3 0 xl5 (x4 + (1 : Int32)) fun h =>
ql_gR h (some a0) 11 1 fun r5 =>
ql_lI h r5 0 xl5 fun x6 =>
Q (x6 - (1 : Int32)) h) else (k13 jl1 xl3 (xl4 + (1 : Int32)) h)
def qw_X10_countBeforeAdding_13 (a0 : Nat) (Q : Int32 → ql_H → Prop) : Nat → Int64 → Int32 → Int32 → ql_H → Prop
  | 0, _, _, _, _ => False
  | n + 1, jl1, xl3, xl4, h =>
    if (32 : Int32) ≤ xl4 then (Q (0 : Int32) h) else (ql_gR h (some a0) 11 1 fun r7 =>
    ql_lI h r7 0 ((xl3 + xl4) &&& (31 : Int32)) fun x8 =>
    if x8 = 0 then (ql_gR h (some a0) 11 0 fun r9 =>
    ql_sJ h r9 ((xl3 + xl4) &&& (31 : Int32)) jl1 fun h =>
    qw_X10_countBeforeAdding_47 a0 Q (qw_X10_countBeforeAdding_13 a0 Q n) jl1 xl3 xl4 ((xl3 + xl4) &&& (31 : Int32)) h) else (qw_X10_countBeforeAdding_47 a0 Q (qw_X10_countBeforeAdding_13 a0 Q n) jl1 xl3 xl4 ((xl3 + xl4) &&& (31 : Int32)) h))
def qw_X10_countBeforeAdding (a0 : Nat) (jp1 : Int64) (h : ql_H) (Q : Int32 → ql_H → Prop) : Prop :=
qw_X10_countBeforeAdding_13 a0 Q ql_FU jp1 ((jp1 * (-7046029254386353131 : Int64)).toUInt64 >>> ((59 : Int32).toInt64.toUInt64 &&& Int64.toUInt64 63)).toInt64.toInt32 (0 : Int32) h
set_option maxHeartbeats 4000000 in
set_option maxRecDepth 100000 in
theorem qm_X10_countBeforeAdding (l : Launch) (hl9 : l.stackTraces = false) (D : ql_D) (h0 : ql_H) (a0 : Nat) (jp1 : Int64) (Q : Int32 → ql_H → Prop) (X : String → ql_H → Prop) (w : qw_X10_countBeforeAdding a0 jp1 h0 Q) : ql_M D l yX10_countBeforeAdding cX10_countBeforeAdding 6 (some .int) ({ frames := 2, cells := 0, slots := 0, locals := 48 } : Room) h0 [.ref a0, .long jp1] (ql_rI Q) X 0 0 := by
  refine ql_ofW (by decide) (Nat.le_of_ble_eq_true rfl) ?_
  intro p e s m below meth c ls C hr hlocks hnm htab S hl
  have hl : lv_has ls 6 [(0, .ref a0), (1, .long jp1)] := hl
  have hB47 : ∀ (k13 : Int64 → Int32 → Int32 → ql_H → Prop) (hk13 : ∀ (jl1 : Int64) (xl3 : Int32) (xl4 : Int32) (h : ql_H) (H : Heap) (locs : List Loc) (ls : Array Slot), ql_S D h0 s H locs h → lv_has ls 6 [(0, .ref a0), (1, .long jl1), (3, .int xl3), (4, .int xl4)] → k13 jl1 xl3 xl4 h → W p l e ({ frames := 2, cells := 0, slots := 0, locals := 48 } : Room) s m ([.ref a0, .long jp1] : List Value).toArray below meth c H locs 0 0 (vx_MQ below (ql_Q D h0 (ql_rI Q)) (ql_X D h0 X) ([.ref a0, .long jp1] : List Value).toArray s 0 0 (ql_A h0)) (F0 m 13 ls [])) , ∀ (jl1 : Int64) (xl3 : Int32) (xl4 : Int32) (xl5 : Int32) (h : ql_H) (H : Heap) (locs : List Loc) (ls : Array Slot), ql_S D h0 s H locs h → lv_has ls 6 [(0, .ref a0), (1, .long jl1), (3, .int xl3), (4, .int xl4), (5, .int xl5)] → qw_X10_countBeforeAdding_47 a0 Q k13 jl1 xl3 xl4 xl5 h → W p l e ({ frames := 2, cells := 0, slots := 0, locals := 48 } : Room) s m ([.ref a0, .long jp1] : List Value).toArray below meth c H locs 0 0 (vx_MQ below (ql_Q D h0 (ql_rI Q)) (ql_X D h0 X) ([.ref a0, .long jp1] : List Value).toArray s 0 0 (ql_A h0)) (F0 m 47 ls []) := by
    intro k13 hk13 jl1 xl3 xl4 xl5 h H locs ls S hl w
    unfold qw_X10_countBeforeAdding_47 at w
    refine ql_aload_n (r := (some a0)) C dX10_countBeforeAdding_47 rfl (lv_at hl 0 rfl) ?_
    refine ql_getR C S qf_11_0 gw_325 dX10_countBeforeAdding_48 w (fun r1 w => ?_)
    refine lv_iload C.1.1 C.1.2.1 dX10_countBeforeAdding_51 (lv_at hl 4 rfl) ?_
    refine ql_lald C S dX10_countBeforeAdding_53 w (fun j2 w => ?_)
    refine lv_lload_n C.1.1 C.1.2.1 dX10_countBeforeAdding_54 rfl (lv_at hl 1 rfl) ?_
    refine W.lcmp C.1.1 C.1.2.1 dX10_countBeforeAdding_55 ?_
    refine lv_if_ne (tgt := 80) C.1.1 C.1.2.1 dX10_countBeforeAdding_56 (by decide) (fun c9 => ?_) (fun c9 => ?_)
    · replace w := ql_ifn w c9
      refine lv_iinc (v := (xl4 + (1 : Int32))) (lv' := [(4, .int (xl4 + (1 : Int32))), (0, .ref a0), (1, .long jl1), (3, .int xl3), (5, .int xl5)]) C.1.1 C.1.2.1 dX10_countBeforeAdding_80 hl (k := 3) rfl rfl (by decide) rfl (fun ls hl => ?_)
      refine lv_goto (tgt := 13) C.1.1 C.1.2.1 dX10_countBeforeAdding_83 (by decide) ?_
      exact hk13 jl1 xl3 (xl4 + (1 : Int32)) _ _ _ _ S (lv_sub hl [1, 2, 3, 0] rfl) w
    · replace w := ql_if w c9
      refine ql_aload_n (r := (some a0)) C dX10_countBeforeAdding_59 rfl (lv_at hl 0 rfl) ?_
      refine ql_getR C S qf_11_1 gw_326 dX10_countBeforeAdding_60 w (fun r3 w => ?_)
      refine lv_iload C.1.1 C.1.2.1 dX10_countBeforeAdding_63 (lv_at hl 4 rfl) ?_
      refine lv_dup2_11 C.1.1 C.1.2.1 dX10_countBeforeAdding_65 rfl (ql_catR _) ?_
      refine ql_iald C S dX10_countBeforeAdding_66 w (fun x4 w => ?_)
      refine lv_iconst (v := (1 : Int32)) C.1.1 C.1.2.1 dX10_countBeforeAdding_67 (by decide) ?_
      refine lv_iadd C.1.1 C.1.2.1 dX10_countBeforeAdding_68 ?_
      refine ql_iast C S dX10_countBeforeAdding_69 w (fun h H locs S w => ?_)
      refine ql_aload_n (r := (some a0)) C dX10_countBeforeAdding_70 rfl (lv_at hl 0 rfl) ?_
      refine ql_getR C S qf_11_1 gw_326 dX10_countBeforeAdding_71 w (fun r5 w => ?_)
      refine lv_iload C.1.1 C.1.2.1 dX10_countBeforeAdding_74 (lv_at hl 4 rfl) ?_
      refine ql_iald C S dX10_countBeforeAdding_76 w (fun x6 w => ?_)
      refine lv_iconst (v := (1 : Int32)) C.1.1 C.1.2.1 dX10_countBeforeAdding_77 (by decide) ?_
      refine lv_isub C.1.1 C.1.2.1 dX10_countBeforeAdding_78 ?_
      exact ql_iret C S hr hlocks dX10_countBeforeAdding_79 ⟨Nat.le_of_ble_eq_true rfl, Nat.le_of_ble_eq_true rfl⟩ w
  have hB13 : ∀ n : Nat, ∀ (jl1 : Int64) (xl3 : Int32) (xl4 : Int32) (h : ql_H) (H : Heap) (locs : List Loc) (ls : Array Slot), ql_S D h0 s H locs h → lv_has ls 6 [(0, .ref a0), (1, .long jl1), (3, .int xl3), (4, .int xl4)] → qw_X10_countBeforeAdding_13 a0 Q n jl1 xl3 xl4 h → W p l e ({ frames := 2, cells := 0, slots := 0, locals := 48 } : Room) s m ([.ref a0, .long jp1] : List Value).toArray below meth c H locs 0 0 (vx_MQ below (ql_Q D h0 (ql_rI Q)) (ql_X D h0 X) ([.ref a0, .long jp1] : List Value).toArray s 0 0 (ql_A h0)) (F0 m 13 ls []) := by
    intro n
    induction n with
    | zero => intro jl1 xl3 xl4 h H locs ls S hl w; rw [qw_X10_countBeforeAdding_13] at w; exact w.elim
    | succ n ih =>
      intro jl1 xl3 xl4 h H locs ls S hl w
      rw [qw_X10_countBeforeAdding_13] at w
      refine lv_iload C.1.1 C.1.2.1 dX10_countBeforeAdding_13 (lv_at hl 3 rfl) ?_
      refine lv_bipush (v := (32 : Int32)) C.1.1 C.1.2.1 dX10_countBeforeAdding_15 (by decide) ?_
      refine lv_icmp_ge (tgt := 86) C.1.1 C.1.2.1 dX10_countBeforeAdding_17 (by decide) (fun c9 => ?_) (fun c9 => ?_)
      · replace w := ql_if w c9
        refine lv_iconst (v := (0 : Int32)) C.1.1 C.1.2.1 dX10_countBeforeAdding_86 (by decide) ?_
        exact ql_iret C S hr hlocks dX10_countBeforeAdding_87 ⟨Nat.le_of_ble_eq_true rfl, Nat.le_of_ble_eq_true rfl⟩ w
      · replace w := ql_ifn w c9
        refine lv_iload_n C.1.1 C.1.2.1 dX10_countBeforeAdding_20 rfl (lv_at hl 2 rfl) ?_
        refine lv_iload C.1.1 C.1.2.1 dX10_countBeforeAdding_21 (lv_at hl 3 rfl) ?_
        refine lv_iadd C.1.1 C.1.2.1 dX10_countBeforeAdding_23 ?_
        refine lv_bipush (v := (31 : Int32)) C.1.1 C.1.2.1 dX10_countBeforeAdding_24 (by decide) ?_
        refine lv_iand C.1.1 C.1.2.1 dX10_countBeforeAdding_26 ?_
        refine lv_istore (lv' := [(5, .int ((xl3 + xl4) &&& (31 : Int32))), (0, .ref a0), (1, .long jl1), (3, .int xl3), (4, .int xl4)]) C.1.1 C.1.2.1 dX10_countBeforeAdding_27 hl (by decide) rfl (fun ls hl => ?_)
        refine ql_aload_n (r := (some a0)) C dX10_countBeforeAdding_29 rfl (lv_at hl 1 rfl) ?_
        refine ql_getR C S qf_11_1 gw_326 dX10_countBeforeAdding_30 w (fun r7 w => ?_)
        refine lv_iload C.1.1 C.1.2.1 dX10_countBeforeAdding_33 (lv_at hl 0 rfl) ?_
        refine ql_iald C S dX10_countBeforeAdding_35 w (fun x8 w => ?_)
        refine lv_if_ne (tgt := 47) C.1.1 C.1.2.1 dX10_countBeforeAdding_36 (by decide) (fun c9 => ?_) (fun c9 => ?_)
        · replace w := ql_ifn w c9
          exact hB47 (qw_X10_countBeforeAdding_13 a0 Q n) ih jl1 xl3 xl4 ((xl3 + xl4) &&& (31 : Int32)) _ _ _ _ S (lv_sub hl [1, 2, 3, 4, 0] rfl) w
        · replace w := ql_if w c9
          refine ql_aload_n (r := (some a0)) C dX10_countBeforeAdding_39 rfl (lv_at hl 1 rfl) ?_
          refine ql_getR C S qf_11_0 gw_325 dX10_countBeforeAdding_40 w (fun r9 w => ?_)
          refine lv_iload C.1.1 C.1.2.1 dX10_countBeforeAdding_43 (lv_at hl 0 rfl) ?_
          refine lv_lload_n C.1.1 C.1.2.1 dX10_countBeforeAdding_45 rfl (lv_at hl 2 rfl) ?_
          refine ql_last C S dX10_countBeforeAdding_46 w (fun h H locs S w => ?_)
          exact hB47 (qw_X10_countBeforeAdding_13 a0 Q n) ih jl1 xl3 xl4 ((xl3 + xl4) &&& (31 : Int32)) _ _ _ _ S (lv_sub hl [1, 2, 3, 4, 0] rfl) w
  unfold qw_X10_countBeforeAdding at w
  refine lv_lload_n C.1.1 C.1.2.1 dX10_countBeforeAdding_0 rfl (lv_at hl 1 rfl) ?_
  refine lv_ldc2 (v := (-7046029254386353131 : Int64)) C.1.1 C.1.2.1 C.1.2.2.2.1 (C.1.2.2.2.2 _ gw_665) dX10_countBeforeAdding_1 ?_
  refine lv_lmul C.1.1 C.1.2.1 dX10_countBeforeAdding_4 ?_
  refine lv_bipush (v := (59 : Int32)) C.1.1 C.1.2.1 dX10_countBeforeAdding_5 (by decide) ?_
  refine lv_lushr C.1.1 C.1.2.1 dX10_countBeforeAdding_7 rfl ?_
  refine lv_l2i C.1.1 C.1.2.1 dX10_countBeforeAdding_8 rfl ?_
  refine lv_istore_n (lv' := [(3, .int ((jp1 * (-7046029254386353131 : Int64)).toUInt64 >>> ((59 : Int32).toInt64.toUInt64 &&& Int64.toUInt64 63)).toInt64.toInt32), (0, .ref a0), (1, .long jp1)]) C.1.1 C.1.2.1 dX10_countBeforeAdding_9 rfl hl (by decide) rfl (fun ls hl => ?_)
  refine lv_iconst (v := (0 : Int32)) C.1.1 C.1.2.1 dX10_countBeforeAdding_10 (by decide) ?_
  refine lv_istore (lv' := [(4, .int (0 : Int32)), (3, .int ((jp1 * (-7046029254386353131 : Int64)).toUInt64 >>> ((59 : Int32).toInt64.toUInt64 &&& Int64.toUInt64 63)).toInt64.toInt32), (0, .ref a0), (1, .long jp1)]) C.1.1 C.1.2.1 dX10_countBeforeAdding_11 hl (by decide) rfl (fun ls hl => ?_)
  exact hB13 ql_FU jp1 ((jp1 * (-7046029254386353131 : Int64)).toUInt64 >>> ((59 : Int32).toInt64.toUInt64 &&& Int64.toUInt64 63)).toInt64.toInt32 (0 : Int32) _ _ _ _ S (lv_sub hl [2, 3, 1, 0] rfl) w
def qw_X11_refuse (xp0 : Int32) (h : ql_H) (Q : ql_H → Prop) (X : String → ql_H → Prop) : Prop :=
if xp0 = (-5 : Int32) then (∀ n9 : Nat, h.1 ≤ n9 → X "java/lang/UnsupportedOperationException" (n9, h.2)) else if xp0 = (-4 : Int32) then (∀ n9 : Nat, h.1 ≤ n9 → X "java/lang/IllegalStateException" (n9, h.2)) else if xp0 = (-3 : Int32) then (∀ n9 : Nat, h.1 ≤ n9 → X "java/lang/IllegalArgumentException" (n9, h.2)) else if xp0 = (-2 : Int32) then (∀ n9 : Nat, h.1 ≤ n9 → X "java/lang/IndexOutOfBoundsException" (n9, h.2)) else if xp0 = (-1 : Int32) then (∀ n9 : Nat, h.1 ≤ n9 → X "java/util/NoSuchElementException" (n9, h.2)) else (Q h)
set_option maxHeartbeats 4000000 in
set_option maxRecDepth 100000 in
theorem qm_X11_refuse (l : Launch) (hl9 : l.stackTraces = false) (D : ql_D) (h0 : ql_H) (xp0 : Int32) (Q : ql_H → Prop) (X : String → ql_H → Prop) (w : qw_X11_refuse xp0 h0 Q X) : ql_M D l yX11_refuse cX11_refuse 1 none ({ frames := 8, cells := 1, slots := 6, locals := 101 } : Room) h0 [.int xp0] (ql_rV Q) X 1 6 := by
  refine ql_ofW (by decide) (Nat.le_of_ble_eq_true rfl) ?_
  intro p e s m below meth c ls C hr hlocks hnm htab S hl
  have hl : lv_has ls 1 [(0, .int xp0)] := hl
  unfold qw_X11_refuse at w
  refine lv_iload_n C.1.1 C.1.2.1 dX11_refuse_0 rfl (lv_at hl 0 rfl) ?_
  by_cases c9 : xp0 = (-5 : Int32)
  · replace w := ql_if w c9
    refine lv_tableIn (tgt := 68) (off := 67) C.1.1 C.1.2.1 dX11_refuse_1 (by rw [c9]; decide) (by rw [c9]; decide) (by rw [c9]; rfl) (by decide) ?_
    exact ql_throw trivial C S qx_RX11_135 gw_602 gw_96 hl htab hlocks hl9 dX11_refuse_68 dX11_refuse_71 dX11_refuse_72 dX11_refuse_75 ⟨Nat.le_of_ble_eq_true rfl, Nat.le_of_ble_eq_true rfl, Nat.le_of_ble_eq_true rfl⟩ (by exact Nat.le_of_ble_eq_true rfl) ⟨Nat.le_of_ble_eq_true rfl, Nat.le_of_ble_eq_true rfl⟩ w
  replace w := ql_ifn w c9
  have e0 := c9
  clear c9
  by_cases c9 : xp0 = (-4 : Int32)
  · replace w := ql_if w c9
    refine lv_tableIn (tgt := 60) (off := 59) C.1.1 C.1.2.1 dX11_refuse_1 (by rw [c9]; decide) (by rw [c9]; decide) (by rw [c9]; rfl) (by decide) ?_
    exact ql_throw trivial C S qx_RX11_132 gw_587 gw_95 hl htab hlocks hl9 dX11_refuse_60 dX11_refuse_63 dX11_refuse_64 dX11_refuse_67 ⟨Nat.le_of_ble_eq_true rfl, Nat.le_of_ble_eq_true rfl, Nat.le_of_ble_eq_true rfl⟩ (by exact Nat.le_of_ble_eq_true rfl) ⟨Nat.le_of_ble_eq_true rfl, Nat.le_of_ble_eq_true rfl⟩ w
  replace w := ql_ifn w c9
  have e1 := c9
  clear c9
  by_cases c9 : xp0 = (-3 : Int32)
  · replace w := ql_if w c9
    refine lv_tableIn (tgt := 52) (off := 51) C.1.1 C.1.2.1 dX11_refuse_1 (by rw [c9]; decide) (by rw [c9]; decide) (by rw [c9]; rfl) (by decide) ?_
    exact ql_throw trivial C S qx_RX11_129 gw_572 gw_94 hl htab hlocks hl9 dX11_refuse_52 dX11_refuse_55 dX11_refuse_56 dX11_refuse_59 ⟨Nat.le_of_ble_eq_true rfl, Nat.le_of_ble_eq_true rfl, Nat.le_of_ble_eq_true rfl⟩ (by exact Nat.le_of_ble_eq_true rfl) ⟨Nat.le_of_ble_eq_true rfl, Nat.le_of_ble_eq_true rfl⟩ w
  replace w := ql_ifn w c9
  have e2 := c9
  clear c9
  by_cases c9 : xp0 = (-2 : Int32)
  · replace w := ql_if w c9
    refine lv_tableIn (tgt := 44) (off := 43) C.1.1 C.1.2.1 dX11_refuse_1 (by rw [c9]; decide) (by rw [c9]; decide) (by rw [c9]; rfl) (by decide) ?_
    exact ql_throw trivial C S qx_RX11_126 gw_557 gw_93 hl htab hlocks hl9 dX11_refuse_44 dX11_refuse_47 dX11_refuse_48 dX11_refuse_51 ⟨Nat.le_of_ble_eq_true rfl, Nat.le_of_ble_eq_true rfl, Nat.le_of_ble_eq_true rfl⟩ (by exact Nat.le_of_ble_eq_true rfl) ⟨Nat.le_of_ble_eq_true rfl, Nat.le_of_ble_eq_true rfl⟩ w
  replace w := ql_ifn w c9
  have e3 := c9
  clear c9
  by_cases c9 : xp0 = (-1 : Int32)
  · replace w := ql_if w c9
    refine lv_tableIn (tgt := 36) (off := 35) C.1.1 C.1.2.1 dX11_refuse_1 (by rw [c9]; decide) (by rw [c9]; decide) (by rw [c9]; rfl) (by decide) ?_
    exact ql_throw trivial C S qx_RX11_123 gw_488 gw_92 hl htab hlocks hl9 dX11_refuse_36 dX11_refuse_39 dX11_refuse_40 dX11_refuse_43 ⟨Nat.le_of_ble_eq_true rfl, Nat.le_of_ble_eq_true rfl, Nat.le_of_ble_eq_true rfl⟩ (by exact Nat.le_of_ble_eq_true rfl) ⟨Nat.le_of_ble_eq_true rfl, Nat.le_of_ble_eq_true rfl⟩ w
  replace w := ql_ifn w c9
  have e4 := c9
  clear c9
  refine lv_tableOut (tgt := 76) C.1.1 C.1.2.1 dX11_refuse_1 (ql_sw (n := 5) (by decide) (fun k hk => ?_)) (by decide) ?_
  · rcases (show k = 0 ∨ k = 1 ∨ k = 2 ∨ k = 3 ∨ k = 4 by omega) with rfl | rfl | rfl | rfl | rfl
    · exact e0
    · exact e1
    · exact e2
    · exact e3
    · exact e4
  exact ql_vret C S hr hlocks dX11_refuse_76 ⟨Nat.le_of_ble_eq_true rfl, Nat.le_of_ble_eq_true rfl⟩ w
def qw_X11_settle (a0 : Nat) (xp1 : Int32) (h : ql_H) (Q : Int32 → ql_H → Prop) (X : String → ql_H → Prop) : Prop :=
qw_X11_refuse xp1 h (fun h =>
ql_gR h (some a0) 12 3 fun r1 =>
ql_rv h r1 9 fun b1 => qw_X6_keep b1  h (fun h =>
Q xp1 h)) X
set_option maxHeartbeats 4000000 in
set_option maxRecDepth 100000 in
theorem qm_X11_settle (l : Launch) (hl9 : l.stackTraces = false) (D : ql_D) (h0 : ql_H) (a0 : Nat) (xp1 : Int32) (Q : Int32 → ql_H → Prop) (X : String → ql_H → Prop) (w : qw_X11_settle a0 xp1 h0 Q X) : ql_M D l yX11_settle cX11_settle 2 (some .int) ({ frames := 10, cells := 1, slots := 6, locals := 129 } : Room) h0 [.ref a0, .int xp1] (ql_rI Q) X 1 6 := by
  refine ql_ofW (by decide) (Nat.le_of_ble_eq_true rfl) ?_
  intro p e s m below meth c ls C hr hlocks hnm htab S hl
  have hl : lv_has ls 2 [(0, .ref a0), (1, .int xp1)] := hl
  unfold qw_X11_settle at w
  refine lv_iload_n C.1.1 C.1.2.1 dX11_settle_0 rfl (lv_at hl 1 rfl) ?_
  refine ql_SV (As := [.int xp1]) (rest := []) C S htab hlocks hl qy_X11_refuse qi_X11_refuse gw_485 (qm_X11_refuse l hl9 D _ xp1 _ _ w) rfl ⟨Nat.le_of_ble_eq_true rfl, Nat.le_of_ble_eq_true rfl⟩ ⟨rfl, rfl⟩ (by exact Nat.le_of_ble_eq_true rfl) rfl dX11_settle_1 ⟨Nat.le_of_ble_eq_true rfl, Nat.le_of_ble_eq_true rfl⟩ ⟨Nat.le_of_ble_eq_true rfl, Nat.le_of_ble_eq_true rfl⟩ (fun h H locs S w => ?_)
  refine W.cs (cells' := 1) (slots' := 6) rfl rfl ?_
  refine ql_aload_n (r := (some a0)) C dX11_settle_4 rfl (lv_at hl 0 rfl) ?_
  refine ql_getR C S qf_12_3 gw_351 dX11_settle_5 w (fun r1 w => ?_)
  refine ql_VV (As := []) (rest := []) C S htab hlocks hl qy_X6_keep qi_X6_keep qs_X6_keep gw_617 (ci := 9) rfl w (fun b w => qm_X6_keep l hl9 D _ b _ _ w) rfl ⟨Nat.le_of_ble_eq_true rfl, Nat.le_of_ble_eq_true rfl⟩ ⟨rfl, rfl⟩ (by exact Nat.le_of_ble_eq_true rfl) (fun b e9 => by cases e9; rfl) dX11_settle_8 ⟨Nat.le_of_ble_eq_true rfl, Nat.le_of_ble_eq_true rfl⟩ ⟨Nat.le_of_ble_eq_true rfl, Nat.le_of_ble_eq_true rfl⟩ (fun h H locs S w => ?_)
  refine W.cs (cells' := 1) (slots' := 6) rfl rfl ?_
  refine lv_iload_n C.1.1 C.1.2.1 dX11_settle_11 rfl (lv_at hl 1 rfl) ?_
  exact ql_iret C S hr hlocks dX11_settle_12 ⟨Nat.le_of_ble_eq_true rfl, Nat.le_of_ble_eq_true rfl⟩ w
def qw_X11_addClause (a0 : Nat) (xp1 : Int32) (xp2 : Int32) (h : ql_H) (Q : Int32 → ql_H → Prop) (X : String → ql_H → Prop) : Prop :=
ql_gR h (some a0) 12 3 fun r1 =>
ql_gR h (some a0) 12 0 fun r2 =>
ql_rv h r1 9 fun b2 => qw_X6_open b2 r2 h (fun h =>
ql_gR h (some a0) 12 0 fun r4 =>
ql_rv h r4 4 fun b5 => qw_X1_tryAdd b5 xp1 xp2 h (fun x5 h =>
ql_rv h (some a0) 12 fun b7 => qw_X11_settle b7 x5 h (fun x7 h =>
Q x7 h) X))
set_option maxHeartbeats 4000000 in
set_option maxRecDepth 100000 in
theorem qm_X11_addClause (l : Launch) (hl9 : l.stackTraces = false) (D : ql_D) (h0 : ql_H) (a0 : Nat) (xp1 : Int32) (xp2 : Int32) (Q : Int32 → ql_H → Prop) (X : String → ql_H → Prop) (w : qw_X11_addClause a0 xp1 xp2 h0 Q X) : ql_M D l yX11_addClause cX11_addClause 3 (some .int) ({ frames := 12, cells := 1, slots := 6, locals := 158 } : Room) h0 [.ref a0, .int xp1, .int xp2] (ql_rI Q) X 1 6 := by
  refine ql_ofW (by decide) (Nat.le_of_ble_eq_true rfl) ?_
  intro p e s m below meth c ls C hr hlocks hnm htab S hl
  have hl : lv_has ls 3 [(0, .ref a0), (1, .int xp1), (2, .int xp2)] := hl
  unfold qw_X11_addClause at w
  refine ql_aload_n (r := (some a0)) C dX11_addClause_0 rfl (lv_at hl 0 rfl) ?_
  refine ql_getR C S qf_12_3 gw_351 dX11_addClause_1 w (fun r1 w => ?_)
  refine ql_aload_n (r := (some a0)) C dX11_addClause_4 rfl (lv_at hl 0 rfl) ?_
  refine ql_getR C S qf_12_0 gw_348 dX11_addClause_5 w (fun r2 w => ?_)
  refine ql_VV (As := [va_rf r2]) (rest := []) C S htab hlocks hl qy_X6_open qi_X6_open qs_X6_open gw_386 (ci := 9) rfl w (fun b w => qm_X6_open l hl9 D _ b r2 _ _ w) rfl ⟨Nat.le_of_ble_eq_true rfl, Nat.le_of_ble_eq_true rfl⟩ ⟨rfl, rfl⟩ (by exact Nat.le_of_ble_eq_true rfl) (fun b e9 => by cases e9; rfl) dX11_addClause_8 ⟨Nat.le_of_ble_eq_true rfl, Nat.le_of_ble_eq_true rfl⟩ ⟨Nat.le_of_ble_eq_true rfl, Nat.le_of_ble_eq_true rfl⟩ (fun h H locs S w => ?_)
  refine W.cs (cells' := 0) (slots' := 0) rfl rfl ?_
  refine ql_aload_n (r := (some a0)) C dX11_addClause_11 rfl (lv_at hl 0 rfl) ?_
  refine ql_aload_n (r := (some a0)) C dX11_addClause_12 rfl (lv_at hl 0 rfl) ?_
  refine ql_getR C S qf_12_0 gw_348 dX11_addClause_13 w (fun r4 w => ?_)
  refine lv_iload_n C.1.1 C.1.2.1 dX11_addClause_16 rfl (lv_at hl 1 rfl) ?_
  refine lv_iload_n C.1.1 C.1.2.1 dX11_addClause_17 rfl (lv_at hl 2 rfl) ?_
  refine ql_VI (As := [.int xp1, .int xp2]) (rest := [.ref a0]) C S htab hlocks hl qy_X1_tryAdd qi_X1_tryAdd qs_X1_tryAdd gw_779 (ci := 4) rfl w (fun b w => qm_X1_tryAdd l hl9 D _ b xp1 xp2 _ _ w) rfl ⟨Nat.le_of_ble_eq_true rfl, Nat.le_of_ble_eq_true rfl⟩ ⟨rfl, rfl⟩ (by exact Nat.le_of_ble_eq_true rfl) (fun b e9 => by cases e9; rfl) dX11_addClause_18 ⟨Nat.le_of_ble_eq_true rfl, Nat.le_of_ble_eq_true rfl⟩ ⟨Nat.le_of_ble_eq_true rfl, Nat.le_of_ble_eq_true rfl⟩ (fun x5 h H locs S w => ?_)
  refine W.cs (cells' := 0) (slots' := 0) rfl rfl ?_
  refine ql_VI (As := [.int x5]) (rest := []) C S htab hlocks hl qy_X11_settle qi_X11_settle qs_X11_settle gw_481 (ci := 12) rfl w (fun b w => qm_X11_settle l hl9 D _ b x5 _ _ w) rfl ⟨Nat.le_of_ble_eq_true rfl, Nat.le_of_ble_eq_true rfl⟩ ⟨rfl, rfl⟩ (by exact Nat.le_of_ble_eq_true rfl) (fun b e9 => by cases e9; rfl) dX11_addClause_21 ⟨Nat.le_of_ble_eq_true rfl, Nat.le_of_ble_eq_true rfl⟩ ⟨Nat.le_of_ble_eq_true rfl, Nat.le_of_ble_eq_true rfl⟩ (fun x7 h H locs S w => ?_)
  refine W.cs (cells' := 1) (slots' := 6) rfl rfl ?_
  exact ql_iret C S hr hlocks dX11_addClause_24 ⟨Nat.le_of_ble_eq_true rfl, Nat.le_of_ble_eq_true rfl⟩ w
def qw_X11_insertNote (a0 : Nat) (xp1 : Int32) (xp2 : Int32) (xp3 : Int32) (h : ql_H) (Q : Int32 → ql_H → Prop) (X : String → ql_H → Prop) : Prop :=
ql_gR h (some a0) 12 3 fun r1 =>
ql_gR h (some a0) 12 0 fun r2 =>
ql_rv h r1 9 fun b2 => qw_X6_open b2 r2 h (fun h =>
ql_gR h (some a0) 12 0 fun r4 =>
ql_rv h r4 4 fun b5 => qw_X1_tryInsert b5 xp1 xp2 xp3 h (fun x5 h =>
ql_rv h (some a0) 12 fun b7 => qw_X11_settle b7 x5 h (fun x7 h =>
Q x7 h) X))
set_option maxHeartbeats 4000000 in
set_option maxRecDepth 100000 in
theorem qm_X11_insertNote (l : Launch) (hl9 : l.stackTraces = false) (D : ql_D) (h0 : ql_H) (a0 : Nat) (xp1 : Int32) (xp2 : Int32) (xp3 : Int32) (Q : Int32 → ql_H → Prop) (X : String → ql_H → Prop) (w : qw_X11_insertNote a0 xp1 xp2 xp3 h0 Q X) : ql_M D l yX11_insertNote cX11_insertNote 4 (some .int) ({ frames := 12, cells := 1, slots := 6, locals := 175 } : Room) h0 [.ref a0, .int xp1, .int xp2, .int xp3] (ql_rI Q) X 1 6 := by
  refine ql_ofW (by decide) (Nat.le_of_ble_eq_true rfl) ?_
  intro p e s m below meth c ls C hr hlocks hnm htab S hl
  have hl : lv_has ls 4 [(0, .ref a0), (1, .int xp1), (2, .int xp2), (3, .int xp3)] := hl
  unfold qw_X11_insertNote at w
  refine ql_aload_n (r := (some a0)) C dX11_insertNote_0 rfl (lv_at hl 0 rfl) ?_
  refine ql_getR C S qf_12_3 gw_351 dX11_insertNote_1 w (fun r1 w => ?_)
  refine ql_aload_n (r := (some a0)) C dX11_insertNote_4 rfl (lv_at hl 0 rfl) ?_
  refine ql_getR C S qf_12_0 gw_348 dX11_insertNote_5 w (fun r2 w => ?_)
  refine ql_VV (As := [va_rf r2]) (rest := []) C S htab hlocks hl qy_X6_open qi_X6_open qs_X6_open gw_386 (ci := 9) rfl w (fun b w => qm_X6_open l hl9 D _ b r2 _ _ w) rfl ⟨Nat.le_of_ble_eq_true rfl, Nat.le_of_ble_eq_true rfl⟩ ⟨rfl, rfl⟩ (by exact Nat.le_of_ble_eq_true rfl) (fun b e9 => by cases e9; rfl) dX11_insertNote_8 ⟨Nat.le_of_ble_eq_true rfl, Nat.le_of_ble_eq_true rfl⟩ ⟨Nat.le_of_ble_eq_true rfl, Nat.le_of_ble_eq_true rfl⟩ (fun h H locs S w => ?_)
  refine W.cs (cells' := 0) (slots' := 0) rfl rfl ?_
  refine ql_aload_n (r := (some a0)) C dX11_insertNote_11 rfl (lv_at hl 0 rfl) ?_
  refine ql_aload_n (r := (some a0)) C dX11_insertNote_12 rfl (lv_at hl 0 rfl) ?_
  refine ql_getR C S qf_12_0 gw_348 dX11_insertNote_13 w (fun r4 w => ?_)
  refine lv_iload_n C.1.1 C.1.2.1 dX11_insertNote_16 rfl (lv_at hl 1 rfl) ?_
  refine lv_iload_n C.1.1 C.1.2.1 dX11_insertNote_17 rfl (lv_at hl 2 rfl) ?_
  refine lv_iload_n C.1.1 C.1.2.1 dX11_insertNote_18 rfl (lv_at hl 3 rfl) ?_
  refine ql_VI (As := [.int xp1, .int xp2, .int xp3]) (rest := [.ref a0]) C S htab hlocks hl qy_X1_tryInsert qi_X1_tryInsert qs_X1_tryInsert gw_841 (ci := 4) rfl w (fun b w => qm_X1_tryInsert l hl9 D _ b xp1 xp2 xp3 _ _ w) rfl ⟨Nat.le_of_ble_eq_true rfl, Nat.le_of_ble_eq_true rfl⟩ ⟨rfl, rfl⟩ (by exact Nat.le_of_ble_eq_true rfl) (fun b e9 => by cases e9; rfl) dX11_insertNote_19 ⟨Nat.le_of_ble_eq_true rfl, Nat.le_of_ble_eq_true rfl⟩ ⟨Nat.le_of_ble_eq_true rfl, Nat.le_of_ble_eq_true rfl⟩ (fun x5 h H locs S w => ?_)
  refine W.cs (cells' := 0) (slots' := 0) rfl rfl ?_
  refine ql_VI (As := [.int x5]) (rest := []) C S htab hlocks hl qy_X11_settle qi_X11_settle qs_X11_settle gw_481 (ci := 12) rfl w (fun b w => qm_X11_settle l hl9 D _ b x5 _ _ w) rfl ⟨Nat.le_of_ble_eq_true rfl, Nat.le_of_ble_eq_true rfl⟩ ⟨rfl, rfl⟩ (by exact Nat.le_of_ble_eq_true rfl) (fun b e9 => by cases e9; rfl) dX11_insertNote_22 ⟨Nat.le_of_ble_eq_true rfl, Nat.le_of_ble_eq_true rfl⟩ ⟨Nat.le_of_ble_eq_true rfl, Nat.le_of_ble_eq_true rfl⟩ (fun x7 h H locs S w => ?_)
  refine W.cs (cells' := 1) (slots' := 6) rfl rfl ?_
  exact ql_iret C S hr hlocks dX11_insertNote_25 ⟨Nat.le_of_ble_eq_true rfl, Nat.le_of_ble_eq_true rfl⟩ w
def qw_X11_replaceNote (a0 : Nat) (xp1 : Int32) (xp2 : Int32) (xp3 : Int32) (h : ql_H) (Q : Int32 → ql_H → Prop) (X : String → ql_H → Prop) : Prop :=
ql_gR h (some a0) 12 3 fun r1 =>
ql_gR h (some a0) 12 0 fun r2 =>
ql_rv h r1 9 fun b2 => qw_X6_open b2 r2 h (fun h =>
ql_gR h (some a0) 12 0 fun r4 =>
ql_rv h r4 4 fun b5 => qw_X1_tryReplace b5 xp1 xp2 xp3 h (fun x5 h =>
ql_rv h (some a0) 12 fun b7 => qw_X11_settle b7 x5 h (fun x7 h =>
Q x7 h) X))
set_option maxHeartbeats 4000000 in
set_option maxRecDepth 100000 in
theorem qm_X11_replaceNote (l : Launch) (hl9 : l.stackTraces = false) (D : ql_D) (h0 : ql_H) (a0 : Nat) (xp1 : Int32) (xp2 : Int32) (xp3 : Int32) (Q : Int32 → ql_H → Prop) (X : String → ql_H → Prop) (w : qw_X11_replaceNote a0 xp1 xp2 xp3 h0 Q X) : ql_M D l yX11_replaceNote cX11_replaceNote 4 (some .int) ({ frames := 12, cells := 1, slots := 6, locals := 176 } : Room) h0 [.ref a0, .int xp1, .int xp2, .int xp3] (ql_rI Q) X 1 6 := by
  refine ql_ofW (by decide) (Nat.le_of_ble_eq_true rfl) ?_
  intro p e s m below meth c ls C hr hlocks hnm htab S hl
  have hl : lv_has ls 4 [(0, .ref a0), (1, .int xp1), (2, .int xp2), (3, .int xp3)] := hl
  unfold qw_X11_replaceNote at w
  refine ql_aload_n (r := (some a0)) C dX11_replaceNote_0 rfl (lv_at hl 0 rfl) ?_
  refine ql_getR C S qf_12_3 gw_351 dX11_replaceNote_1 w (fun r1 w => ?_)
  refine ql_aload_n (r := (some a0)) C dX11_replaceNote_4 rfl (lv_at hl 0 rfl) ?_
  refine ql_getR C S qf_12_0 gw_348 dX11_replaceNote_5 w (fun r2 w => ?_)
  refine ql_VV (As := [va_rf r2]) (rest := []) C S htab hlocks hl qy_X6_open qi_X6_open qs_X6_open gw_386 (ci := 9) rfl w (fun b w => qm_X6_open l hl9 D _ b r2 _ _ w) rfl ⟨Nat.le_of_ble_eq_true rfl, Nat.le_of_ble_eq_true rfl⟩ ⟨rfl, rfl⟩ (by exact Nat.le_of_ble_eq_true rfl) (fun b e9 => by cases e9; rfl) dX11_replaceNote_8 ⟨Nat.le_of_ble_eq_true rfl, Nat.le_of_ble_eq_true rfl⟩ ⟨Nat.le_of_ble_eq_true rfl, Nat.le_of_ble_eq_true rfl⟩ (fun h H locs S w => ?_)
  refine W.cs (cells' := 0) (slots' := 0) rfl rfl ?_
  refine ql_aload_n (r := (some a0)) C dX11_replaceNote_11 rfl (lv_at hl 0 rfl) ?_
  refine ql_aload_n (r := (some a0)) C dX11_replaceNote_12 rfl (lv_at hl 0 rfl) ?_
  refine ql_getR C S qf_12_0 gw_348 dX11_replaceNote_13 w (fun r4 w => ?_)
  refine lv_iload_n C.1.1 C.1.2.1 dX11_replaceNote_16 rfl (lv_at hl 1 rfl) ?_
  refine lv_iload_n C.1.1 C.1.2.1 dX11_replaceNote_17 rfl (lv_at hl 2 rfl) ?_
  refine lv_iload_n C.1.1 C.1.2.1 dX11_replaceNote_18 rfl (lv_at hl 3 rfl) ?_
  refine ql_VI (As := [.int xp1, .int xp2, .int xp3]) (rest := [.ref a0]) C S htab hlocks hl qy_X1_tryReplace qi_X1_tryReplace qs_X1_tryReplace gw_878 (ci := 4) rfl w (fun b w => qm_X1_tryReplace l hl9 D _ b xp1 xp2 xp3 _ _ w) rfl ⟨Nat.le_of_ble_eq_true rfl, Nat.le_of_ble_eq_true rfl⟩ ⟨rfl, rfl⟩ (by exact Nat.le_of_ble_eq_true rfl) (fun b e9 => by cases e9; rfl) dX11_replaceNote_19 ⟨Nat.le_of_ble_eq_true rfl, Nat.le_of_ble_eq_true rfl⟩ ⟨Nat.le_of_ble_eq_true rfl, Nat.le_of_ble_eq_true rfl⟩ (fun x5 h H locs S w => ?_)
  refine W.cs (cells' := 0) (slots' := 0) rfl rfl ?_
  refine ql_VI (As := [.int x5]) (rest := []) C S htab hlocks hl qy_X11_settle qi_X11_settle qs_X11_settle gw_481 (ci := 12) rfl w (fun b w => qm_X11_settle l hl9 D _ b x5 _ _ w) rfl ⟨Nat.le_of_ble_eq_true rfl, Nat.le_of_ble_eq_true rfl⟩ ⟨rfl, rfl⟩ (by exact Nat.le_of_ble_eq_true rfl) (fun b e9 => by cases e9; rfl) dX11_replaceNote_22 ⟨Nat.le_of_ble_eq_true rfl, Nat.le_of_ble_eq_true rfl⟩ ⟨Nat.le_of_ble_eq_true rfl, Nat.le_of_ble_eq_true rfl⟩ (fun x7 h H locs S w => ?_)
  refine W.cs (cells' := 1) (slots' := 6) rfl rfl ?_
  exact ql_iret C S hr hlocks dX11_replaceNote_25 ⟨Nat.le_of_ble_eq_true rfl, Nat.le_of_ble_eq_true rfl⟩ w
def qw_X11_deleteNote (a0 : Nat) (xp1 : Int32) (xp2 : Int32) (h : ql_H) (Q : Int32 → ql_H → Prop) (X : String → ql_H → Prop) : Prop :=
ql_gR h (some a0) 12 3 fun r1 =>
ql_gR h (some a0) 12 0 fun r2 =>
ql_rv h r1 9 fun b2 => qw_X6_open b2 r2 h (fun h =>
ql_gR h (some a0) 12 0 fun r4 =>
ql_rv h r4 4 fun b5 => qw_X1_tryDelete b5 xp1 xp2 h (fun x5 h =>
ql_rv h (some a0) 12 fun b7 => qw_X11_settle b7 x5 h (fun x7 h =>
Q x7 h) X))
set_option maxHeartbeats 4000000 in
set_option maxRecDepth 100000 in
theorem qm_X11_deleteNote (l : Launch) (hl9 : l.stackTraces = false) (D : ql_D) (h0 : ql_H) (a0 : Nat) (xp1 : Int32) (xp2 : Int32) (Q : Int32 → ql_H → Prop) (X : String → ql_H → Prop) (w : qw_X11_deleteNote a0 xp1 xp2 h0 Q X) : ql_M D l yX11_deleteNote cX11_deleteNote 3 (some .int) ({ frames := 12, cells := 1, slots := 6, locals := 174 } : Room) h0 [.ref a0, .int xp1, .int xp2] (ql_rI Q) X 1 6 := by
  refine ql_ofW (by decide) (Nat.le_of_ble_eq_true rfl) ?_
  intro p e s m below meth c ls C hr hlocks hnm htab S hl
  have hl : lv_has ls 3 [(0, .ref a0), (1, .int xp1), (2, .int xp2)] := hl
  unfold qw_X11_deleteNote at w
  refine ql_aload_n (r := (some a0)) C dX11_deleteNote_0 rfl (lv_at hl 0 rfl) ?_
  refine ql_getR C S qf_12_3 gw_351 dX11_deleteNote_1 w (fun r1 w => ?_)
  refine ql_aload_n (r := (some a0)) C dX11_deleteNote_4 rfl (lv_at hl 0 rfl) ?_
  refine ql_getR C S qf_12_0 gw_348 dX11_deleteNote_5 w (fun r2 w => ?_)
  refine ql_VV (As := [va_rf r2]) (rest := []) C S htab hlocks hl qy_X6_open qi_X6_open qs_X6_open gw_386 (ci := 9) rfl w (fun b w => qm_X6_open l hl9 D _ b r2 _ _ w) rfl ⟨Nat.le_of_ble_eq_true rfl, Nat.le_of_ble_eq_true rfl⟩ ⟨rfl, rfl⟩ (by exact Nat.le_of_ble_eq_true rfl) (fun b e9 => by cases e9; rfl) dX11_deleteNote_8 ⟨Nat.le_of_ble_eq_true rfl, Nat.le_of_ble_eq_true rfl⟩ ⟨Nat.le_of_ble_eq_true rfl, Nat.le_of_ble_eq_true rfl⟩ (fun h H locs S w => ?_)
  refine W.cs (cells' := 0) (slots' := 0) rfl rfl ?_
  refine ql_aload_n (r := (some a0)) C dX11_deleteNote_11 rfl (lv_at hl 0 rfl) ?_
  refine ql_aload_n (r := (some a0)) C dX11_deleteNote_12 rfl (lv_at hl 0 rfl) ?_
  refine ql_getR C S qf_12_0 gw_348 dX11_deleteNote_13 w (fun r4 w => ?_)
  refine lv_iload_n C.1.1 C.1.2.1 dX11_deleteNote_16 rfl (lv_at hl 1 rfl) ?_
  refine lv_iload_n C.1.1 C.1.2.1 dX11_deleteNote_17 rfl (lv_at hl 2 rfl) ?_
  refine ql_VI (As := [.int xp1, .int xp2]) (rest := [.ref a0]) C S htab hlocks hl qy_X1_tryDelete qi_X1_tryDelete qs_X1_tryDelete gw_896 (ci := 4) rfl w (fun b w => qm_X1_tryDelete l hl9 D _ b xp1 xp2 _ _ w) rfl ⟨Nat.le_of_ble_eq_true rfl, Nat.le_of_ble_eq_true rfl⟩ ⟨rfl, rfl⟩ (by exact Nat.le_of_ble_eq_true rfl) (fun b e9 => by cases e9; rfl) dX11_deleteNote_18 ⟨Nat.le_of_ble_eq_true rfl, Nat.le_of_ble_eq_true rfl⟩ ⟨Nat.le_of_ble_eq_true rfl, Nat.le_of_ble_eq_true rfl⟩ (fun x5 h H locs S w => ?_)
  refine W.cs (cells' := 0) (slots' := 0) rfl rfl ?_
  refine ql_VI (As := [.int x5]) (rest := []) C S htab hlocks hl qy_X11_settle qi_X11_settle qs_X11_settle gw_481 (ci := 12) rfl w (fun b w => qm_X11_settle l hl9 D _ b x5 _ _ w) rfl ⟨Nat.le_of_ble_eq_true rfl, Nat.le_of_ble_eq_true rfl⟩ ⟨rfl, rfl⟩ (by exact Nat.le_of_ble_eq_true rfl) (fun b e9 => by cases e9; rfl) dX11_deleteNote_21 ⟨Nat.le_of_ble_eq_true rfl, Nat.le_of_ble_eq_true rfl⟩ ⟨Nat.le_of_ble_eq_true rfl, Nat.le_of_ble_eq_true rfl⟩ (fun x7 h H locs S w => ?_)
  refine W.cs (cells' := 1) (slots' := 6) rfl rfl ?_
  exact ql_iret C S hr hlocks dX11_deleteNote_24 ⟨Nat.le_of_ble_eq_true rfl, Nat.le_of_ble_eq_true rfl⟩ w
def qw_X11_setSunset (a0 : Nat) (xp1 : Int32) (xp2 : Int32) (h : ql_H) (Q : Int32 → ql_H → Prop) (X : String → ql_H → Prop) : Prop :=
ql_gR h (some a0) 12 3 fun r1 =>
ql_gR h (some a0) 12 0 fun r2 =>
ql_rv h r1 9 fun b2 => qw_X6_open b2 r2 h (fun h =>
ql_gR h (some a0) 12 0 fun r4 =>
ql_rv h r4 4 fun b5 => qw_X1_trySunset b5 xp1 xp2 h (fun x5 h =>
ql_rv h (some a0) 12 fun b7 => qw_X11_settle b7 x5 h (fun x7 h =>
Q x7 h) X))
set_option maxHeartbeats 4000000 in
set_option maxRecDepth 100000 in
theorem qm_X11_setSunset (l : Launch) (hl9 : l.stackTraces = false) (D : ql_D) (h0 : ql_H) (a0 : Nat) (xp1 : Int32) (xp2 : Int32) (Q : Int32 → ql_H → Prop) (X : String → ql_H → Prop) (w : qw_X11_setSunset a0 xp1 xp2 h0 Q X) : ql_M D l yX11_setSunset cX11_setSunset 3 (some .int) ({ frames := 12, cells := 1, slots := 6, locals := 158 } : Room) h0 [.ref a0, .int xp1, .int xp2] (ql_rI Q) X 1 6 := by
  refine ql_ofW (by decide) (Nat.le_of_ble_eq_true rfl) ?_
  intro p e s m below meth c ls C hr hlocks hnm htab S hl
  have hl : lv_has ls 3 [(0, .ref a0), (1, .int xp1), (2, .int xp2)] := hl
  unfold qw_X11_setSunset at w
  refine ql_aload_n (r := (some a0)) C dX11_setSunset_0 rfl (lv_at hl 0 rfl) ?_
  refine ql_getR C S qf_12_3 gw_351 dX11_setSunset_1 w (fun r1 w => ?_)
  refine ql_aload_n (r := (some a0)) C dX11_setSunset_4 rfl (lv_at hl 0 rfl) ?_
  refine ql_getR C S qf_12_0 gw_348 dX11_setSunset_5 w (fun r2 w => ?_)
  refine ql_VV (As := [va_rf r2]) (rest := []) C S htab hlocks hl qy_X6_open qi_X6_open qs_X6_open gw_386 (ci := 9) rfl w (fun b w => qm_X6_open l hl9 D _ b r2 _ _ w) rfl ⟨Nat.le_of_ble_eq_true rfl, Nat.le_of_ble_eq_true rfl⟩ ⟨rfl, rfl⟩ (by exact Nat.le_of_ble_eq_true rfl) (fun b e9 => by cases e9; rfl) dX11_setSunset_8 ⟨Nat.le_of_ble_eq_true rfl, Nat.le_of_ble_eq_true rfl⟩ ⟨Nat.le_of_ble_eq_true rfl, Nat.le_of_ble_eq_true rfl⟩ (fun h H locs S w => ?_)
  refine W.cs (cells' := 0) (slots' := 0) rfl rfl ?_
  refine ql_aload_n (r := (some a0)) C dX11_setSunset_11 rfl (lv_at hl 0 rfl) ?_
  refine ql_aload_n (r := (some a0)) C dX11_setSunset_12 rfl (lv_at hl 0 rfl) ?_
  refine ql_getR C S qf_12_0 gw_348 dX11_setSunset_13 w (fun r4 w => ?_)
  refine lv_iload_n C.1.1 C.1.2.1 dX11_setSunset_16 rfl (lv_at hl 1 rfl) ?_
  refine lv_iload_n C.1.1 C.1.2.1 dX11_setSunset_17 rfl (lv_at hl 2 rfl) ?_
  refine ql_VI (As := [.int xp1, .int xp2]) (rest := [.ref a0]) C S htab hlocks hl qy_X1_trySunset qi_X1_trySunset qs_X1_trySunset gw_908 (ci := 4) rfl w (fun b w => qm_X1_trySunset l hl9 D _ b xp1 xp2 _ _ w) rfl ⟨Nat.le_of_ble_eq_true rfl, Nat.le_of_ble_eq_true rfl⟩ ⟨rfl, rfl⟩ (by exact Nat.le_of_ble_eq_true rfl) (fun b e9 => by cases e9; rfl) dX11_setSunset_18 ⟨Nat.le_of_ble_eq_true rfl, Nat.le_of_ble_eq_true rfl⟩ ⟨Nat.le_of_ble_eq_true rfl, Nat.le_of_ble_eq_true rfl⟩ (fun x5 h H locs S w => ?_)
  refine W.cs (cells' := 0) (slots' := 0) rfl rfl ?_
  refine ql_VI (As := [.int x5]) (rest := []) C S htab hlocks hl qy_X11_settle qi_X11_settle qs_X11_settle gw_481 (ci := 12) rfl w (fun b w => qm_X11_settle l hl9 D _ b x5 _ _ w) rfl ⟨Nat.le_of_ble_eq_true rfl, Nat.le_of_ble_eq_true rfl⟩ ⟨rfl, rfl⟩ (by exact Nat.le_of_ble_eq_true rfl) (fun b e9 => by cases e9; rfl) dX11_setSunset_21 ⟨Nat.le_of_ble_eq_true rfl, Nat.le_of_ble_eq_true rfl⟩ ⟨Nat.le_of_ble_eq_true rfl, Nat.le_of_ble_eq_true rfl⟩ (fun x7 h H locs S w => ?_)
  refine W.cs (cells' := 1) (slots' := 6) rfl rfl ?_
  exact ql_iret C S hr hlocks dX11_setSunset_24 ⟨Nat.le_of_ble_eq_true rfl, Nat.le_of_ble_eq_true rfl⟩ w
def qw_X11_cite (a0 : Nat) (xp1 : Int32) (xp2 : Int32) (h : ql_H) (Q : Int32 → ql_H → Prop) (X : String → ql_H → Prop) : Prop :=
ql_gR h (some a0) 12 3 fun r1 =>
ql_gR h (some a0) 12 0 fun r2 =>
ql_rv h r1 9 fun b2 => qw_X6_open b2 r2 h (fun h =>
ql_gR h (some a0) 12 0 fun r4 =>
ql_rv h r4 4 fun b5 => qw_X1_tryCite b5 xp1 xp2 h (fun x5 h =>
ql_rv h (some a0) 12 fun b7 => qw_X11_settle b7 x5 h (fun x7 h =>
Q x7 h) X))
set_option maxHeartbeats 4000000 in
set_option maxRecDepth 100000 in
theorem qm_X11_cite (l : Launch) (hl9 : l.stackTraces = false) (D : ql_D) (h0 : ql_H) (a0 : Nat) (xp1 : Int32) (xp2 : Int32) (Q : Int32 → ql_H → Prop) (X : String → ql_H → Prop) (w : qw_X11_cite a0 xp1 xp2 h0 Q X) : ql_M D l yX11_cite cX11_cite 3 (some .int) ({ frames := 12, cells := 1, slots := 6, locals := 168 } : Room) h0 [.ref a0, .int xp1, .int xp2] (ql_rI Q) X 1 6 := by
  refine ql_ofW (by decide) (Nat.le_of_ble_eq_true rfl) ?_
  intro p e s m below meth c ls C hr hlocks hnm htab S hl
  have hl : lv_has ls 3 [(0, .ref a0), (1, .int xp1), (2, .int xp2)] := hl
  unfold qw_X11_cite at w
  refine ql_aload_n (r := (some a0)) C dX11_cite_0 rfl (lv_at hl 0 rfl) ?_
  refine ql_getR C S qf_12_3 gw_351 dX11_cite_1 w (fun r1 w => ?_)
  refine ql_aload_n (r := (some a0)) C dX11_cite_4 rfl (lv_at hl 0 rfl) ?_
  refine ql_getR C S qf_12_0 gw_348 dX11_cite_5 w (fun r2 w => ?_)
  refine ql_VV (As := [va_rf r2]) (rest := []) C S htab hlocks hl qy_X6_open qi_X6_open qs_X6_open gw_386 (ci := 9) rfl w (fun b w => qm_X6_open l hl9 D _ b r2 _ _ w) rfl ⟨Nat.le_of_ble_eq_true rfl, Nat.le_of_ble_eq_true rfl⟩ ⟨rfl, rfl⟩ (by exact Nat.le_of_ble_eq_true rfl) (fun b e9 => by cases e9; rfl) dX11_cite_8 ⟨Nat.le_of_ble_eq_true rfl, Nat.le_of_ble_eq_true rfl⟩ ⟨Nat.le_of_ble_eq_true rfl, Nat.le_of_ble_eq_true rfl⟩ (fun h H locs S w => ?_)
  refine W.cs (cells' := 0) (slots' := 0) rfl rfl ?_
  refine ql_aload_n (r := (some a0)) C dX11_cite_11 rfl (lv_at hl 0 rfl) ?_
  refine ql_aload_n (r := (some a0)) C dX11_cite_12 rfl (lv_at hl 0 rfl) ?_
  refine ql_getR C S qf_12_0 gw_348 dX11_cite_13 w (fun r4 w => ?_)
  refine lv_iload_n C.1.1 C.1.2.1 dX11_cite_16 rfl (lv_at hl 1 rfl) ?_
  refine lv_iload_n C.1.1 C.1.2.1 dX11_cite_17 rfl (lv_at hl 2 rfl) ?_
  refine ql_VI (As := [.int xp1, .int xp2]) (rest := [.ref a0]) C S htab hlocks hl qy_X1_tryCite qi_X1_tryCite qs_X1_tryCite gw_919 (ci := 4) rfl w (fun b w => qm_X1_tryCite l hl9 D _ b xp1 xp2 _ _ w) rfl ⟨Nat.le_of_ble_eq_true rfl, Nat.le_of_ble_eq_true rfl⟩ ⟨rfl, rfl⟩ (by exact Nat.le_of_ble_eq_true rfl) (fun b e9 => by cases e9; rfl) dX11_cite_18 ⟨Nat.le_of_ble_eq_true rfl, Nat.le_of_ble_eq_true rfl⟩ ⟨Nat.le_of_ble_eq_true rfl, Nat.le_of_ble_eq_true rfl⟩ (fun x5 h H locs S w => ?_)
  refine W.cs (cells' := 0) (slots' := 0) rfl rfl ?_
  refine ql_VI (As := [.int x5]) (rest := []) C S htab hlocks hl qy_X11_settle qi_X11_settle qs_X11_settle gw_481 (ci := 12) rfl w (fun b w => qm_X11_settle l hl9 D _ b x5 _ _ w) rfl ⟨Nat.le_of_ble_eq_true rfl, Nat.le_of_ble_eq_true rfl⟩ ⟨rfl, rfl⟩ (by exact Nat.le_of_ble_eq_true rfl) (fun b e9 => by cases e9; rfl) dX11_cite_21 ⟨Nat.le_of_ble_eq_true rfl, Nat.le_of_ble_eq_true rfl⟩ ⟨Nat.le_of_ble_eq_true rfl, Nat.le_of_ble_eq_true rfl⟩ (fun x7 h H locs S w => ?_)
  refine W.cs (cells' := 1) (slots' := 6) rfl rfl ?_
  exact ql_iret C S hr hlocks dX11_cite_24 ⟨Nat.le_of_ble_eq_true rfl, Nat.le_of_ble_eq_true rfl⟩ w
def qw_X11_uncite (a0 : Nat) (xp1 : Int32) (xp2 : Int32) (h : ql_H) (Q : Int32 → ql_H → Prop) (X : String → ql_H → Prop) : Prop :=
ql_gR h (some a0) 12 3 fun r1 =>
ql_gR h (some a0) 12 0 fun r2 =>
ql_rv h r1 9 fun b2 => qw_X6_open b2 r2 h (fun h =>
ql_gR h (some a0) 12 0 fun r4 =>
ql_rv h r4 4 fun b5 => qw_X1_tryUncite b5 xp1 xp2 h (fun x5 h =>
ql_rv h (some a0) 12 fun b7 => qw_X11_settle b7 x5 h (fun x7 h =>
Q x7 h) X))
set_option maxHeartbeats 4000000 in
set_option maxRecDepth 100000 in
theorem qm_X11_uncite (l : Launch) (hl9 : l.stackTraces = false) (D : ql_D) (h0 : ql_H) (a0 : Nat) (xp1 : Int32) (xp2 : Int32) (Q : Int32 → ql_H → Prop) (X : String → ql_H → Prop) (w : qw_X11_uncite a0 xp1 xp2 h0 Q X) : ql_M D l yX11_uncite cX11_uncite 3 (some .int) ({ frames := 12, cells := 1, slots := 6, locals := 170 } : Room) h0 [.ref a0, .int xp1, .int xp2] (ql_rI Q) X 1 6 := by
  refine ql_ofW (by decide) (Nat.le_of_ble_eq_true rfl) ?_
  intro p e s m below meth c ls C hr hlocks hnm htab S hl
  have hl : lv_has ls 3 [(0, .ref a0), (1, .int xp1), (2, .int xp2)] := hl
  unfold qw_X11_uncite at w
  refine ql_aload_n (r := (some a0)) C dX11_uncite_0 rfl (lv_at hl 0 rfl) ?_
  refine ql_getR C S qf_12_3 gw_351 dX11_uncite_1 w (fun r1 w => ?_)
  refine ql_aload_n (r := (some a0)) C dX11_uncite_4 rfl (lv_at hl 0 rfl) ?_
  refine ql_getR C S qf_12_0 gw_348 dX11_uncite_5 w (fun r2 w => ?_)
  refine ql_VV (As := [va_rf r2]) (rest := []) C S htab hlocks hl qy_X6_open qi_X6_open qs_X6_open gw_386 (ci := 9) rfl w (fun b w => qm_X6_open l hl9 D _ b r2 _ _ w) rfl ⟨Nat.le_of_ble_eq_true rfl, Nat.le_of_ble_eq_true rfl⟩ ⟨rfl, rfl⟩ (by exact Nat.le_of_ble_eq_true rfl) (fun b e9 => by cases e9; rfl) dX11_uncite_8 ⟨Nat.le_of_ble_eq_true rfl, Nat.le_of_ble_eq_true rfl⟩ ⟨Nat.le_of_ble_eq_true rfl, Nat.le_of_ble_eq_true rfl⟩ (fun h H locs S w => ?_)
  refine W.cs (cells' := 0) (slots' := 0) rfl rfl ?_
  refine ql_aload_n (r := (some a0)) C dX11_uncite_11 rfl (lv_at hl 0 rfl) ?_
  refine ql_aload_n (r := (some a0)) C dX11_uncite_12 rfl (lv_at hl 0 rfl) ?_
  refine ql_getR C S qf_12_0 gw_348 dX11_uncite_13 w (fun r4 w => ?_)
  refine lv_iload_n C.1.1 C.1.2.1 dX11_uncite_16 rfl (lv_at hl 1 rfl) ?_
  refine lv_iload_n C.1.1 C.1.2.1 dX11_uncite_17 rfl (lv_at hl 2 rfl) ?_
  refine ql_VI (As := [.int xp1, .int xp2]) (rest := [.ref a0]) C S htab hlocks hl qy_X1_tryUncite qi_X1_tryUncite qs_X1_tryUncite gw_938 (ci := 4) rfl w (fun b w => qm_X1_tryUncite l hl9 D _ b xp1 xp2 _ _ w) rfl ⟨Nat.le_of_ble_eq_true rfl, Nat.le_of_ble_eq_true rfl⟩ ⟨rfl, rfl⟩ (by exact Nat.le_of_ble_eq_true rfl) (fun b e9 => by cases e9; rfl) dX11_uncite_18 ⟨Nat.le_of_ble_eq_true rfl, Nat.le_of_ble_eq_true rfl⟩ ⟨Nat.le_of_ble_eq_true rfl, Nat.le_of_ble_eq_true rfl⟩ (fun x5 h H locs S w => ?_)
  refine W.cs (cells' := 0) (slots' := 0) rfl rfl ?_
  refine ql_VI (As := [.int x5]) (rest := []) C S htab hlocks hl qy_X11_settle qi_X11_settle qs_X11_settle gw_481 (ci := 12) rfl w (fun b w => qm_X11_settle l hl9 D _ b x5 _ _ w) rfl ⟨Nat.le_of_ble_eq_true rfl, Nat.le_of_ble_eq_true rfl⟩ ⟨rfl, rfl⟩ (by exact Nat.le_of_ble_eq_true rfl) (fun b e9 => by cases e9; rfl) dX11_uncite_21 ⟨Nat.le_of_ble_eq_true rfl, Nat.le_of_ble_eq_true rfl⟩ ⟨Nat.le_of_ble_eq_true rfl, Nat.le_of_ble_eq_true rfl⟩ (fun x7 h H locs S w => ?_)
  refine W.cs (cells' := 1) (slots' := 6) rfl rfl ?_
  exact ql_iret C S hr hlocks dX11_uncite_24 ⟨Nat.le_of_ble_eq_true rfl, Nat.le_of_ble_eq_true rfl⟩ w
def qw_X11_repeal (a0 : Nat) (xp1 : Int32) (h : ql_H) (Q : Int32 → ql_H → Prop) (X : String → ql_H → Prop) : Prop :=
ql_gR h (some a0) 12 3 fun r1 =>
ql_gR h (some a0) 12 0 fun r2 =>
ql_rv h r1 9 fun b2 => qw_X6_open b2 r2 h (fun h =>
ql_gR h (some a0) 12 0 fun r4 =>
ql_rv h r4 4 fun b5 => qw_X1_tryRepeal b5 xp1 h (fun x5 h =>
ql_rv h (some a0) 12 fun b7 => qw_X11_settle b7 x5 h (fun x7 h =>
Q x7 h) X))
set_option maxHeartbeats 4000000 in
set_option maxRecDepth 100000 in
theorem qm_X11_repeal (l : Launch) (hl9 : l.stackTraces = false) (D : ql_D) (h0 : ql_H) (a0 : Nat) (xp1 : Int32) (Q : Int32 → ql_H → Prop) (X : String → ql_H → Prop) (w : qw_X11_repeal a0 xp1 h0 Q X) : ql_M D l yX11_repeal cX11_repeal 2 (some .int) ({ frames := 12, cells := 1, slots := 6, locals := 158 } : Room) h0 [.ref a0, .int xp1] (ql_rI Q) X 1 6 := by
  refine ql_ofW (by decide) (Nat.le_of_ble_eq_true rfl) ?_
  intro p e s m below meth c ls C hr hlocks hnm htab S hl
  have hl : lv_has ls 2 [(0, .ref a0), (1, .int xp1)] := hl
  unfold qw_X11_repeal at w
  refine ql_aload_n (r := (some a0)) C dX11_repeal_0 rfl (lv_at hl 0 rfl) ?_
  refine ql_getR C S qf_12_3 gw_351 dX11_repeal_1 w (fun r1 w => ?_)
  refine ql_aload_n (r := (some a0)) C dX11_repeal_4 rfl (lv_at hl 0 rfl) ?_
  refine ql_getR C S qf_12_0 gw_348 dX11_repeal_5 w (fun r2 w => ?_)
  refine ql_VV (As := [va_rf r2]) (rest := []) C S htab hlocks hl qy_X6_open qi_X6_open qs_X6_open gw_386 (ci := 9) rfl w (fun b w => qm_X6_open l hl9 D _ b r2 _ _ w) rfl ⟨Nat.le_of_ble_eq_true rfl, Nat.le_of_ble_eq_true rfl⟩ ⟨rfl, rfl⟩ (by exact Nat.le_of_ble_eq_true rfl) (fun b e9 => by cases e9; rfl) dX11_repeal_8 ⟨Nat.le_of_ble_eq_true rfl, Nat.le_of_ble_eq_true rfl⟩ ⟨Nat.le_of_ble_eq_true rfl, Nat.le_of_ble_eq_true rfl⟩ (fun h H locs S w => ?_)
  refine W.cs (cells' := 0) (slots' := 0) rfl rfl ?_
  refine ql_aload_n (r := (some a0)) C dX11_repeal_11 rfl (lv_at hl 0 rfl) ?_
  refine ql_aload_n (r := (some a0)) C dX11_repeal_12 rfl (lv_at hl 0 rfl) ?_
  refine ql_getR C S qf_12_0 gw_348 dX11_repeal_13 w (fun r4 w => ?_)
  refine lv_iload_n C.1.1 C.1.2.1 dX11_repeal_16 rfl (lv_at hl 1 rfl) ?_
  refine ql_VI (As := [.int xp1]) (rest := [.ref a0]) C S htab hlocks hl qy_X1_tryRepeal qi_X1_tryRepeal qs_X1_tryRepeal gw_949 (ci := 4) rfl w (fun b w => qm_X1_tryRepeal l hl9 D _ b xp1 _ _ w) rfl ⟨Nat.le_of_ble_eq_true rfl, Nat.le_of_ble_eq_true rfl⟩ ⟨rfl, rfl⟩ (by exact Nat.le_of_ble_eq_true rfl) (fun b e9 => by cases e9; rfl) dX11_repeal_17 ⟨Nat.le_of_ble_eq_true rfl, Nat.le_of_ble_eq_true rfl⟩ ⟨Nat.le_of_ble_eq_true rfl, Nat.le_of_ble_eq_true rfl⟩ (fun x5 h H locs S w => ?_)
  refine W.cs (cells' := 0) (slots' := 0) rfl rfl ?_
  refine ql_VI (As := [.int x5]) (rest := []) C S htab hlocks hl qy_X11_settle qi_X11_settle qs_X11_settle gw_481 (ci := 12) rfl w (fun b w => qm_X11_settle l hl9 D _ b x5 _ _ w) rfl ⟨Nat.le_of_ble_eq_true rfl, Nat.le_of_ble_eq_true rfl⟩ ⟨rfl, rfl⟩ (by exact Nat.le_of_ble_eq_true rfl) (fun b e9 => by cases e9; rfl) dX11_repeal_20 ⟨Nat.le_of_ble_eq_true rfl, Nat.le_of_ble_eq_true rfl⟩ ⟨Nat.le_of_ble_eq_true rfl, Nat.le_of_ble_eq_true rfl⟩ (fun x7 h H locs S w => ?_)
  refine W.cs (cells' := 1) (slots' := 6) rfl rfl ?_
  exact ql_iret C S hr hlocks dX11_repeal_23 ⟨Nat.le_of_ble_eq_true rfl, Nat.le_of_ble_eq_true rfl⟩ w
def qw_X11_consolidate (a0 : Nat) (h : ql_H) (Q : Int32 → ql_H → Prop) (X : String → ql_H → Prop) : Prop :=
ql_gR h (some a0) 12 3 fun r1 =>
ql_gR h (some a0) 12 0 fun r2 =>
ql_rv h r1 9 fun b2 => qw_X6_open b2 r2 h (fun h =>
ql_gR h (some a0) 12 0 fun r4 =>
ql_rv h r4 4 fun b5 => qw_X1_makeEdition b5  h (fun x5 h =>
ql_rv h (some a0) 12 fun b7 => qw_X11_settle b7 x5 h (fun x7 h =>
Q x7 h) X))
set_option maxHeartbeats 4000000 in
set_option maxRecDepth 100000 in
theorem qm_X11_consolidate (l : Launch) (hl9 : l.stackTraces = false) (D : ql_D) (h0 : ql_H) (a0 : Nat) (Q : Int32 → ql_H → Prop) (X : String → ql_H → Prop) (w : qw_X11_consolidate a0 h0 Q X) : ql_M D l yX11_consolidate cX11_consolidate 1 (some .int) ({ frames := 12, cells := 1, slots := 6, locals := 202 } : Room) h0 [.ref a0] (ql_rI Q) X 1 6 := by
  refine ql_ofW (by decide) (Nat.le_of_ble_eq_true rfl) ?_
  intro p e s m below meth c ls C hr hlocks hnm htab S hl
  have hl : lv_has ls 1 [(0, .ref a0)] := hl
  unfold qw_X11_consolidate at w
  refine ql_aload_n (r := (some a0)) C dX11_consolidate_0 rfl (lv_at hl 0 rfl) ?_
  refine ql_getR C S qf_12_3 gw_351 dX11_consolidate_1 w (fun r1 w => ?_)
  refine ql_aload_n (r := (some a0)) C dX11_consolidate_4 rfl (lv_at hl 0 rfl) ?_
  refine ql_getR C S qf_12_0 gw_348 dX11_consolidate_5 w (fun r2 w => ?_)
  refine ql_VV (As := [va_rf r2]) (rest := []) C S htab hlocks hl qy_X6_open qi_X6_open qs_X6_open gw_386 (ci := 9) rfl w (fun b w => qm_X6_open l hl9 D _ b r2 _ _ w) rfl ⟨Nat.le_of_ble_eq_true rfl, Nat.le_of_ble_eq_true rfl⟩ ⟨rfl, rfl⟩ (by exact Nat.le_of_ble_eq_true rfl) (fun b e9 => by cases e9; rfl) dX11_consolidate_8 ⟨Nat.le_of_ble_eq_true rfl, Nat.le_of_ble_eq_true rfl⟩ ⟨Nat.le_of_ble_eq_true rfl, Nat.le_of_ble_eq_true rfl⟩ (fun h H locs S w => ?_)
  refine W.cs (cells' := 0) (slots' := 0) rfl rfl ?_
  refine ql_aload_n (r := (some a0)) C dX11_consolidate_11 rfl (lv_at hl 0 rfl) ?_
  refine ql_aload_n (r := (some a0)) C dX11_consolidate_12 rfl (lv_at hl 0 rfl) ?_
  refine ql_getR C S qf_12_0 gw_348 dX11_consolidate_13 w (fun r4 w => ?_)
  refine ql_VI (As := []) (rest := [.ref a0]) C S htab hlocks hl qy_X1_makeEdition qi_X1_makeEdition qs_X1_makeEdition gw_402 (ci := 4) rfl w (fun b w => qm_X1_makeEdition l hl9 D _ b _ _ w) rfl ⟨Nat.le_of_ble_eq_true rfl, Nat.le_of_ble_eq_true rfl⟩ ⟨rfl, rfl⟩ (by exact Nat.le_of_ble_eq_true rfl) (fun b e9 => by cases e9; rfl) dX11_consolidate_16 ⟨Nat.le_of_ble_eq_true rfl, Nat.le_of_ble_eq_true rfl⟩ ⟨Nat.le_of_ble_eq_true rfl, Nat.le_of_ble_eq_true rfl⟩ (fun x5 h H locs S w => ?_)
  refine W.cs (cells' := 0) (slots' := 0) rfl rfl ?_
  refine ql_VI (As := [.int x5]) (rest := []) C S htab hlocks hl qy_X11_settle qi_X11_settle qs_X11_settle gw_481 (ci := 12) rfl w (fun b w => qm_X11_settle l hl9 D _ b x5 _ _ w) rfl ⟨Nat.le_of_ble_eq_true rfl, Nat.le_of_ble_eq_true rfl⟩ ⟨rfl, rfl⟩ (by exact Nat.le_of_ble_eq_true rfl) (fun b e9 => by cases e9; rfl) dX11_consolidate_19 ⟨Nat.le_of_ble_eq_true rfl, Nat.le_of_ble_eq_true rfl⟩ ⟨Nat.le_of_ble_eq_true rfl, Nat.le_of_ble_eq_true rfl⟩ (fun x7 h H locs S w => ?_)
  refine W.cs (cells' := 1) (slots' := 6) rfl rfl ?_
  exact ql_iret C S hr hlocks dX11_consolidate_22 ⟨Nat.le_of_ble_eq_true rfl, Nat.le_of_ble_eq_true rfl⟩ w
def qw_X11_advance (a0 : Nat) (xp1 : Int32) (h : ql_H) (Q : Int32 → ql_H → Prop) (X : String → ql_H → Prop) : Prop :=
ql_gR h (some a0) 12 3 fun r1 =>
ql_gR h (some a0) 12 0 fun r2 =>
ql_rv h r1 9 fun b2 => qw_X6_open b2 r2 h (fun h =>
ql_gR h (some a0) 12 0 fun r4 =>
ql_rv h r4 4 fun b5 => qw_X1_tryAdvance b5 xp1 h (fun x5 h =>
ql_rv h (some a0) 12 fun b7 => qw_X11_settle b7 x5 h (fun x7 h =>
Q x7 h) X))
set_option maxHeartbeats 4000000 in
set_option maxRecDepth 100000 in
theorem qm_X11_advance (l : Launch) (hl9 : l.stackTraces = false) (D : ql_D) (h0 : ql_H) (a0 : Nat) (xp1 : Int32) (Q : Int32 → ql_H → Prop) (X : String → ql_H → Prop) (w : qw_X11_advance a0 xp1 h0 Q X) : ql_M D l yX11_advance cX11_advance 2 (some .int) ({ frames := 12, cells := 1, slots := 6, locals := 168 } : Room) h0 [.ref a0, .int xp1] (ql_rI Q) X 1 6 := by
  refine ql_ofW (by decide) (Nat.le_of_ble_eq_true rfl) ?_
  intro p e s m below meth c ls C hr hlocks hnm htab S hl
  have hl : lv_has ls 2 [(0, .ref a0), (1, .int xp1)] := hl
  unfold qw_X11_advance at w
  refine ql_aload_n (r := (some a0)) C dX11_advance_0 rfl (lv_at hl 0 rfl) ?_
  refine ql_getR C S qf_12_3 gw_351 dX11_advance_1 w (fun r1 w => ?_)
  refine ql_aload_n (r := (some a0)) C dX11_advance_4 rfl (lv_at hl 0 rfl) ?_
  refine ql_getR C S qf_12_0 gw_348 dX11_advance_5 w (fun r2 w => ?_)
  refine ql_VV (As := [va_rf r2]) (rest := []) C S htab hlocks hl qy_X6_open qi_X6_open qs_X6_open gw_386 (ci := 9) rfl w (fun b w => qm_X6_open l hl9 D _ b r2 _ _ w) rfl ⟨Nat.le_of_ble_eq_true rfl, Nat.le_of_ble_eq_true rfl⟩ ⟨rfl, rfl⟩ (by exact Nat.le_of_ble_eq_true rfl) (fun b e9 => by cases e9; rfl) dX11_advance_8 ⟨Nat.le_of_ble_eq_true rfl, Nat.le_of_ble_eq_true rfl⟩ ⟨Nat.le_of_ble_eq_true rfl, Nat.le_of_ble_eq_true rfl⟩ (fun h H locs S w => ?_)
  refine W.cs (cells' := 0) (slots' := 0) rfl rfl ?_
  refine ql_aload_n (r := (some a0)) C dX11_advance_11 rfl (lv_at hl 0 rfl) ?_
  refine ql_aload_n (r := (some a0)) C dX11_advance_12 rfl (lv_at hl 0 rfl) ?_
  refine ql_getR C S qf_12_0 gw_348 dX11_advance_13 w (fun r4 w => ?_)
  refine lv_iload_n C.1.1 C.1.2.1 dX11_advance_16 rfl (lv_at hl 1 rfl) ?_
  refine ql_VI (As := [.int xp1]) (rest := [.ref a0]) C S htab hlocks hl qy_X1_tryAdvance qi_X1_tryAdvance qs_X1_tryAdvance gw_961 (ci := 4) rfl w (fun b w => qm_X1_tryAdvance l hl9 D _ b xp1 _ _ w) rfl ⟨Nat.le_of_ble_eq_true rfl, Nat.le_of_ble_eq_true rfl⟩ ⟨rfl, rfl⟩ (by exact Nat.le_of_ble_eq_true rfl) (fun b e9 => by cases e9; rfl) dX11_advance_17 ⟨Nat.le_of_ble_eq_true rfl, Nat.le_of_ble_eq_true rfl⟩ ⟨Nat.le_of_ble_eq_true rfl, Nat.le_of_ble_eq_true rfl⟩ (fun x5 h H locs S w => ?_)
  refine W.cs (cells' := 0) (slots' := 0) rfl rfl ?_
  refine ql_VI (As := [.int x5]) (rest := []) C S htab hlocks hl qy_X11_settle qi_X11_settle qs_X11_settle gw_481 (ci := 12) rfl w (fun b w => qm_X11_settle l hl9 D _ b x5 _ _ w) rfl ⟨Nat.le_of_ble_eq_true rfl, Nat.le_of_ble_eq_true rfl⟩ ⟨rfl, rfl⟩ (by exact Nat.le_of_ble_eq_true rfl) (fun b e9 => by cases e9; rfl) dX11_advance_20 ⟨Nat.le_of_ble_eq_true rfl, Nat.le_of_ble_eq_true rfl⟩ ⟨Nat.le_of_ble_eq_true rfl, Nat.le_of_ble_eq_true rfl⟩ (fun x7 h H locs S w => ?_)
  refine W.cs (cells' := 1) (slots' := 6) rfl rfl ?_
  exact ql_iret C S hr hlocks dX11_advance_23 ⟨Nat.le_of_ble_eq_true rfl, Nat.le_of_ble_eq_true rfl⟩ w
def qw_X11_day (a0 : Nat) (h : ql_H) (Q : Int32 → ql_H → Prop) : Prop :=
ql_gR h (some a0) 12 0 fun r1 =>
ql_gI h r1 4 2 fun x2 =>
Q x2 h
set_option maxHeartbeats 4000000 in
set_option maxRecDepth 100000 in
theorem qm_X11_day (l : Launch) (hl9 : l.stackTraces = false) (D : ql_D) (h0 : ql_H) (a0 : Nat) (Q : Int32 → ql_H → Prop) (X : String → ql_H → Prop) (w : qw_X11_day a0 h0 Q) : ql_M D l yX11_day cX11_day 1 (some .int) ({ frames := 2, cells := 0, slots := 0, locals := 48 } : Room) h0 [.ref a0] (ql_rI Q) X 0 0 := by
  refine ql_ofW (by decide) (Nat.le_of_ble_eq_true rfl) ?_
  intro p e s m below meth c ls C hr hlocks hnm htab S hl
  have hl : lv_has ls 1 [(0, .ref a0)] := hl
  unfold qw_X11_day at w
  refine ql_aload_n (r := (some a0)) C dX11_day_0 rfl (lv_at hl 0 rfl) ?_
  refine ql_getR C S qf_12_0 gw_348 dX11_day_1 w (fun r1 w => ?_)
  refine ql_getIN C S qf_4_2 (qn_RX11_136) dX11_day_4 w (fun x2 w => ?_)
  exact ql_iret C S hr hlocks dX11_day_7 ⟨Nat.le_of_ble_eq_true rfl, Nat.le_of_ble_eq_true rfl⟩ w
def qw_X11_clauseCount (a0 : Nat) (h : ql_H) (Q : Int32 → ql_H → Prop) : Prop :=
ql_gR h (some a0) 12 0 fun r1 =>
ql_rv h r1 4 fun b2 => qw_X1_countClauses b2  h (fun x2 h =>
Q x2 h)
set_option maxHeartbeats 4000000 in
set_option maxRecDepth 100000 in
theorem qm_X11_clauseCount (l : Launch) (hl9 : l.stackTraces = false) (D : ql_D) (h0 : ql_H) (a0 : Nat) (Q : Int32 → ql_H → Prop) (X : String → ql_H → Prop) (w : qw_X11_clauseCount a0 h0 Q) : ql_M D l yX11_clauseCount cX11_clauseCount 1 (some .int) ({ frames := 4, cells := 0, slots := 0, locals := 81 } : Room) h0 [.ref a0] (ql_rI Q) X 0 0 := by
  refine ql_ofW (by decide) (Nat.le_of_ble_eq_true rfl) ?_
  intro p e s m below meth c ls C hr hlocks hnm htab S hl
  have hl : lv_has ls 1 [(0, .ref a0)] := hl
  unfold qw_X11_clauseCount at w
  refine ql_aload_n (r := (some a0)) C dX11_clauseCount_0 rfl (lv_at hl 0 rfl) ?_
  refine ql_getR C S qf_12_0 gw_348 dX11_clauseCount_1 w (fun r1 w => ?_)
  refine ql_VI (As := []) (rest := []) C S htab hlocks hl qy_X1_countClauses qi_X1_countClauses qs_X1_countClauses gw_633 (ci := 4) rfl w (fun b w => qm_X1_countClauses l hl9 D _ b _ _ w) rfl ⟨Nat.le_of_ble_eq_true rfl, Nat.le_of_ble_eq_true rfl⟩ ⟨rfl, rfl⟩ (by exact Nat.le_of_ble_eq_true rfl) (fun b e9 => by cases e9; rfl) dX11_clauseCount_4 ⟨Nat.le_of_ble_eq_true rfl, Nat.le_of_ble_eq_true rfl⟩ ⟨Nat.le_of_ble_eq_true rfl, Nat.le_of_ble_eq_true rfl⟩ (fun x2 h H locs S w => ?_)
  refine W.cs (cells' := 0) (slots' := 0) rfl rfl ?_
  exact ql_iret C S hr hlocks dX11_clauseCount_7 ⟨Nat.le_of_ble_eq_true rfl, Nat.le_of_ble_eq_true rfl⟩ w
def qw_X11_existing (rp0 : Option Nat) (h : ql_H) (Q : Option Nat → ql_H → Prop) (X : String → ql_H → Prop) : Prop :=
if rp0 = none then (∀ n9 : Nat, h.1 ≤ n9 → X "java/util/NoSuchElementException" (n9, h.2)) else (Q rp0 h)
set_option maxHeartbeats 4000000 in
set_option maxRecDepth 100000 in
theorem qm_X11_existing (l : Launch) (hl9 : l.stackTraces = false) (D : ql_D) (h0 : ql_H) (rp0 : Option Nat) (Q : Option Nat → ql_H → Prop) (X : String → ql_H → Prop) (w : qw_X11_existing rp0 h0 Q X) : ql_M D l yX11_existing cX11_existing 1 (some (.object "ClauseLedger$Clause")) ({ frames := 8, cells := 1, slots := 6, locals := 101 } : Room) h0 [va_rf rp0] (ql_rR Q) X 1 6 := by
  refine ql_ofW (by decide) (by cases rp0 <;> exact Nat.le_of_ble_eq_true rfl) ?_
  intro p e s m below meth c ls C hr hlocks hnm htab S hl
  rw [show lv_args 0 [va_rf rp0] = [(0, va_rf rp0)] from by cases rp0 <;> rfl] at hl
  unfold qw_X11_existing at w
  refine ql_aload_n (r := rp0) C dX11_existing_0 rfl (lv_at hl 0 rfl) ?_
  refine ql_ifnonnull (tgt := 12) C dX11_existing_1 (by decide) (fun c9 => ?_) (fun c9 => ?_)
  · replace w := ql_ifn w c9
    refine ql_aload_n (r := rp0) C dX11_existing_12 rfl (lv_at hl 0 rfl) ?_
    exact ql_aret C S hr hlocks dX11_existing_13 ⟨Nat.le_of_ble_eq_true rfl, Nat.le_of_ble_eq_true rfl⟩ w
  · replace w := ql_if w c9
    exact ql_throw trivial C S qx_RX11_123 gw_488 gw_92 hl htab hlocks hl9 dX11_existing_4 dX11_existing_7 dX11_existing_8 dX11_existing_11 ⟨Nat.le_of_ble_eq_true rfl, Nat.le_of_ble_eq_true rfl, Nat.le_of_ble_eq_true rfl⟩ (by exact Nat.le_of_ble_eq_true rfl) ⟨Nat.le_of_ble_eq_true rfl, Nat.le_of_ble_eq_true rfl⟩ w
def qw_X11_clauseAt (a0 : Nat) (xp1 : Int32) (h : ql_H) (Q : Int32 → ql_H → Prop) (X : String → ql_H → Prop) : Prop :=
ql_gR h (some a0) 12 0 fun r1 =>
ql_rv h r1 4 fun b2 => qw_X1_clauseAtRank b2 xp1 h (fun r2 h =>
qw_X11_existing r2 h (fun r4 h =>
ql_gI h r4 6 1 fun x5 =>
Q x5 h) X)
set_option maxHeartbeats 4000000 in
set_option maxRecDepth 100000 in
theorem qm_X11_clauseAt (l : Launch) (hl9 : l.stackTraces = false) (D : ql_D) (h0 : ql_H) (a0 : Nat) (xp1 : Int32) (Q : Int32 → ql_H → Prop) (X : String → ql_H → Prop) (w : qw_X11_clauseAt a0 xp1 h0 Q X) : ql_M D l yX11_clauseAt cX11_clauseAt 2 (some .int) ({ frames := 10, cells := 1, slots := 6, locals := 129 } : Room) h0 [.ref a0, .int xp1] (ql_rI Q) X 1 6 := by
  refine ql_ofW (by decide) (Nat.le_of_ble_eq_true rfl) ?_
  intro p e s m below meth c ls C hr hlocks hnm htab S hl
  have hl : lv_has ls 2 [(0, .ref a0), (1, .int xp1)] := hl
  unfold qw_X11_clauseAt at w
  refine ql_aload_n (r := (some a0)) C dX11_clauseAt_0 rfl (lv_at hl 0 rfl) ?_
  refine ql_getR C S qf_12_0 gw_348 dX11_clauseAt_1 w (fun r1 w => ?_)
  refine lv_iload_n C.1.1 C.1.2.1 dX11_clauseAt_4 rfl (lv_at hl 1 rfl) ?_
  refine ql_VR (As := [.int xp1]) (rest := []) C S htab hlocks hl qy_X1_clauseAtRank qi_X1_clauseAtRank qs_X1_clauseAtRank gw_976 (ci := 4) rfl w (fun b w => qm_X1_clauseAtRank l hl9 D _ b xp1 _ _ w) rfl ⟨Nat.le_of_ble_eq_true rfl, Nat.le_of_ble_eq_true rfl⟩ ⟨rfl, rfl⟩ (by exact Nat.le_of_ble_eq_true rfl) (fun b e9 => by cases e9; rfl) dX11_clauseAt_5 ⟨Nat.le_of_ble_eq_true rfl, Nat.le_of_ble_eq_true rfl⟩ ⟨Nat.le_of_ble_eq_true rfl, Nat.le_of_ble_eq_true rfl⟩ (fun r2 h H locs S w => ?_)
  refine W.cs (cells' := 0) (slots' := 0) rfl rfl ?_
  refine ql_SR (As := [va_rf r2]) (rest := []) C S htab hlocks hl qy_X11_existing qi_X11_existing gw_977 (qm_X11_existing l hl9 D _ r2 _ _ w) rfl ⟨Nat.le_of_ble_eq_true rfl, Nat.le_of_ble_eq_true rfl⟩ ⟨rfl, rfl⟩ (by exact Nat.le_of_ble_eq_true rfl) rfl dX11_clauseAt_8 ⟨Nat.le_of_ble_eq_true rfl, Nat.le_of_ble_eq_true rfl⟩ ⟨Nat.le_of_ble_eq_true rfl, Nat.le_of_ble_eq_true rfl⟩ (fun r4 h H locs S w => ?_)
  refine W.cs (cells' := 1) (slots' := 6) rfl rfl ?_
  refine ql_getIN C S qf_6_1 (qn_RX11_150) dX11_clauseAt_11 w (fun x5 w => ?_)
  exact ql_iret C S hr hlocks dX11_clauseAt_14 ⟨Nat.le_of_ble_eq_true rfl, Nat.le_of_ble_eq_true rfl⟩ w
def qw_X11_clauseOfSection (a0 : Nat) (xp1 : Int32) (h : ql_H) (Q : Int32 → ql_H → Prop) (X : String → ql_H → Prop) : Prop :=
ql_gR h (some a0) 12 0 fun r1 =>
ql_rv h r1 4 fun b2 => qw_X1_clauseWithSection b2 xp1 h (fun r2 h =>
qw_X11_existing r2 h (fun r4 h =>
ql_gI h r4 6 1 fun x5 =>
Q x5 h) X)
set_option maxHeartbeats 4000000 in
set_option maxRecDepth 100000 in
theorem qm_X11_clauseOfSection (l : Launch) (hl9 : l.stackTraces = false) (D : ql_D) (h0 : ql_H) (a0 : Nat) (xp1 : Int32) (Q : Int32 → ql_H → Prop) (X : String → ql_H → Prop) (w : qw_X11_clauseOfSection a0 xp1 h0 Q X) : ql_M D l yX11_clauseOfSection cX11_clauseOfSection 2 (some .int) ({ frames := 10, cells := 1, slots := 6, locals := 129 } : Room) h0 [.ref a0, .int xp1] (ql_rI Q) X 1 6 := by
  refine ql_ofW (by decide) (Nat.le_of_ble_eq_true rfl) ?_
  intro p e s m below meth c ls C hr hlocks hnm htab S hl
  have hl : lv_has ls 2 [(0, .ref a0), (1, .int xp1)] := hl
  unfold qw_X11_clauseOfSection at w
  refine ql_aload_n (r := (some a0)) C dX11_clauseOfSection_0 rfl (lv_at hl 0 rfl) ?_
  refine ql_getR C S qf_12_0 gw_348 dX11_clauseOfSection_1 w (fun r1 w => ?_)
  refine lv_iload_n C.1.1 C.1.2.1 dX11_clauseOfSection_4 rfl (lv_at hl 1 rfl) ?_
  refine ql_VR (As := [.int xp1]) (rest := []) C S htab hlocks hl qy_X1_clauseWithSection qi_X1_clauseWithSection qs_X1_clauseWithSection gw_987 (ci := 4) rfl w (fun b w => qm_X1_clauseWithSection l hl9 D _ b xp1 _ _ w) rfl ⟨Nat.le_of_ble_eq_true rfl, Nat.le_of_ble_eq_true rfl⟩ ⟨rfl, rfl⟩ (by exact Nat.le_of_ble_eq_true rfl) (fun b e9 => by cases e9; rfl) dX11_clauseOfSection_5 ⟨Nat.le_of_ble_eq_true rfl, Nat.le_of_ble_eq_true rfl⟩ ⟨Nat.le_of_ble_eq_true rfl, Nat.le_of_ble_eq_true rfl⟩ (fun r2 h H locs S w => ?_)
  refine W.cs (cells' := 0) (slots' := 0) rfl rfl ?_
  refine ql_SR (As := [va_rf r2]) (rest := []) C S htab hlocks hl qy_X11_existing qi_X11_existing gw_977 (qm_X11_existing l hl9 D _ r2 _ _ w) rfl ⟨Nat.le_of_ble_eq_true rfl, Nat.le_of_ble_eq_true rfl⟩ ⟨rfl, rfl⟩ (by exact Nat.le_of_ble_eq_true rfl) rfl dX11_clauseOfSection_8 ⟨Nat.le_of_ble_eq_true rfl, Nat.le_of_ble_eq_true rfl⟩ ⟨Nat.le_of_ble_eq_true rfl, Nat.le_of_ble_eq_true rfl⟩ (fun r4 h H locs S w => ?_)
  refine W.cs (cells' := 1) (slots' := 6) rfl rfl ?_
  refine ql_getIN C S qf_6_1 (qn_RX11_150) dX11_clauseOfSection_11 w (fun x5 w => ?_)
  exact ql_iret C S hr hlocks dX11_clauseOfSection_14 ⟨Nat.le_of_ble_eq_true rfl, Nat.le_of_ble_eq_true rfl⟩ w
def qw_X11_clauseOf (a0 : Nat) (xp1 : Int32) (h : ql_H) (Q : Option Nat → ql_H → Prop) (X : String → ql_H → Prop) : Prop :=
ql_gR h (some a0) 12 0 fun r1 =>
ql_rv h r1 4 fun b2 => qw_X1_clauseWithId b2 xp1 h (fun r2 h =>
qw_X11_existing r2 h (fun r4 h =>
Q r4 h) X)
set_option maxHeartbeats 4000000 in
set_option maxRecDepth 100000 in
theorem qm_X11_clauseOf (l : Launch) (hl9 : l.stackTraces = false) (D : ql_D) (h0 : ql_H) (a0 : Nat) (xp1 : Int32) (Q : Option Nat → ql_H → Prop) (X : String → ql_H → Prop) (w : qw_X11_clauseOf a0 xp1 h0 Q X) : ql_M D l yX11_clauseOf cX11_clauseOf 2 (some (.object "ClauseLedger$Clause")) ({ frames := 10, cells := 1, slots := 6, locals := 129 } : Room) h0 [.ref a0, .int xp1] (ql_rR Q) X 1 6 := by
  refine ql_ofW (by decide) (Nat.le_of_ble_eq_true rfl) ?_
  intro p e s m below meth c ls C hr hlocks hnm htab S hl
  have hl : lv_has ls 2 [(0, .ref a0), (1, .int xp1)] := hl
  unfold qw_X11_clauseOf at w
  refine ql_aload_n (r := (some a0)) C dX11_clauseOf_0 rfl (lv_at hl 0 rfl) ?_
  refine ql_getR C S qf_12_0 gw_348 dX11_clauseOf_1 w (fun r1 w => ?_)
  refine lv_iload_n C.1.1 C.1.2.1 dX11_clauseOf_4 rfl (lv_at hl 1 rfl) ?_
  refine ql_VR (As := [.int xp1]) (rest := []) C S htab hlocks hl qy_X1_clauseWithId qi_X1_clauseWithId qs_X1_clauseWithId gw_999 (ci := 4) rfl w (fun b w => qm_X1_clauseWithId l hl9 D _ b xp1 _ _ w) rfl ⟨Nat.le_of_ble_eq_true rfl, Nat.le_of_ble_eq_true rfl⟩ ⟨rfl, rfl⟩ (by exact Nat.le_of_ble_eq_true rfl) (fun b e9 => by cases e9; rfl) dX11_clauseOf_5 ⟨Nat.le_of_ble_eq_true rfl, Nat.le_of_ble_eq_true rfl⟩ ⟨Nat.le_of_ble_eq_true rfl, Nat.le_of_ble_eq_true rfl⟩ (fun r2 h H locs S w => ?_)
  refine W.cs (cells' := 0) (slots' := 0) rfl rfl ?_
  refine ql_SR (As := [va_rf r2]) (rest := []) C S htab hlocks hl qy_X11_existing qi_X11_existing gw_977 (qm_X11_existing l hl9 D _ r2 _ _ w) rfl ⟨Nat.le_of_ble_eq_true rfl, Nat.le_of_ble_eq_true rfl⟩ ⟨rfl, rfl⟩ (by exact Nat.le_of_ble_eq_true rfl) rfl dX11_clauseOf_8 ⟨Nat.le_of_ble_eq_true rfl, Nat.le_of_ble_eq_true rfl⟩ ⟨Nat.le_of_ble_eq_true rfl, Nat.le_of_ble_eq_true rfl⟩ (fun r4 h H locs S w => ?_)
  refine W.cs (cells' := 1) (slots' := 6) rfl rfl ?_
  exact ql_aret C S hr hlocks dX11_clauseOf_11 ⟨Nat.le_of_ble_eq_true rfl, Nat.le_of_ble_eq_true rfl⟩ w
def qw_X11_section (a0 : Nat) (xp1 : Int32) (h : ql_H) (Q : Int32 → ql_H → Prop) (X : String → ql_H → Prop) : Prop :=
ql_rv h (some a0) 12 fun b1 => qw_X11_clauseOf b1 xp1 h (fun r1 h =>
ql_gI h r1 6 2 fun x3 =>
Q x3 h) X
set_option maxHeartbeats 4000000 in
set_option maxRecDepth 100000 in
theorem qm_X11_section (l : Launch) (hl9 : l.stackTraces = false) (D : ql_D) (h0 : ql_H) (a0 : Nat) (xp1 : Int32) (Q : Int32 → ql_H → Prop) (X : String → ql_H → Prop) (w : qw_X11_section a0 xp1 h0 Q X) : ql_M D l yX11_section cX11_section 2 (some .int) ({ frames := 12, cells := 1, slots := 6, locals := 158 } : Room) h0 [.ref a0, .int xp1] (ql_rI Q) X 1 6 := by
  refine ql_ofW (by decide) (Nat.le_of_ble_eq_true rfl) ?_
  intro p e s m below meth c ls C hr hlocks hnm htab S hl
  have hl : lv_has ls 2 [(0, .ref a0), (1, .int xp1)] := hl
  unfold qw_X11_section at w
  refine ql_aload_n (r := (some a0)) C dX11_section_0 rfl (lv_at hl 0 rfl) ?_
  refine lv_iload_n C.1.1 C.1.2.1 dX11_section_1 rfl (lv_at hl 1 rfl) ?_
  refine ql_VR (As := [.int xp1]) (rest := []) C S htab hlocks hl qy_X11_clauseOf qi_X11_clauseOf qs_X11_clauseOf gw_995 (ci := 12) rfl w (fun b w => qm_X11_clauseOf l hl9 D _ b xp1 _ _ w) rfl ⟨Nat.le_of_ble_eq_true rfl, Nat.le_of_ble_eq_true rfl⟩ ⟨rfl, rfl⟩ (by exact Nat.le_of_ble_eq_true rfl) (fun b e9 => by cases e9; rfl) dX11_section_2 ⟨Nat.le_of_ble_eq_true rfl, Nat.le_of_ble_eq_true rfl⟩ ⟨Nat.le_of_ble_eq_true rfl, Nat.le_of_ble_eq_true rfl⟩ (fun r1 h H locs S w => ?_)
  refine W.cs (cells' := 1) (slots' := 6) rfl rfl ?_
  refine ql_getIN C S qf_6_2 (qn_RX11_161) dX11_section_5 w (fun x3 w => ?_)
  exact ql_iret C S hr hlocks dX11_section_8 ⟨Nat.le_of_ble_eq_true rfl, Nat.le_of_ble_eq_true rfl⟩ w
def qw_X11_enactedOn (a0 : Nat) (xp1 : Int32) (h : ql_H) (Q : Int32 → ql_H → Prop) (X : String → ql_H → Prop) : Prop :=
ql_rv h (some a0) 12 fun b1 => qw_X11_clauseOf b1 xp1 h (fun r1 h =>
ql_gI h r1 6 3 fun x3 =>
Q x3 h) X
set_option maxHeartbeats 4000000 in
set_option maxRecDepth 100000 in
theorem qm_X11_enactedOn (l : Launch) (hl9 : l.stackTraces = false) (D : ql_D) (h0 : ql_H) (a0 : Nat) (xp1 : Int32) (Q : Int32 → ql_H → Prop) (X : String → ql_H → Prop) (w : qw_X11_enactedOn a0 xp1 h0 Q X) : ql_M D l yX11_enactedOn cX11_enactedOn 2 (some .int) ({ frames := 12, cells := 1, slots := 6, locals := 158 } : Room) h0 [.ref a0, .int xp1] (ql_rI Q) X 1 6 := by
  refine ql_ofW (by decide) (Nat.le_of_ble_eq_true rfl) ?_
  intro p e s m below meth c ls C hr hlocks hnm htab S hl
  have hl : lv_has ls 2 [(0, .ref a0), (1, .int xp1)] := hl
  unfold qw_X11_enactedOn at w
  refine ql_aload_n (r := (some a0)) C dX11_enactedOn_0 rfl (lv_at hl 0 rfl) ?_
  refine lv_iload_n C.1.1 C.1.2.1 dX11_enactedOn_1 rfl (lv_at hl 1 rfl) ?_
  refine ql_VR (As := [.int xp1]) (rest := []) C S htab hlocks hl qy_X11_clauseOf qi_X11_clauseOf qs_X11_clauseOf gw_995 (ci := 12) rfl w (fun b w => qm_X11_clauseOf l hl9 D _ b xp1 _ _ w) rfl ⟨Nat.le_of_ble_eq_true rfl, Nat.le_of_ble_eq_true rfl⟩ ⟨rfl, rfl⟩ (by exact Nat.le_of_ble_eq_true rfl) (fun b e9 => by cases e9; rfl) dX11_enactedOn_2 ⟨Nat.le_of_ble_eq_true rfl, Nat.le_of_ble_eq_true rfl⟩ ⟨Nat.le_of_ble_eq_true rfl, Nat.le_of_ble_eq_true rfl⟩ (fun r1 h H locs S w => ?_)
  refine W.cs (cells' := 1) (slots' := 6) rfl rfl ?_
  refine ql_getIN C S qf_6_3 (qn_RX11_164) dX11_enactedOn_5 w (fun x3 w => ?_)
  exact ql_iret C S hr hlocks dX11_enactedOn_8 ⟨Nat.le_of_ble_eq_true rfl, Nat.le_of_ble_eq_true rfl⟩ w
def qw_X11_clauseWithSunset (a0 : Nat) (xp1 : Int32) (h : ql_H) (Q : Option Nat → ql_H → Prop) (X : String → ql_H → Prop) : Prop :=
ql_rv h (some a0) 12 fun b1 => qw_X11_clauseOf b1 xp1 h (fun r1 h =>
ql_rv h r1 6 fun b3 => qw_X3_hasSunset b3  h (fun x3 h =>
if x3 = 0 then (∀ n9 : Nat, h.1 ≤ n9 → X "java/util/NoSuchElementException" (n9, h.2)) else (Q r1 h))) X
set_option maxHeartbeats 4000000 in
set_option maxRecDepth 100000 in
theorem qm_X11_clauseWithSunset (l : Launch) (hl9 : l.stackTraces = false) (D : ql_D) (h0 : ql_H) (a0 : Nat) (xp1 : Int32) (Q : Option Nat → ql_H → Prop) (X : String → ql_H → Prop) (w : qw_X11_clauseWithSunset a0 xp1 h0 Q X) : ql_M D l yX11_clauseWithSunset cX11_clauseWithSunset 3 (some (.object "ClauseLedger$Clause")) ({ frames := 12, cells := 2, slots := 12, locals := 158 } : Room) h0 [.ref a0, .int xp1] (ql_rR Q) X 2 12 := by
  refine ql_ofW (by decide) (Nat.le_of_ble_eq_true rfl) ?_
  intro p e s m below meth c ls C hr hlocks hnm htab S hl
  have hl : lv_has ls 3 [(0, .ref a0), (1, .int xp1)] := hl
  unfold qw_X11_clauseWithSunset at w
  refine ql_aload_n (r := (some a0)) C dX11_clauseWithSunset_0 rfl (lv_at hl 0 rfl) ?_
  refine lv_iload_n C.1.1 C.1.2.1 dX11_clauseWithSunset_1 rfl (lv_at hl 1 rfl) ?_
  refine ql_VR (As := [.int xp1]) (rest := []) C S htab hlocks hl qy_X11_clauseOf qi_X11_clauseOf qs_X11_clauseOf gw_995 (ci := 12) rfl w (fun b w => qm_X11_clauseOf l hl9 D _ b xp1 _ _ w) rfl ⟨Nat.le_of_ble_eq_true rfl, Nat.le_of_ble_eq_true rfl⟩ ⟨rfl, rfl⟩ (by exact Nat.le_of_ble_eq_true rfl) (fun b e9 => by cases e9; rfl) dX11_clauseWithSunset_2 ⟨Nat.le_of_ble_eq_true rfl, Nat.le_of_ble_eq_true rfl⟩ ⟨Nat.le_of_ble_eq_true rfl, Nat.le_of_ble_eq_true rfl⟩ (fun r1 h H locs S w => ?_)
  refine W.cs (cells' := 1) (slots' := 6) rfl rfl ?_
  refine ql_astore_n (lv' := [(2, va_rf r1), (0, .ref a0), (1, .int xp1)]) C dX11_clauseWithSunset_5 rfl hl (by decide) rfl (fun ls hl => ?_)
  refine ql_aload_n (r := r1) C dX11_clauseWithSunset_6 rfl (lv_at hl 0 rfl) ?_
  refine ql_VI (As := []) (rest := []) C S htab hlocks hl qy_X3_hasSunset qi_X3_hasSunset qs_X3_hasSunset gw_1018 (ci := 6) rfl w (fun b w => qm_X3_hasSunset l hl9 D _ b _ _ w) rfl ⟨Nat.le_of_ble_eq_true rfl, Nat.le_of_ble_eq_true rfl⟩ ⟨rfl, rfl⟩ (by exact Nat.le_of_ble_eq_true rfl) (fun b e9 => by cases e9; rfl) dX11_clauseWithSunset_7 ⟨Nat.le_of_ble_eq_true rfl, Nat.le_of_ble_eq_true rfl⟩ ⟨Nat.le_of_ble_eq_true rfl, Nat.le_of_ble_eq_true rfl⟩ (fun x3 h H locs S w => ?_)
  refine W.cs (cells' := 1) (slots' := 6) rfl rfl ?_
  refine lv_if_ne (tgt := 21) C.1.1 C.1.2.1 dX11_clauseWithSunset_10 (by decide) (fun c9 => ?_) (fun c9 => ?_)
  · replace w := ql_ifn w c9
    refine ql_aload_n (r := r1) C dX11_clauseWithSunset_21 rfl (lv_at hl 0 rfl) ?_
    exact ql_aret C S hr hlocks dX11_clauseWithSunset_22 ⟨Nat.le_of_ble_eq_true rfl, Nat.le_of_ble_eq_true rfl⟩ w
  · replace w := ql_if w c9
    exact ql_throw trivial C S qx_RX11_123 gw_488 gw_92 hl htab hlocks hl9 dX11_clauseWithSunset_13 dX11_clauseWithSunset_16 dX11_clauseWithSunset_17 dX11_clauseWithSunset_20 ⟨Nat.le_of_ble_eq_true rfl, Nat.le_of_ble_eq_true rfl, Nat.le_of_ble_eq_true rfl⟩ (by exact Nat.le_of_ble_eq_true rfl) ⟨Nat.le_of_ble_eq_true rfl, Nat.le_of_ble_eq_true rfl⟩ w
def qw_X11_sunset (a0 : Nat) (xp1 : Int32) (h : ql_H) (Q : Int32 → ql_H → Prop) (X : String → ql_H → Prop) : Prop :=
ql_rv h (some a0) 12 fun b1 => qw_X11_clauseWithSunset b1 xp1 h (fun r1 h =>
ql_gI h r1 6 4 fun x3 =>
Q x3 h) X
set_option maxHeartbeats 4000000 in
set_option maxRecDepth 100000 in
theorem qm_X11_sunset (l : Launch) (hl9 : l.stackTraces = false) (D : ql_D) (h0 : ql_H) (a0 : Nat) (xp1 : Int32) (Q : Int32 → ql_H → Prop) (X : String → ql_H → Prop) (w : qw_X11_sunset a0 xp1 h0 Q X) : ql_M D l yX11_sunset cX11_sunset 2 (some .int) ({ frames := 14, cells := 2, slots := 12, locals := 188 } : Room) h0 [.ref a0, .int xp1] (ql_rI Q) X 2 12 := by
  refine ql_ofW (by decide) (Nat.le_of_ble_eq_true rfl) ?_
  intro p e s m below meth c ls C hr hlocks hnm htab S hl
  have hl : lv_has ls 2 [(0, .ref a0), (1, .int xp1)] := hl
  unfold qw_X11_sunset at w
  refine ql_aload_n (r := (some a0)) C dX11_sunset_0 rfl (lv_at hl 0 rfl) ?_
  refine lv_iload_n C.1.1 C.1.2.1 dX11_sunset_1 rfl (lv_at hl 1 rfl) ?_
  refine ql_VR (As := [.int xp1]) (rest := []) C S htab hlocks hl qy_X11_clauseWithSunset qi_X11_clauseWithSunset qs_X11_clauseWithSunset gw_1014 (ci := 12) rfl w (fun b w => qm_X11_clauseWithSunset l hl9 D _ b xp1 _ _ w) rfl ⟨Nat.le_of_ble_eq_true rfl, Nat.le_of_ble_eq_true rfl⟩ ⟨rfl, rfl⟩ (by exact Nat.le_of_ble_eq_true rfl) (fun b e9 => by cases e9; rfl) dX11_sunset_2 ⟨Nat.le_of_ble_eq_true rfl, Nat.le_of_ble_eq_true rfl⟩ ⟨Nat.le_of_ble_eq_true rfl, Nat.le_of_ble_eq_true rfl⟩ (fun r1 h H locs S w => ?_)
  refine W.cs (cells' := 2) (slots' := 12) rfl rfl ?_
  refine ql_getIN C S qf_6_4 (qn_RX11_170) dX11_sunset_5 w (fun x3 w => ?_)
  exact ql_iret C S hr hlocks dX11_sunset_8 ⟨Nat.le_of_ble_eq_true rfl, Nat.le_of_ble_eq_true rfl⟩ w
def qw_X11_isInForce (a0 : Nat) (xp1 : Int32) (xp2 : Int32) (h : ql_H) (Q : Int32 → ql_H → Prop) (X : String → ql_H → Prop) : Prop :=
ql_rv h (some a0) 12 fun b1 => qw_X11_clauseOf b1 xp1 h (fun r1 h =>
ql_rv h r1 6 fun b3 => qw_X3_holdsOn b3 xp2 h (fun x3 h =>
ql_nz .boolean x3 ∧ Q x3 h)) X
set_option maxHeartbeats 4000000 in
set_option maxRecDepth 100000 in
theorem qm_X11_isInForce (l : Launch) (hl9 : l.stackTraces = false) (D : ql_D) (h0 : ql_H) (a0 : Nat) (xp1 : Int32) (xp2 : Int32) (Q : Int32 → ql_H → Prop) (X : String → ql_H → Prop) (w : qw_X11_isInForce a0 xp1 xp2 h0 Q X) : ql_M D l yX11_isInForce cX11_isInForce 3 (some .boolean) ({ frames := 12, cells := 1, slots := 6, locals := 158 } : Room) h0 [.ref a0, .int xp1, .int xp2] (ql_rI Q) X 1 6 := by
  refine ql_ofW (by decide) (Nat.le_of_ble_eq_true rfl) ?_
  intro p e s m below meth c ls C hr hlocks hnm htab S hl
  have hl : lv_has ls 3 [(0, .ref a0), (1, .int xp1), (2, .int xp2)] := hl
  unfold qw_X11_isInForce at w
  refine ql_aload_n (r := (some a0)) C dX11_isInForce_0 rfl (lv_at hl 0 rfl) ?_
  refine lv_iload_n C.1.1 C.1.2.1 dX11_isInForce_1 rfl (lv_at hl 1 rfl) ?_
  refine ql_VR (As := [.int xp1]) (rest := []) C S htab hlocks hl qy_X11_clauseOf qi_X11_clauseOf qs_X11_clauseOf gw_995 (ci := 12) rfl w (fun b w => qm_X11_clauseOf l hl9 D _ b xp1 _ _ w) rfl ⟨Nat.le_of_ble_eq_true rfl, Nat.le_of_ble_eq_true rfl⟩ ⟨rfl, rfl⟩ (by exact Nat.le_of_ble_eq_true rfl) (fun b e9 => by cases e9; rfl) dX11_isInForce_2 ⟨Nat.le_of_ble_eq_true rfl, Nat.le_of_ble_eq_true rfl⟩ ⟨Nat.le_of_ble_eq_true rfl, Nat.le_of_ble_eq_true rfl⟩ (fun r1 h H locs S w => ?_)
  refine W.cs (cells' := 1) (slots' := 6) rfl rfl ?_
  refine lv_iload_n C.1.1 C.1.2.1 dX11_isInForce_5 rfl (lv_at hl 2 rfl) ?_
  refine ql_VI (As := [.int xp2]) (rest := []) C S htab hlocks hl qy_X3_holdsOn qi_X3_holdsOn qs_X3_holdsOn gw_1026 (ci := 6) rfl w (fun b w => qm_X3_holdsOn l hl9 D _ b xp2 _ _ w) rfl ⟨Nat.le_of_ble_eq_true rfl, Nat.le_of_ble_eq_true rfl⟩ ⟨rfl, rfl⟩ (by exact Nat.le_of_ble_eq_true rfl) (fun b e9 => by cases e9; rfl) dX11_isInForce_6 ⟨Nat.le_of_ble_eq_true rfl, Nat.le_of_ble_eq_true rfl⟩ ⟨Nat.le_of_ble_eq_true rfl, Nat.le_of_ble_eq_true rfl⟩ (fun x3 h H locs S w => ?_)
  refine W.cs (cells' := 1) (slots' := 6) rfl rfl ?_
  exact ql_zret C S hr hlocks dX11_isInForce_9 ⟨Nat.le_of_ble_eq_true rfl, Nat.le_of_ble_eq_true rfl⟩ w
def qw_X11_hasLapsed (a0 : Nat) (xp1 : Int32) (h : ql_H) (Q : Int32 → ql_H → Prop) (X : String → ql_H → Prop) : Prop :=
ql_rv h (some a0) 12 fun b1 => qw_X11_clauseOf b1 xp1 h (fun r1 h =>
ql_gR h (some a0) 12 0 fun r3 =>
ql_gI h r3 4 2 fun x4 =>
ql_rv h r1 6 fun b5 => qw_X3_lapsedBy b5 x4 h (fun x5 h =>
ql_nz .boolean x5 ∧ Q x5 h)) X
set_option maxHeartbeats 4000000 in
set_option maxRecDepth 100000 in
theorem qm_X11_hasLapsed (l : Launch) (hl9 : l.stackTraces = false) (D : ql_D) (h0 : ql_H) (a0 : Nat) (xp1 : Int32) (Q : Int32 → ql_H → Prop) (X : String → ql_H → Prop) (w : qw_X11_hasLapsed a0 xp1 h0 Q X) : ql_M D l yX11_hasLapsed cX11_hasLapsed 2 (some .boolean) ({ frames := 12, cells := 1, slots := 6, locals := 158 } : Room) h0 [.ref a0, .int xp1] (ql_rI Q) X 1 6 := by
  refine ql_ofW (by decide) (Nat.le_of_ble_eq_true rfl) ?_
  intro p e s m below meth c ls C hr hlocks hnm htab S hl
  have hl : lv_has ls 2 [(0, .ref a0), (1, .int xp1)] := hl
  unfold qw_X11_hasLapsed at w
  refine ql_aload_n (r := (some a0)) C dX11_hasLapsed_0 rfl (lv_at hl 0 rfl) ?_
  refine lv_iload_n C.1.1 C.1.2.1 dX11_hasLapsed_1 rfl (lv_at hl 1 rfl) ?_
  refine ql_VR (As := [.int xp1]) (rest := []) C S htab hlocks hl qy_X11_clauseOf qi_X11_clauseOf qs_X11_clauseOf gw_995 (ci := 12) rfl w (fun b w => qm_X11_clauseOf l hl9 D _ b xp1 _ _ w) rfl ⟨Nat.le_of_ble_eq_true rfl, Nat.le_of_ble_eq_true rfl⟩ ⟨rfl, rfl⟩ (by exact Nat.le_of_ble_eq_true rfl) (fun b e9 => by cases e9; rfl) dX11_hasLapsed_2 ⟨Nat.le_of_ble_eq_true rfl, Nat.le_of_ble_eq_true rfl⟩ ⟨Nat.le_of_ble_eq_true rfl, Nat.le_of_ble_eq_true rfl⟩ (fun r1 h H locs S w => ?_)
  refine W.cs (cells' := 1) (slots' := 6) rfl rfl ?_
  refine ql_aload_n (r := (some a0)) C dX11_hasLapsed_5 rfl (lv_at hl 0 rfl) ?_
  refine ql_getR C S qf_12_0 gw_348 dX11_hasLapsed_6 w (fun r3 w => ?_)
  refine ql_getIN C S qf_4_2 (qn_RX11_136) dX11_hasLapsed_9 w (fun x4 w => ?_)
  refine ql_VI (As := [.int x4]) (rest := []) C S htab hlocks hl qy_X3_lapsedBy qi_X3_lapsedBy qs_X3_lapsedBy gw_1034 (ci := 6) rfl w (fun b w => qm_X3_lapsedBy l hl9 D _ b x4 _ _ w) rfl ⟨Nat.le_of_ble_eq_true rfl, Nat.le_of_ble_eq_true rfl⟩ ⟨rfl, rfl⟩ (by exact Nat.le_of_ble_eq_true rfl) (fun b e9 => by cases e9; rfl) dX11_hasLapsed_12 ⟨Nat.le_of_ble_eq_true rfl, Nat.le_of_ble_eq_true rfl⟩ ⟨Nat.le_of_ble_eq_true rfl, Nat.le_of_ble_eq_true rfl⟩ (fun x5 h H locs S w => ?_)
  refine W.cs (cells' := 1) (slots' := 6) rfl rfl ?_
  exact ql_zret C S hr hlocks dX11_hasLapsed_15 ⟨Nat.le_of_ble_eq_true rfl, Nat.le_of_ble_eq_true rfl⟩ w
def qw_X11_inForceOn (a0 : Nat) (xp1 : Int32) (h : ql_H) (Q : Int32 → ql_H → Prop) : Prop :=
ql_gR h (some a0) 12 0 fun r1 =>
ql_rv h r1 4 fun b2 => qw_X1_countHoldingOn b2 xp1 h (fun x2 h =>
Q x2 h)
set_option maxHeartbeats 4000000 in
set_option maxRecDepth 100000 in
theorem qm_X11_inForceOn (l : Launch) (hl9 : l.stackTraces = false) (D : ql_D) (h0 : ql_H) (a0 : Nat) (xp1 : Int32) (Q : Int32 → ql_H → Prop) (X : String → ql_H → Prop) (w : qw_X11_inForceOn a0 xp1 h0 Q) : ql_M D l yX11_inForceOn cX11_inForceOn 2 (some .int) ({ frames := 8, cells := 0, slots := 0, locals := 139 } : Room) h0 [.ref a0, .int xp1] (ql_rI Q) X 0 0 := by
  refine ql_ofW (by decide) (Nat.le_of_ble_eq_true rfl) ?_
  intro p e s m below meth c ls C hr hlocks hnm htab S hl
  have hl : lv_has ls 2 [(0, .ref a0), (1, .int xp1)] := hl
  unfold qw_X11_inForceOn at w
  refine ql_aload_n (r := (some a0)) C dX11_inForceOn_0 rfl (lv_at hl 0 rfl) ?_
  refine ql_getR C S qf_12_0 gw_348 dX11_inForceOn_1 w (fun r1 w => ?_)
  refine lv_iload_n C.1.1 C.1.2.1 dX11_inForceOn_4 rfl (lv_at hl 1 rfl) ?_
  refine ql_VI (As := [.int xp1]) (rest := []) C S htab hlocks hl qy_X1_countHoldingOn qi_X1_countHoldingOn qs_X1_countHoldingOn gw_641 (ci := 4) rfl w (fun b w => qm_X1_countHoldingOn l hl9 D _ b xp1 _ _ w) rfl ⟨Nat.le_of_ble_eq_true rfl, Nat.le_of_ble_eq_true rfl⟩ ⟨rfl, rfl⟩ (by exact Nat.le_of_ble_eq_true rfl) (fun b e9 => by cases e9; rfl) dX11_inForceOn_5 ⟨Nat.le_of_ble_eq_true rfl, Nat.le_of_ble_eq_true rfl⟩ ⟨Nat.le_of_ble_eq_true rfl, Nat.le_of_ble_eq_true rfl⟩ (fun x2 h H locs S w => ?_)
  refine W.cs (cells' := 0) (slots' := 0) rfl rfl ?_
  exact ql_iret C S hr hlocks dX11_inForceOn_8 ⟨Nat.le_of_ble_eq_true rfl, Nat.le_of_ble_eq_true rfl⟩ w
def qw_X11_daysUntilLapsed (a0 : Nat) (xp1 : Int32) (h : ql_H) (Q : Int32 → ql_H → Prop) (X : String → ql_H → Prop) : Prop :=
ql_rv h (some a0) 12 fun b1 => qw_X11_clauseWithSunset b1 xp1 h (fun r1 h =>
ql_gR h (some a0) 12 0 fun r3 =>
ql_gI h r3 4 2 fun x4 =>
ql_rv h r1 6 fun b5 => qw_X3_lapsedBy b5 x4 h (fun x5 h =>
if x5 = 0 then (ql_gI h r1 6 4 fun x7 =>
ql_gR h (some a0) 12 0 fun r8 =>
ql_gI h r8 4 2 fun x9 =>
Q ((x7 - x9) + (1 : Int32)) h) else (Q (0 : Int32) h))) X
set_option maxHeartbeats 4000000 in
set_option maxRecDepth 100000 in
theorem qm_X11_daysUntilLapsed (l : Launch) (hl9 : l.stackTraces = false) (D : ql_D) (h0 : ql_H) (a0 : Nat) (xp1 : Int32) (Q : Int32 → ql_H → Prop) (X : String → ql_H → Prop) (w : qw_X11_daysUntilLapsed a0 xp1 h0 Q X) : ql_M D l yX11_daysUntilLapsed cX11_daysUntilLapsed 3 (some .int) ({ frames := 14, cells := 2, slots := 12, locals := 188 } : Room) h0 [.ref a0, .int xp1] (ql_rI Q) X 2 12 := by
  refine ql_ofW (by decide) (Nat.le_of_ble_eq_true rfl) ?_
  intro p e s m below meth c ls C hr hlocks hnm htab S hl
  have hl : lv_has ls 3 [(0, .ref a0), (1, .int xp1)] := hl
  unfold qw_X11_daysUntilLapsed at w
  refine ql_aload_n (r := (some a0)) C dX11_daysUntilLapsed_0 rfl (lv_at hl 0 rfl) ?_
  refine lv_iload_n C.1.1 C.1.2.1 dX11_daysUntilLapsed_1 rfl (lv_at hl 1 rfl) ?_
  refine ql_VR (As := [.int xp1]) (rest := []) C S htab hlocks hl qy_X11_clauseWithSunset qi_X11_clauseWithSunset qs_X11_clauseWithSunset gw_1014 (ci := 12) rfl w (fun b w => qm_X11_clauseWithSunset l hl9 D _ b xp1 _ _ w) rfl ⟨Nat.le_of_ble_eq_true rfl, Nat.le_of_ble_eq_true rfl⟩ ⟨rfl, rfl⟩ (by exact Nat.le_of_ble_eq_true rfl) (fun b e9 => by cases e9; rfl) dX11_daysUntilLapsed_2 ⟨Nat.le_of_ble_eq_true rfl, Nat.le_of_ble_eq_true rfl⟩ ⟨Nat.le_of_ble_eq_true rfl, Nat.le_of_ble_eq_true rfl⟩ (fun r1 h H locs S w => ?_)
  refine W.cs (cells' := 2) (slots' := 12) rfl rfl ?_
  refine ql_astore_n (lv' := [(2, va_rf r1), (0, .ref a0), (1, .int xp1)]) C dX11_daysUntilLapsed_5 rfl hl (by decide) rfl (fun ls hl => ?_)
  refine ql_aload_n (r := r1) C dX11_daysUntilLapsed_6 rfl (lv_at hl 0 rfl) ?_
  refine ql_aload_n (r := (some a0)) C dX11_daysUntilLapsed_7 rfl (lv_at hl 1 rfl) ?_
  refine ql_getR C S qf_12_0 gw_348 dX11_daysUntilLapsed_8 w (fun r3 w => ?_)
  refine ql_getIN C S qf_4_2 (qn_RX11_136) dX11_daysUntilLapsed_11 w (fun x4 w => ?_)
  refine ql_VI (As := [.int x4]) (rest := []) C S htab hlocks hl qy_X3_lapsedBy qi_X3_lapsedBy qs_X3_lapsedBy gw_1034 (ci := 6) rfl w (fun b w => qm_X3_lapsedBy l hl9 D _ b x4 _ _ w) rfl ⟨Nat.le_of_ble_eq_true rfl, Nat.le_of_ble_eq_true rfl⟩ ⟨rfl, rfl⟩ (by exact Nat.le_of_ble_eq_true rfl) (fun b e9 => by cases e9; rfl) dX11_daysUntilLapsed_14 ⟨Nat.le_of_ble_eq_true rfl, Nat.le_of_ble_eq_true rfl⟩ ⟨Nat.le_of_ble_eq_true rfl, Nat.le_of_ble_eq_true rfl⟩ (fun x5 h H locs S w => ?_)
  refine W.cs (cells' := 2) (slots' := 12) rfl rfl ?_
  refine lv_if_eq (tgt := 24) C.1.1 C.1.2.1 dX11_daysUntilLapsed_17 (by decide) (fun c9 => ?_) (fun c9 => ?_)
  · replace w := ql_if w c9
    refine ql_aload_n (r := r1) C dX11_daysUntilLapsed_24 rfl (lv_at hl 0 rfl) ?_
    refine ql_getIN C S qf_6_4 (qn_RX11_170) dX11_daysUntilLapsed_25 w (fun x7 w => ?_)
    refine ql_aload_n (r := (some a0)) C dX11_daysUntilLapsed_28 rfl (lv_at hl 1 rfl) ?_
    refine ql_getR C S qf_12_0 gw_348 dX11_daysUntilLapsed_29 w (fun r8 w => ?_)
    refine ql_getIN C S qf_4_2 (qn_RX11_136) dX11_daysUntilLapsed_32 w (fun x9 w => ?_)
    refine lv_isub C.1.1 C.1.2.1 dX11_daysUntilLapsed_35 ?_
    refine lv_iconst (v := (1 : Int32)) C.1.1 C.1.2.1 dX11_daysUntilLapsed_36 (by decide) ?_
    refine lv_iadd C.1.1 C.1.2.1 dX11_daysUntilLapsed_37 ?_
    exact ql_iret C S hr hlocks dX11_daysUntilLapsed_38 ⟨Nat.le_of_ble_eq_true rfl, Nat.le_of_ble_eq_true rfl⟩ w
  · replace w := ql_ifn w c9
    refine lv_iconst (v := (0 : Int32)) C.1.1 C.1.2.1 dX11_daysUntilLapsed_20 (by decide) ?_
    refine lv_goto (tgt := 38) C.1.1 C.1.2.1 dX11_daysUntilLapsed_21 (by decide) ?_
    exact ql_iret C S hr hlocks dX11_daysUntilLapsed_38 ⟨Nat.le_of_ble_eq_true rfl, Nat.le_of_ble_eq_true rfl⟩ w
def qw_X11_length (a0 : Nat) (xp1 : Int32) (h : ql_H) (Q : Int32 → ql_H → Prop) (X : String → ql_H → Prop) : Prop :=
ql_rv h (some a0) 12 fun b1 => qw_X11_clauseOf b1 xp1 h (fun r1 h =>
ql_rv h r1 6 fun b3 => qw_X3_latestText b3  h (fun j3 h =>
qw_X9_lengthOf j3 h (fun x5 h =>
Q x5 h))) X
set_option maxHeartbeats 4000000 in
set_option maxRecDepth 100000 in
theorem qm_X11_length (l : Launch) (hl9 : l.stackTraces = false) (D : ql_D) (h0 : ql_H) (a0 : Nat) (xp1 : Int32) (Q : Int32 → ql_H → Prop) (X : String → ql_H → Prop) (w : qw_X11_length a0 xp1 h0 Q X) : ql_M D l yX11_length cX11_length 2 (some .int) ({ frames := 12, cells := 1, slots := 6, locals := 158 } : Room) h0 [.ref a0, .int xp1] (ql_rI Q) X 1 6 := by
  refine ql_ofW (by decide) (Nat.le_of_ble_eq_true rfl) ?_
  intro p e s m below meth c ls C hr hlocks hnm htab S hl
  have hl : lv_has ls 2 [(0, .ref a0), (1, .int xp1)] := hl
  unfold qw_X11_length at w
  refine ql_aload_n (r := (some a0)) C dX11_length_0 rfl (lv_at hl 0 rfl) ?_
  refine lv_iload_n C.1.1 C.1.2.1 dX11_length_1 rfl (lv_at hl 1 rfl) ?_
  refine ql_VR (As := [.int xp1]) (rest := []) C S htab hlocks hl qy_X11_clauseOf qi_X11_clauseOf qs_X11_clauseOf gw_995 (ci := 12) rfl w (fun b w => qm_X11_clauseOf l hl9 D _ b xp1 _ _ w) rfl ⟨Nat.le_of_ble_eq_true rfl, Nat.le_of_ble_eq_true rfl⟩ ⟨rfl, rfl⟩ (by exact Nat.le_of_ble_eq_true rfl) (fun b e9 => by cases e9; rfl) dX11_length_2 ⟨Nat.le_of_ble_eq_true rfl, Nat.le_of_ble_eq_true rfl⟩ ⟨Nat.le_of_ble_eq_true rfl, Nat.le_of_ble_eq_true rfl⟩ (fun r1 h H locs S w => ?_)
  refine W.cs (cells' := 1) (slots' := 6) rfl rfl ?_
  refine ql_VJ (As := []) (rest := []) C S htab hlocks hl qy_X3_latestText qi_X3_latestText qs_X3_latestText gw_657 (ci := 6) rfl w (fun b w => qm_X3_latestText l hl9 D _ b _ _ w) rfl ⟨Nat.le_of_ble_eq_true rfl, Nat.le_of_ble_eq_true rfl⟩ ⟨rfl, rfl⟩ (by exact Nat.le_of_ble_eq_true rfl) (fun b e9 => by cases e9; rfl) dX11_length_5 ⟨Nat.le_of_ble_eq_true rfl, Nat.le_of_ble_eq_true rfl⟩ ⟨Nat.le_of_ble_eq_true rfl, Nat.le_of_ble_eq_true rfl⟩ (fun j3 h H locs S w => ?_)
  refine W.cs (cells' := 1) (slots' := 6) rfl rfl ?_
  refine ql_SI (As := [.long j3]) (rest := []) C S htab hlocks hl qy_X9_lengthOf qi_X9_lengthOf gw_1049 (qm_X9_lengthOf l hl9 D _ j3 _ _ w) rfl ⟨Nat.le_of_ble_eq_true rfl, Nat.le_of_ble_eq_true rfl⟩ ⟨rfl, rfl⟩ (by exact Nat.le_of_ble_eq_true rfl) rfl dX11_length_8 ⟨Nat.le_of_ble_eq_true rfl, Nat.le_of_ble_eq_true rfl⟩ ⟨Nat.le_of_ble_eq_true rfl, Nat.le_of_ble_eq_true rfl⟩ (fun x5 h H locs S w => ?_)
  refine W.cs (cells' := 1) (slots' := 6) rfl rfl ?_
  exact ql_iret C S hr hlocks dX11_length_11 ⟨Nat.le_of_ble_eq_true rfl, Nat.le_of_ble_eq_true rfl⟩ w
def qw_X11_noteOfText (jp0 : Int64) (xp2 : Int32) (h : ql_H) (Q : Int32 → ql_H → Prop) (X : String → ql_H → Prop) : Prop :=
if xp2 < 0 then (∀ n9 : Nat, h.1 ≤ n9 → X "java/lang/IndexOutOfBoundsException" (n9, h.2)) else (qw_X9_lengthOf jp0 h (fun x1 h =>
if xp2 < x1 then (qw_X9_noteOf jp0 xp2 h (fun x2 h =>
ql_nz .char x2 ∧ Q x2 h)) else (∀ n9 : Nat, h.1 ≤ n9 → X "java/lang/IndexOutOfBoundsException" (n9, h.2))))
set_option maxHeartbeats 4000000 in
set_option maxRecDepth 100000 in
theorem qm_X11_noteOfText (l : Launch) (hl9 : l.stackTraces = false) (D : ql_D) (h0 : ql_H) (jp0 : Int64) (xp2 : Int32) (Q : Int32 → ql_H → Prop) (X : String → ql_H → Prop) (w : qw_X11_noteOfText jp0 xp2 h0 Q X) : ql_M D l yX11_noteOfText cX11_noteOfText 3 (some .char) ({ frames := 8, cells := 1, slots := 6, locals := 108 } : Room) h0 [.long jp0, .int xp2] (ql_rI Q) X 1 6 := by
  refine ql_ofW (by decide) (Nat.le_of_ble_eq_true rfl) ?_
  intro p e s m below meth c ls C hr hlocks hnm htab S hl
  have hl : lv_has ls 3 [(0, .long jp0), (2, .int xp2)] := hl
  unfold qw_X11_noteOfText at w
  refine lv_iload_n C.1.1 C.1.2.1 dX11_noteOfText_0 rfl (lv_at hl 1 rfl) ?_
  refine lv_if_lt (tgt := 12) C.1.1 C.1.2.1 dX11_noteOfText_1 (by decide) (fun c9 => ?_) (fun c9 => ?_)
  · replace w := ql_if w c9
    exact ql_throw trivial C S qx_RX11_126 gw_557 gw_93 hl htab hlocks hl9 dX11_noteOfText_12 dX11_noteOfText_15 dX11_noteOfText_16 dX11_noteOfText_19 ⟨Nat.le_of_ble_eq_true rfl, Nat.le_of_ble_eq_true rfl, Nat.le_of_ble_eq_true rfl⟩ (by exact Nat.le_of_ble_eq_true rfl) ⟨Nat.le_of_ble_eq_true rfl, Nat.le_of_ble_eq_true rfl⟩ w
  · replace w := ql_ifn w c9
    refine lv_iload_n C.1.1 C.1.2.1 dX11_noteOfText_4 rfl (lv_at hl 1 rfl) ?_
    refine lv_lload_n C.1.1 C.1.2.1 dX11_noteOfText_5 rfl (lv_at hl 0 rfl) ?_
    refine ql_SI (As := [.long jp0]) (rest := [.int xp2]) C S htab hlocks hl qy_X9_lengthOf qi_X9_lengthOf gw_1049 (qm_X9_lengthOf l hl9 D _ jp0 _ _ w) rfl ⟨Nat.le_of_ble_eq_true rfl, Nat.le_of_ble_eq_true rfl⟩ ⟨rfl, rfl⟩ (by exact Nat.le_of_ble_eq_true rfl) rfl dX11_noteOfText_6 ⟨Nat.le_of_ble_eq_true rfl, Nat.le_of_ble_eq_true rfl⟩ ⟨Nat.le_of_ble_eq_true rfl, Nat.le_of_ble_eq_true rfl⟩ (fun x1 h H locs S w => ?_)
    refine W.cs (cells' := 0) (slots' := 0) rfl rfl ?_
    refine lv_icmp_lt (tgt := 20) C.1.1 C.1.2.1 dX11_noteOfText_9 (by decide) (fun c9 => ?_) (fun c9 => ?_)
    · replace w := ql_if w c9
      refine lv_lload_n C.1.1 C.1.2.1 dX11_noteOfText_20 rfl (lv_at hl 0 rfl) ?_
      refine lv_iload_n C.1.1 C.1.2.1 dX11_noteOfText_21 rfl (lv_at hl 1 rfl) ?_
      refine ql_SI (As := [.long jp0, .int xp2]) (rest := []) C S htab hlocks hl qy_X9_noteOf qi_X9_noteOf gw_1060 (qm_X9_noteOf l hl9 D _ jp0 xp2 _ _ w) rfl ⟨Nat.le_of_ble_eq_true rfl, Nat.le_of_ble_eq_true rfl⟩ ⟨rfl, rfl⟩ (by exact Nat.le_of_ble_eq_true rfl) rfl dX11_noteOfText_22 ⟨Nat.le_of_ble_eq_true rfl, Nat.le_of_ble_eq_true rfl⟩ ⟨Nat.le_of_ble_eq_true rfl, Nat.le_of_ble_eq_true rfl⟩ (fun x2 h H locs S w => ?_)
      refine W.cs (cells' := 0) (slots' := 0) rfl rfl ?_
      exact ql_zret C S hr hlocks dX11_noteOfText_25 ⟨Nat.le_of_ble_eq_true rfl, Nat.le_of_ble_eq_true rfl⟩ w
    · replace w := ql_ifn w c9
      exact ql_throw trivial C S qx_RX11_126 gw_557 gw_93 hl htab hlocks hl9 dX11_noteOfText_12 dX11_noteOfText_15 dX11_noteOfText_16 dX11_noteOfText_19 ⟨Nat.le_of_ble_eq_true rfl, Nat.le_of_ble_eq_true rfl, Nat.le_of_ble_eq_true rfl⟩ (by exact Nat.le_of_ble_eq_true rfl) ⟨Nat.le_of_ble_eq_true rfl, Nat.le_of_ble_eq_true rfl⟩ w
def qw_X11_noteAt (a0 : Nat) (xp1 : Int32) (xp2 : Int32) (h : ql_H) (Q : Int32 → ql_H → Prop) (X : String → ql_H → Prop) : Prop :=
ql_rv h (some a0) 12 fun b1 => qw_X11_clauseOf b1 xp1 h (fun r1 h =>
ql_rv h r1 6 fun b3 => qw_X3_latestText b3  h (fun j3 h =>
qw_X11_noteOfText j3 xp2 h (fun x5 h =>
ql_nz .char x5 ∧ Q x5 h) X)) X
set_option maxHeartbeats 4000000 in
set_option maxRecDepth 100000 in
theorem qm_X11_noteAt (l : Launch) (hl9 : l.stackTraces = false) (D : ql_D) (h0 : ql_H) (a0 : Nat) (xp1 : Int32) (xp2 : Int32) (Q : Int32 → ql_H → Prop) (X : String → ql_H → Prop) (w : qw_X11_noteAt a0 xp1 xp2 h0 Q X) : ql_M D l yX11_noteAt cX11_noteAt 3 (some .char) ({ frames := 12, cells := 2, slots := 12, locals := 158 } : Room) h0 [.ref a0, .int xp1, .int xp2] (ql_rI Q) X 2 12 := by
  refine ql_ofW (by decide) (Nat.le_of_ble_eq_true rfl) ?_
  intro p e s m below meth c ls C hr hlocks hnm htab S hl
  have hl : lv_has ls 3 [(0, .ref a0), (1, .int xp1), (2, .int xp2)] := hl
  unfold qw_X11_noteAt at w
  refine ql_aload_n (r := (some a0)) C dX11_noteAt_0 rfl (lv_at hl 0 rfl) ?_
  refine lv_iload_n C.1.1 C.1.2.1 dX11_noteAt_1 rfl (lv_at hl 1 rfl) ?_
  refine ql_VR (As := [.int xp1]) (rest := []) C S htab hlocks hl qy_X11_clauseOf qi_X11_clauseOf qs_X11_clauseOf gw_995 (ci := 12) rfl w (fun b w => qm_X11_clauseOf l hl9 D _ b xp1 _ _ w) rfl ⟨Nat.le_of_ble_eq_true rfl, Nat.le_of_ble_eq_true rfl⟩ ⟨rfl, rfl⟩ (by exact Nat.le_of_ble_eq_true rfl) (fun b e9 => by cases e9; rfl) dX11_noteAt_2 ⟨Nat.le_of_ble_eq_true rfl, Nat.le_of_ble_eq_true rfl⟩ ⟨Nat.le_of_ble_eq_true rfl, Nat.le_of_ble_eq_true rfl⟩ (fun r1 h H locs S w => ?_)
  refine W.cs (cells' := 1) (slots' := 6) rfl rfl ?_
  refine ql_VJ (As := []) (rest := []) C S htab hlocks hl qy_X3_latestText qi_X3_latestText qs_X3_latestText gw_657 (ci := 6) rfl w (fun b w => qm_X3_latestText l hl9 D _ b _ _ w) rfl ⟨Nat.le_of_ble_eq_true rfl, Nat.le_of_ble_eq_true rfl⟩ ⟨rfl, rfl⟩ (by exact Nat.le_of_ble_eq_true rfl) (fun b e9 => by cases e9; rfl) dX11_noteAt_5 ⟨Nat.le_of_ble_eq_true rfl, Nat.le_of_ble_eq_true rfl⟩ ⟨Nat.le_of_ble_eq_true rfl, Nat.le_of_ble_eq_true rfl⟩ (fun j3 h H locs S w => ?_)
  refine W.cs (cells' := 1) (slots' := 6) rfl rfl ?_
  refine lv_iload_n C.1.1 C.1.2.1 dX11_noteAt_8 rfl (lv_at hl 2 rfl) ?_
  refine ql_SI (As := [.long j3, .int xp2]) (rest := []) C S htab hlocks hl qy_X11_noteOfText qi_X11_noteOfText gw_1057 (qm_X11_noteOfText l hl9 D _ j3 xp2 _ _ w) rfl ⟨Nat.le_of_ble_eq_true rfl, Nat.le_of_ble_eq_true rfl⟩ ⟨rfl, rfl⟩ (by exact Nat.le_of_ble_eq_true rfl) rfl dX11_noteAt_9 ⟨Nat.le_of_ble_eq_true rfl, Nat.le_of_ble_eq_true rfl⟩ ⟨Nat.le_of_ble_eq_true rfl, Nat.le_of_ble_eq_true rfl⟩ (fun x5 h H locs S w => ?_)
  refine W.cs (cells' := 2) (slots' := 12) rfl rfl ?_
  exact ql_zret C S hr hlocks dX11_noteAt_12 ⟨Nat.le_of_ble_eq_true rfl, Nat.le_of_ble_eq_true rfl⟩ w
def qw_X11_versionCount (a0 : Nat) (xp1 : Int32) (h : ql_H) (Q : Int32 → ql_H → Prop) (X : String → ql_H → Prop) : Prop :=
ql_rv h (some a0) 12 fun b1 => qw_X11_clauseOf b1 xp1 h (fun r1 h =>
ql_rv h r1 6 fun b3 => qw_X3_countVersions b3  h (fun x3 h =>
Q x3 h)) X
set_option maxHeartbeats 4000000 in
set_option maxRecDepth 100000 in
theorem qm_X11_versionCount (l : Launch) (hl9 : l.stackTraces = false) (D : ql_D) (h0 : ql_H) (a0 : Nat) (xp1 : Int32) (Q : Int32 → ql_H → Prop) (X : String → ql_H → Prop) (w : qw_X11_versionCount a0 xp1 h0 Q X) : ql_M D l yX11_versionCount cX11_versionCount 2 (some .int) ({ frames := 12, cells := 1, slots := 6, locals := 158 } : Room) h0 [.ref a0, .int xp1] (ql_rI Q) X 1 6 := by
  refine ql_ofW (by decide) (Nat.le_of_ble_eq_true rfl) ?_
  intro p e s m below meth c ls C hr hlocks hnm htab S hl
  have hl : lv_has ls 2 [(0, .ref a0), (1, .int xp1)] := hl
  unfold qw_X11_versionCount at w
  refine ql_aload_n (r := (some a0)) C dX11_versionCount_0 rfl (lv_at hl 0 rfl) ?_
  refine lv_iload_n C.1.1 C.1.2.1 dX11_versionCount_1 rfl (lv_at hl 1 rfl) ?_
  refine ql_VR (As := [.int xp1]) (rest := []) C S htab hlocks hl qy_X11_clauseOf qi_X11_clauseOf qs_X11_clauseOf gw_995 (ci := 12) rfl w (fun b w => qm_X11_clauseOf l hl9 D _ b xp1 _ _ w) rfl ⟨Nat.le_of_ble_eq_true rfl, Nat.le_of_ble_eq_true rfl⟩ ⟨rfl, rfl⟩ (by exact Nat.le_of_ble_eq_true rfl) (fun b e9 => by cases e9; rfl) dX11_versionCount_2 ⟨Nat.le_of_ble_eq_true rfl, Nat.le_of_ble_eq_true rfl⟩ ⟨Nat.le_of_ble_eq_true rfl, Nat.le_of_ble_eq_true rfl⟩ (fun r1 h H locs S w => ?_)
  refine W.cs (cells' := 1) (slots' := 6) rfl rfl ?_
  refine ql_VI (As := []) (rest := []) C S htab hlocks hl qy_X3_countVersions qi_X3_countVersions qs_X3_countVersions gw_1068 (ci := 6) rfl w (fun b w => qm_X3_countVersions l hl9 D _ b _ _ w) rfl ⟨Nat.le_of_ble_eq_true rfl, Nat.le_of_ble_eq_true rfl⟩ ⟨rfl, rfl⟩ (by exact Nat.le_of_ble_eq_true rfl) (fun b e9 => by cases e9; rfl) dX11_versionCount_5 ⟨Nat.le_of_ble_eq_true rfl, Nat.le_of_ble_eq_true rfl⟩ ⟨Nat.le_of_ble_eq_true rfl, Nat.le_of_ble_eq_true rfl⟩ (fun x3 h H locs S w => ?_)
  refine W.cs (cells' := 1) (slots' := 6) rfl rfl ?_
  exact ql_iret C S hr hlocks dX11_versionCount_8 ⟨Nat.le_of_ble_eq_true rfl, Nat.le_of_ble_eq_true rfl⟩ w
def qw_X11_textOn (rp0 : Option Nat) (xp1 : Int32) (h : ql_H) (Q : Int64 → ql_H → Prop) (X : String → ql_H → Prop) : Prop :=
ql_rv h rp0 6 fun b1 => qw_X3_textOnDay b1 xp1 h (fun j1 h =>
if (lg_cmp j1 (0 : Int64)) = 0 then (∀ n9 : Nat, h.1 ≤ n9 → X "java/util/NoSuchElementException" (n9, h.2)) else (Q j1 h))
set_option maxHeartbeats 4000000 in
set_option maxRecDepth 100000 in
theorem qm_X11_textOn (l : Launch) (hl9 : l.stackTraces = false) (D : ql_D) (h0 : ql_H) (rp0 : Option Nat) (xp1 : Int32) (Q : Int64 → ql_H → Prop) (X : String → ql_H → Prop) (w : qw_X11_textOn rp0 xp1 h0 Q X) : ql_M D l yX11_textOn cX11_textOn 4 (some .long) ({ frames := 8, cells := 1, slots := 6, locals := 110 } : Room) h0 [va_rf rp0, .int xp1] (ql_rJ Q) X 1 6 := by
  refine ql_ofW (by decide) (by cases rp0 <;> exact Nat.le_of_ble_eq_true rfl) ?_
  intro p e s m below meth c ls C hr hlocks hnm htab S hl
  rw [show lv_args 0 [va_rf rp0, .int xp1] = [(0, va_rf rp0), (1, .int xp1)] from by cases rp0 <;> rfl] at hl
  unfold qw_X11_textOn at w
  refine ql_aload_n (r := rp0) C dX11_textOn_0 rfl (lv_at hl 0 rfl) ?_
  refine lv_iload_n C.1.1 C.1.2.1 dX11_textOn_1 rfl (lv_at hl 1 rfl) ?_
  refine ql_VJ (As := [.int xp1]) (rest := []) C S htab hlocks hl qy_X3_textOnDay qi_X3_textOnDay qs_X3_textOnDay gw_710 (ci := 6) rfl w (fun b w => qm_X3_textOnDay l hl9 D _ b xp1 _ _ w) rfl ⟨Nat.le_of_ble_eq_true rfl, Nat.le_of_ble_eq_true rfl⟩ ⟨rfl, rfl⟩ (by exact Nat.le_of_ble_eq_true rfl) (fun b e9 => by cases e9; rfl) dX11_textOn_2 ⟨Nat.le_of_ble_eq_true rfl, Nat.le_of_ble_eq_true rfl⟩ ⟨Nat.le_of_ble_eq_true rfl, Nat.le_of_ble_eq_true rfl⟩ (fun j1 h H locs S w => ?_)
  refine W.cs (cells' := 0) (slots' := 0) rfl rfl ?_
  refine lv_lstore_n (lv' := [(2, .long j1), (0, va_rf rp0), (1, .int xp1)]) C.1.1 C.1.2.1 dX11_textOn_5 rfl hl (by decide) rfl (fun ls hl => ?_)
  refine lv_lload_n C.1.1 C.1.2.1 dX11_textOn_6 rfl (lv_at hl 0 rfl) ?_
  refine lv_lconst (v := (0 : Int64)) C.1.1 C.1.2.1 dX11_textOn_7 (by decide) ?_
  refine W.lcmp C.1.1 C.1.2.1 dX11_textOn_8 ?_
  refine lv_if_ne (tgt := 20) C.1.1 C.1.2.1 dX11_textOn_9 (by decide) (fun c9 => ?_) (fun c9 => ?_)
  · replace w := ql_ifn w c9
    refine lv_lload_n C.1.1 C.1.2.1 dX11_textOn_20 rfl (lv_at hl 0 rfl) ?_
    exact ql_lret C S hr hlocks dX11_textOn_21 ⟨Nat.le_of_ble_eq_true rfl, Nat.le_of_ble_eq_true rfl⟩ w
  · replace w := ql_if w c9
    exact ql_throw trivial C S qx_RX11_123 gw_488 gw_92 hl htab hlocks hl9 dX11_textOn_12 dX11_textOn_15 dX11_textOn_16 dX11_textOn_19 ⟨Nat.le_of_ble_eq_true rfl, Nat.le_of_ble_eq_true rfl, Nat.le_of_ble_eq_true rfl⟩ (by exact Nat.le_of_ble_eq_true rfl) ⟨Nat.le_of_ble_eq_true rfl, Nat.le_of_ble_eq_true rfl⟩ w
def qw_X11_lengthOn (a0 : Nat) (xp1 : Int32) (xp2 : Int32) (h : ql_H) (Q : Int32 → ql_H → Prop) (X : String → ql_H → Prop) : Prop :=
ql_rv h (some a0) 12 fun b1 => qw_X11_clauseOf b1 xp1 h (fun r1 h =>
qw_X11_textOn r1 xp2 h (fun j3 h =>
qw_X9_lengthOf j3 h (fun x4 h =>
Q x4 h)) X) X
set_option maxHeartbeats 4000000 in
set_option maxRecDepth 100000 in
theorem qm_X11_lengthOn (l : Launch) (hl9 : l.stackTraces = false) (D : ql_D) (h0 : ql_H) (a0 : Nat) (xp1 : Int32) (xp2 : Int32) (Q : Int32 → ql_H → Prop) (X : String → ql_H → Prop) (w : qw_X11_lengthOn a0 xp1 xp2 h0 Q X) : ql_M D l yX11_lengthOn cX11_lengthOn 3 (some .int) ({ frames := 12, cells := 2, slots := 12, locals := 158 } : Room) h0 [.ref a0, .int xp1, .int xp2] (ql_rI Q) X 2 12 := by
  refine ql_ofW (by decide) (Nat.le_of_ble_eq_true rfl) ?_
  intro p e s m below meth c ls C hr hlocks hnm htab S hl
  have hl : lv_has ls 3 [(0, .ref a0), (1, .int xp1), (2, .int xp2)] := hl
  unfold qw_X11_lengthOn at w
  refine ql_aload_n (r := (some a0)) C dX11_lengthOn_0 rfl (lv_at hl 0 rfl) ?_
  refine lv_iload_n C.1.1 C.1.2.1 dX11_lengthOn_1 rfl (lv_at hl 1 rfl) ?_
  refine ql_VR (As := [.int xp1]) (rest := []) C S htab hlocks hl qy_X11_clauseOf qi_X11_clauseOf qs_X11_clauseOf gw_995 (ci := 12) rfl w (fun b w => qm_X11_clauseOf l hl9 D _ b xp1 _ _ w) rfl ⟨Nat.le_of_ble_eq_true rfl, Nat.le_of_ble_eq_true rfl⟩ ⟨rfl, rfl⟩ (by exact Nat.le_of_ble_eq_true rfl) (fun b e9 => by cases e9; rfl) dX11_lengthOn_2 ⟨Nat.le_of_ble_eq_true rfl, Nat.le_of_ble_eq_true rfl⟩ ⟨Nat.le_of_ble_eq_true rfl, Nat.le_of_ble_eq_true rfl⟩ (fun r1 h H locs S w => ?_)
  refine W.cs (cells' := 1) (slots' := 6) rfl rfl ?_
  refine lv_iload_n C.1.1 C.1.2.1 dX11_lengthOn_5 rfl (lv_at hl 2 rfl) ?_
  refine ql_SJ (As := [va_rf r1, .int xp2]) (rest := []) C S htab hlocks hl qy_X11_textOn qi_X11_textOn gw_1076 (qm_X11_textOn l hl9 D _ r1 xp2 _ _ w) rfl ⟨Nat.le_of_ble_eq_true rfl, Nat.le_of_ble_eq_true rfl⟩ ⟨rfl, rfl⟩ (by exact Nat.le_of_ble_eq_true rfl) rfl dX11_lengthOn_6 ⟨Nat.le_of_ble_eq_true rfl, Nat.le_of_ble_eq_true rfl⟩ ⟨Nat.le_of_ble_eq_true rfl, Nat.le_of_ble_eq_true rfl⟩ (fun j3 h H locs S w => ?_)
  refine W.cs (cells' := 2) (slots' := 12) rfl rfl ?_
  refine ql_SI (As := [.long j3]) (rest := []) C S htab hlocks hl qy_X9_lengthOf qi_X9_lengthOf gw_1049 (qm_X9_lengthOf l hl9 D _ j3 _ _ w) rfl ⟨Nat.le_of_ble_eq_true rfl, Nat.le_of_ble_eq_true rfl⟩ ⟨rfl, rfl⟩ (by exact Nat.le_of_ble_eq_true rfl) rfl dX11_lengthOn_9 ⟨Nat.le_of_ble_eq_true rfl, Nat.le_of_ble_eq_true rfl⟩ ⟨Nat.le_of_ble_eq_true rfl, Nat.le_of_ble_eq_true rfl⟩ (fun x4 h H locs S w => ?_)
  refine W.cs (cells' := 2) (slots' := 12) rfl rfl ?_
  exact ql_iret C S hr hlocks dX11_lengthOn_12 ⟨Nat.le_of_ble_eq_true rfl, Nat.le_of_ble_eq_true rfl⟩ w
def qw_X11_noteOn (a0 : Nat) (xp1 : Int32) (xp2 : Int32) (xp3 : Int32) (h : ql_H) (Q : Int32 → ql_H → Prop) (X : String → ql_H → Prop) : Prop :=
ql_rv h (some a0) 12 fun b1 => qw_X11_clauseOf b1 xp1 h (fun r1 h =>
qw_X11_textOn r1 xp2 h (fun j3 h =>
qw_X11_noteOfText j3 xp3 h (fun x4 h =>
ql_nz .char x4 ∧ Q x4 h) X) X) X
set_option maxHeartbeats 4000000 in
set_option maxRecDepth 100000 in
theorem qm_X11_noteOn (l : Launch) (hl9 : l.stackTraces = false) (D : ql_D) (h0 : ql_H) (a0 : Nat) (xp1 : Int32) (xp2 : Int32) (xp3 : Int32) (Q : Int32 → ql_H → Prop) (X : String → ql_H → Prop) (w : qw_X11_noteOn a0 xp1 xp2 xp3 h0 Q X) : ql_M D l yX11_noteOn cX11_noteOn 4 (some .char) ({ frames := 12, cells := 3, slots := 18, locals := 158 } : Room) h0 [.ref a0, .int xp1, .int xp2, .int xp3] (ql_rI Q) X 3 18 := by
  refine ql_ofW (by decide) (Nat.le_of_ble_eq_true rfl) ?_
  intro p e s m below meth c ls C hr hlocks hnm htab S hl
  have hl : lv_has ls 4 [(0, .ref a0), (1, .int xp1), (2, .int xp2), (3, .int xp3)] := hl
  unfold qw_X11_noteOn at w
  refine ql_aload_n (r := (some a0)) C dX11_noteOn_0 rfl (lv_at hl 0 rfl) ?_
  refine lv_iload_n C.1.1 C.1.2.1 dX11_noteOn_1 rfl (lv_at hl 1 rfl) ?_
  refine ql_VR (As := [.int xp1]) (rest := []) C S htab hlocks hl qy_X11_clauseOf qi_X11_clauseOf qs_X11_clauseOf gw_995 (ci := 12) rfl w (fun b w => qm_X11_clauseOf l hl9 D _ b xp1 _ _ w) rfl ⟨Nat.le_of_ble_eq_true rfl, Nat.le_of_ble_eq_true rfl⟩ ⟨rfl, rfl⟩ (by exact Nat.le_of_ble_eq_true rfl) (fun b e9 => by cases e9; rfl) dX11_noteOn_2 ⟨Nat.le_of_ble_eq_true rfl, Nat.le_of_ble_eq_true rfl⟩ ⟨Nat.le_of_ble_eq_true rfl, Nat.le_of_ble_eq_true rfl⟩ (fun r1 h H locs S w => ?_)
  refine W.cs (cells' := 1) (slots' := 6) rfl rfl ?_
  refine lv_iload_n C.1.1 C.1.2.1 dX11_noteOn_5 rfl (lv_at hl 2 rfl) ?_
  refine ql_SJ (As := [va_rf r1, .int xp2]) (rest := []) C S htab hlocks hl qy_X11_textOn qi_X11_textOn gw_1076 (qm_X11_textOn l hl9 D _ r1 xp2 _ _ w) rfl ⟨Nat.le_of_ble_eq_true rfl, Nat.le_of_ble_eq_true rfl⟩ ⟨rfl, rfl⟩ (by exact Nat.le_of_ble_eq_true rfl) rfl dX11_noteOn_6 ⟨Nat.le_of_ble_eq_true rfl, Nat.le_of_ble_eq_true rfl⟩ ⟨Nat.le_of_ble_eq_true rfl, Nat.le_of_ble_eq_true rfl⟩ (fun j3 h H locs S w => ?_)
  refine W.cs (cells' := 2) (slots' := 12) rfl rfl ?_
  refine lv_iload_n C.1.1 C.1.2.1 dX11_noteOn_9 rfl (lv_at hl 3 rfl) ?_
  refine ql_SI (As := [.long j3, .int xp3]) (rest := []) C S htab hlocks hl qy_X11_noteOfText qi_X11_noteOfText gw_1057 (qm_X11_noteOfText l hl9 D _ j3 xp3 _ _ w) rfl ⟨Nat.le_of_ble_eq_true rfl, Nat.le_of_ble_eq_true rfl⟩ ⟨rfl, rfl⟩ (by exact Nat.le_of_ble_eq_true rfl) rfl dX11_noteOn_10 ⟨Nat.le_of_ble_eq_true rfl, Nat.le_of_ble_eq_true rfl⟩ ⟨Nat.le_of_ble_eq_true rfl, Nat.le_of_ble_eq_true rfl⟩ (fun x4 h H locs S w => ?_)
  refine W.cs (cells' := 3) (slots' := 18) rfl rfl ?_
  exact ql_zret C S hr hlocks dX11_noteOn_13 ⟨Nat.le_of_ble_eq_true rfl, Nat.le_of_ble_eq_true rfl⟩ w
def qw_X11_difference (a0 : Nat) (xp1 : Int32) (xp2 : Int32) (xp3 : Int32) (h : ql_H) (Q : Int32 → ql_H → Prop) (X : String → ql_H → Prop) : Prop :=
ql_rv h (some a0) 12 fun b1 => qw_X11_clauseOf b1 xp1 h (fun r1 h =>
ql_gR h (some a0) 12 8 fun r3 =>
qw_X11_textOn r1 xp2 h (fun j4 h =>
qw_X11_textOn r1 xp3 h (fun j5 h =>
ql_rv h r3 8 fun b6 => qw_X5_byBeginnings b6 j4 j5 h (fun x6 h =>
Q x6 h)) X) X) X
set_option maxHeartbeats 4000000 in
set_option maxRecDepth 100000 in
theorem qm_X11_difference (l : Launch) (hl9 : l.stackTraces = false) (D : ql_D) (h0 : ql_H) (a0 : Nat) (xp1 : Int32) (xp2 : Int32) (xp3 : Int32) (Q : Int32 → ql_H → Prop) (X : String → ql_H → Prop) (w : qw_X11_difference a0 xp1 xp2 xp3 h0 Q X) : ql_M D l yX11_difference cX11_difference 5 (some .int) ({ frames := 12, cells := 3, slots := 18, locals := 158 } : Room) h0 [.ref a0, .int xp1, .int xp2, .int xp3] (ql_rI Q) X 3 18 := by
  refine ql_ofW (by decide) (Nat.le_of_ble_eq_true rfl) ?_
  intro p e s m below meth c ls C hr hlocks hnm htab S hl
  have hl : lv_has ls 5 [(0, .ref a0), (1, .int xp1), (2, .int xp2), (3, .int xp3)] := hl
  unfold qw_X11_difference at w
  refine ql_aload_n (r := (some a0)) C dX11_difference_0 rfl (lv_at hl 0 rfl) ?_
  refine lv_iload_n C.1.1 C.1.2.1 dX11_difference_1 rfl (lv_at hl 1 rfl) ?_
  refine ql_VR (As := [.int xp1]) (rest := []) C S htab hlocks hl qy_X11_clauseOf qi_X11_clauseOf qs_X11_clauseOf gw_995 (ci := 12) rfl w (fun b w => qm_X11_clauseOf l hl9 D _ b xp1 _ _ w) rfl ⟨Nat.le_of_ble_eq_true rfl, Nat.le_of_ble_eq_true rfl⟩ ⟨rfl, rfl⟩ (by exact Nat.le_of_ble_eq_true rfl) (fun b e9 => by cases e9; rfl) dX11_difference_2 ⟨Nat.le_of_ble_eq_true rfl, Nat.le_of_ble_eq_true rfl⟩ ⟨Nat.le_of_ble_eq_true rfl, Nat.le_of_ble_eq_true rfl⟩ (fun r1 h H locs S w => ?_)
  refine W.cs (cells' := 1) (slots' := 6) rfl rfl ?_
  refine ql_astore (lv' := [(4, va_rf r1), (0, .ref a0), (1, .int xp1), (2, .int xp2), (3, .int xp3)]) C dX11_difference_5 hl (by decide) rfl (fun ls hl => ?_)
  refine ql_aload_n (r := (some a0)) C dX11_difference_7 rfl (lv_at hl 1 rfl) ?_
  refine ql_getR C S qf_12_8 gw_356 dX11_difference_8 w (fun r3 w => ?_)
  refine ql_aload (r := r1) C dX11_difference_11 (lv_at hl 0 rfl) ?_
  refine lv_iload_n C.1.1 C.1.2.1 dX11_difference_13 rfl (lv_at hl 3 rfl) ?_
  refine ql_SJ (As := [va_rf r1, .int xp2]) (rest := [va_rf r3]) C S htab hlocks hl qy_X11_textOn qi_X11_textOn gw_1076 (qm_X11_textOn l hl9 D _ r1 xp2 _ _ w) rfl ⟨Nat.le_of_ble_eq_true rfl, Nat.le_of_ble_eq_true rfl⟩ ⟨rfl, rfl⟩ (by generalize r3 = z0; cases z0 <;> exact Nat.le_of_ble_eq_true rfl) rfl dX11_difference_14 ⟨Nat.le_of_ble_eq_true rfl, Nat.le_of_ble_eq_true rfl⟩ ⟨Nat.le_of_ble_eq_true rfl, Nat.le_of_ble_eq_true rfl⟩ (fun j4 h H locs S w => ?_)
  refine W.cs (cells' := 2) (slots' := 12) rfl rfl ?_
  refine ql_aload (r := r1) C dX11_difference_17 (lv_at hl 0 rfl) ?_
  refine lv_iload_n C.1.1 C.1.2.1 dX11_difference_19 rfl (lv_at hl 4 rfl) ?_
  refine ql_SJ (As := [va_rf r1, .int xp3]) (rest := [.long j4, va_rf r3]) C S htab hlocks hl qy_X11_textOn qi_X11_textOn gw_1076 (qm_X11_textOn l hl9 D _ r1 xp3 _ _ w) rfl ⟨Nat.le_of_ble_eq_true rfl, Nat.le_of_ble_eq_true rfl⟩ ⟨rfl, rfl⟩ (by generalize r3 = z0; cases z0 <;> exact Nat.le_of_ble_eq_true rfl) rfl dX11_difference_20 ⟨Nat.le_of_ble_eq_true rfl, Nat.le_of_ble_eq_true rfl⟩ ⟨Nat.le_of_ble_eq_true rfl, Nat.le_of_ble_eq_true rfl⟩ (fun j5 h H locs S w => ?_)
  refine W.cs (cells' := 3) (slots' := 18) rfl rfl ?_
  refine ql_VI (As := [.long j4, .long j5]) (rest := []) C S htab hlocks hl qy_X5_byBeginnings qi_X5_byBeginnings qs_X5_byBeginnings gw_714 (ci := 8) rfl w (fun b w => qm_X5_byBeginnings l hl9 D _ b j4 j5 _ _ w) rfl ⟨Nat.le_of_ble_eq_true rfl, Nat.le_of_ble_eq_true rfl⟩ ⟨rfl, rfl⟩ (by exact Nat.le_of_ble_eq_true rfl) (fun b e9 => by cases e9; rfl) dX11_difference_23 ⟨Nat.le_of_ble_eq_true rfl, Nat.le_of_ble_eq_true rfl⟩ ⟨Nat.le_of_ble_eq_true rfl, Nat.le_of_ble_eq_true rfl⟩ (fun x6 h H locs S w => ?_)
  refine W.cs (cells' := 3) (slots' := 18) rfl rfl ?_
  exact ql_iret C S hr hlocks dX11_difference_26 ⟨Nat.le_of_ble_eq_true rfl, Nat.le_of_ble_eq_true rfl⟩ w
def qw_X11_differenceByEnds (a0 : Nat) (xp1 : Int32) (xp2 : Int32) (xp3 : Int32) (h : ql_H) (Q : Int32 → ql_H → Prop) (X : String → ql_H → Prop) : Prop :=
ql_rv h (some a0) 12 fun b1 => qw_X11_clauseOf b1 xp1 h (fun r1 h =>
ql_gR h (some a0) 12 8 fun r3 =>
qw_X11_textOn r1 xp2 h (fun j4 h =>
qw_X11_textOn r1 xp3 h (fun j5 h =>
ql_rv h r3 8 fun b6 => qw_X5_byEnds b6 j4 j5 h (fun x6 h =>
Q x6 h)) X) X) X
set_option maxHeartbeats 4000000 in
set_option maxRecDepth 100000 in
theorem qm_X11_differenceByEnds (l : Launch) (hl9 : l.stackTraces = false) (D : ql_D) (h0 : ql_H) (a0 : Nat) (xp1 : Int32) (xp2 : Int32) (xp3 : Int32) (Q : Int32 → ql_H → Prop) (X : String → ql_H → Prop) (w : qw_X11_differenceByEnds a0 xp1 xp2 xp3 h0 Q X) : ql_M D l yX11_differenceByEnds cX11_differenceByEnds 5 (some .int) ({ frames := 12, cells := 3, slots := 18, locals := 158 } : Room) h0 [.ref a0, .int xp1, .int xp2, .int xp3] (ql_rI Q) X 3 18 := by
  refine ql_ofW (by decide) (Nat.le_of_ble_eq_true rfl) ?_
  intro p e s m below meth c ls C hr hlocks hnm htab S hl
  have hl : lv_has ls 5 [(0, .ref a0), (1, .int xp1), (2, .int xp2), (3, .int xp3)] := hl
  unfold qw_X11_differenceByEnds at w
  refine ql_aload_n (r := (some a0)) C dX11_differenceByEnds_0 rfl (lv_at hl 0 rfl) ?_
  refine lv_iload_n C.1.1 C.1.2.1 dX11_differenceByEnds_1 rfl (lv_at hl 1 rfl) ?_
  refine ql_VR (As := [.int xp1]) (rest := []) C S htab hlocks hl qy_X11_clauseOf qi_X11_clauseOf qs_X11_clauseOf gw_995 (ci := 12) rfl w (fun b w => qm_X11_clauseOf l hl9 D _ b xp1 _ _ w) rfl ⟨Nat.le_of_ble_eq_true rfl, Nat.le_of_ble_eq_true rfl⟩ ⟨rfl, rfl⟩ (by exact Nat.le_of_ble_eq_true rfl) (fun b e9 => by cases e9; rfl) dX11_differenceByEnds_2 ⟨Nat.le_of_ble_eq_true rfl, Nat.le_of_ble_eq_true rfl⟩ ⟨Nat.le_of_ble_eq_true rfl, Nat.le_of_ble_eq_true rfl⟩ (fun r1 h H locs S w => ?_)
  refine W.cs (cells' := 1) (slots' := 6) rfl rfl ?_
  refine ql_astore (lv' := [(4, va_rf r1), (0, .ref a0), (1, .int xp1), (2, .int xp2), (3, .int xp3)]) C dX11_differenceByEnds_5 hl (by decide) rfl (fun ls hl => ?_)
  refine ql_aload_n (r := (some a0)) C dX11_differenceByEnds_7 rfl (lv_at hl 1 rfl) ?_
  refine ql_getR C S qf_12_8 gw_356 dX11_differenceByEnds_8 w (fun r3 w => ?_)
  refine ql_aload (r := r1) C dX11_differenceByEnds_11 (lv_at hl 0 rfl) ?_
  refine lv_iload_n C.1.1 C.1.2.1 dX11_differenceByEnds_13 rfl (lv_at hl 3 rfl) ?_
  refine ql_SJ (As := [va_rf r1, .int xp2]) (rest := [va_rf r3]) C S htab hlocks hl qy_X11_textOn qi_X11_textOn gw_1076 (qm_X11_textOn l hl9 D _ r1 xp2 _ _ w) rfl ⟨Nat.le_of_ble_eq_true rfl, Nat.le_of_ble_eq_true rfl⟩ ⟨rfl, rfl⟩ (by generalize r3 = z0; cases z0 <;> exact Nat.le_of_ble_eq_true rfl) rfl dX11_differenceByEnds_14 ⟨Nat.le_of_ble_eq_true rfl, Nat.le_of_ble_eq_true rfl⟩ ⟨Nat.le_of_ble_eq_true rfl, Nat.le_of_ble_eq_true rfl⟩ (fun j4 h H locs S w => ?_)
  refine W.cs (cells' := 2) (slots' := 12) rfl rfl ?_
  refine ql_aload (r := r1) C dX11_differenceByEnds_17 (lv_at hl 0 rfl) ?_
  refine lv_iload_n C.1.1 C.1.2.1 dX11_differenceByEnds_19 rfl (lv_at hl 4 rfl) ?_
  refine ql_SJ (As := [va_rf r1, .int xp3]) (rest := [.long j4, va_rf r3]) C S htab hlocks hl qy_X11_textOn qi_X11_textOn gw_1076 (qm_X11_textOn l hl9 D _ r1 xp3 _ _ w) rfl ⟨Nat.le_of_ble_eq_true rfl, Nat.le_of_ble_eq_true rfl⟩ ⟨rfl, rfl⟩ (by generalize r3 = z0; cases z0 <;> exact Nat.le_of_ble_eq_true rfl) rfl dX11_differenceByEnds_20 ⟨Nat.le_of_ble_eq_true rfl, Nat.le_of_ble_eq_true rfl⟩ ⟨Nat.le_of_ble_eq_true rfl, Nat.le_of_ble_eq_true rfl⟩ (fun j5 h H locs S w => ?_)
  refine W.cs (cells' := 3) (slots' := 18) rfl rfl ?_
  refine ql_VI (As := [.long j4, .long j5]) (rest := []) C S htab hlocks hl qy_X5_byEnds qi_X5_byEnds qs_X5_byEnds gw_728 (ci := 8) rfl w (fun b w => qm_X5_byEnds l hl9 D _ b j4 j5 _ _ w) rfl ⟨Nat.le_of_ble_eq_true rfl, Nat.le_of_ble_eq_true rfl⟩ ⟨rfl, rfl⟩ (by exact Nat.le_of_ble_eq_true rfl) (fun b e9 => by cases e9; rfl) dX11_differenceByEnds_23 ⟨Nat.le_of_ble_eq_true rfl, Nat.le_of_ble_eq_true rfl⟩ ⟨Nat.le_of_ble_eq_true rfl, Nat.le_of_ble_eq_true rfl⟩ (fun x6 h H locs S w => ?_)
  refine W.cs (cells' := 3) (slots' := 18) rfl rfl ?_
  exact ql_iret C S hr hlocks dX11_differenceByEnds_26 ⟨Nat.le_of_ble_eq_true rfl, Nat.le_of_ble_eq_true rfl⟩ w
