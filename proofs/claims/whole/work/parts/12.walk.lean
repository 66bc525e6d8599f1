def qw_X8_applyTo_2 (σ : Nat → Nat) (a0 : Nat) (Q : Int32 → ql_H → Prop) : Nat → Option Nat → Int32 → ql_H → Prop
  | 0, _, _, _ => False
  | n + 1, rl1, xl2, h =>
    ql_gI h (some a0) 10 2 fun x1 =>
    if x1 ≤ xl2 then (Q (-1 : Int32) h) else (ql_gR h (some a0) 10 1 fun r2 =>
    ql_len h r2 7 fun x3 =>
    if x3 ≤ xl2 then (Q (-1 : Int32) h) else (ql_gR h (some a0) 10 1 fun r4 =>
    ql_lR h r4 7 xl2 fun r5 =>
    ql_rv h r5 7 fun b6 => qw_X4_applyTo σ b6 rl1 h (fun x6 h =>
    if 0 ≤ x6 then (qw_X8_applyTo_2 σ a0 Q n rl1 (xl2 + (1 : Int32)) h) else (Q xl2 h))))
def qw_X8_applyTo (σ : Nat → Nat) (a0 : Nat) (rp1 : Option Nat) (h : ql_H) (Q : Int32 → ql_H → Prop) : Prop :=
qw_X8_applyTo_2 σ a0 Q ql_FU rp1 (0 : Int32) h
set_option maxHeartbeats 4000000 in
set_option maxRecDepth 100000 in
theorem qm_X8_applyTo (l : Launch) (hl9 : l.stackTraces = false) (D : ql_D) (h0 : ql_H) (a0 : Nat) (rp1 : Option Nat) (Q : Int32 → ql_H → Prop) (X : String → ql_H → Prop) (w : qw_X8_applyTo D.2 a0 rp1 h0 Q) : ql_M D l yX8_applyTo cX8_applyTo 3 (some .int) ({ frames := 14, cells := 0, slots := 0, locals := 231 } : Room) h0 [.ref a0, va_rf rp1] (ql_rI Q) X 0 0 := by
  refine ql_ofW (by decide) (by cases rp1 <;> exact Nat.le_of_ble_eq_true rfl) ?_
  intro p e s m below meth c ls C hr hlocks hnm htab S hl
  rw [show lv_args 0 [.ref a0, va_rf rp1] = [(0, .ref a0), (1, va_rf rp1)] from by cases rp1 <;> rfl] at hl
  have hB2 : ∀ n : Nat, ∀ (rl1 : Option Nat) (xl2 : Int32) (h : ql_H) (H : Heap) (locs : List Loc) (ls : Array Slot), ql_S D h0 s H locs h → lv_has ls 3 [(0, .ref a0), (1, va_rf rl1), (2, .int xl2)] → qw_X8_applyTo_2 D.2 a0 Q n rl1 xl2 h → W p l e ({ frames := 14, cells := 0, slots := 0, locals := 231 } : Room) s m ([.ref a0, va_rf rp1] : List Value).toArray below meth c H locs 0 0 (vx_MQ below (ql_Q D h0 (ql_rI Q)) (ql_X D h0 X) ([.ref a0, va_rf rp1] : List Value).toArray s 0 0 (ql_A h0)) (F0 m 2 ls []) := by
    intro n
    induction n with
    | zero => intro rl1 xl2 h H locs ls S hl w; rw [qw_X8_applyTo_2] at w; exact w.elim
    | succ n ih =>
      intro rl1 xl2 h H locs ls S hl w
      rw [qw_X8_applyTo_2] at w
      refine lv_iload_n C.1.1 C.1.2.1 dX8_applyTo_2 rfl (lv_at hl 2 rfl) ?_
      refine ql_aload_n (r := (some a0)) C dX8_applyTo_3 rfl (lv_at hl 0 rfl) ?_
      refine ql_getI C S qf_10_2 gw_292 dX8_applyTo_4 w (fun x1 w => ?_)
      refine lv_icmp_ge (tgt := 40) C.1.1 C.1.2.1 dX8_applyTo_7 (by decide) (fun c9 => ?_) (fun c9 => ?_)
      · replace w := ql_if w c9
        refine lv_iconst (v := (-1 : Int32)) C.1.1 C.1.2.1 dX8_applyTo_40 (by decide) ?_
        exact ql_iret C S hr hlocks dX8_applyTo_41 ⟨Nat.le_of_ble_eq_true rfl, Nat.le_of_ble_eq_true rfl⟩ w
      · replace w := ql_ifn w c9
        refine lv_iload_n C.1.1 C.1.2.1 dX8_applyTo_10 rfl (lv_at hl 2 rfl) ?_
        refine ql_aload_n (r := (some a0)) C dX8_applyTo_11 rfl (lv_at hl 0 rfl) ?_
        refine ql_getR C S qf_10_1 gw_291 dX8_applyTo_12 w (fun r2 w => ?_)
        refine ql_alen (kd := 7) C S rfl dX8_applyTo_15 w (fun x3 w => ?_)
        refine lv_icmp_ge (tgt := 40) C.1.1 C.1.2.1 dX8_applyTo_16 (by decide) (fun c9 => ?_) (fun c9 => ?_)
        · replace w := ql_if w c9
          refine lv_iconst (v := (-1 : Int32)) C.1.1 C.1.2.1 dX8_applyTo_40 (by decide) ?_
          exact ql_iret C S hr hlocks dX8_applyTo_41 ⟨Nat.le_of_ble_eq_true rfl, Nat.le_of_ble_eq_true rfl⟩ w
        · replace w := ql_ifn w c9
          refine ql_aload_n (r := (some a0)) C dX8_applyTo_19 rfl (lv_at hl 0 rfl) ?_
          refine ql_getR C S qf_10_1 gw_291 dX8_applyTo_20 w (fun r4 w => ?_)
          refine lv_iload_n C.1.1 C.1.2.1 dX8_applyTo_23 rfl (lv_at hl 2 rfl) ?_
          refine ql_aald (kd := 7) C S rfl rfl dX8_applyTo_24 w (fun r5 w => ?_)
          refine ql_aload_n (r := rl1) C dX8_applyTo_25 rfl (lv_at hl 1 rfl) ?_
          refine ql_VI (As := [va_rf rl1]) (rest := []) C S htab hlocks hl qy_X4_applyTo qi_X4_applyTo qs_X4_applyTo gw_1600 (ci := 7) rfl w (fun b w => qm_X4_applyTo l hl9 D _ b rl1 _ _ w) rfl ⟨Nat.le_of_ble_eq_true rfl, Nat.le_of_ble_eq_true rfl⟩ ⟨rfl, rfl⟩ (by exact Nat.le_of_ble_eq_true rfl) (fun b e9 => by cases e9; rfl) dX8_applyTo_26 ⟨Nat.le_of_ble_eq_true rfl, Nat.le_of_ble_eq_true rfl⟩ ⟨Nat.le_of_ble_eq_true rfl, Nat.le_of_ble_eq_true rfl⟩ (fun x6 h H locs S w => ?_)
          refine W.cs (cells' := 0) (slots' := 0) rfl rfl ?_
          refine lv_if_ge (tgt := 34) C.1.1 C.1.2.1 dX8_applyTo_29 (by decide) (fun c9 => ?_) (fun c9 => ?_)
          · replace w := ql_if w c9
            refine lv_iinc (v := (xl2 + (1 : Int32))) (lv' := [(2, .int (xl2 + (1 : Int32))), (0, .ref a0), (1, va_rf rl1)]) C.1.1 C.1.2.1 dX8_applyTo_34 hl (k := 2) rfl rfl (by decide) (by generalize rl1 = z9; cases z9 <;> rfl) (fun ls hl => ?_)
            refine lv_goto (tgt := 2) C.1.1 C.1.2.1 dX8_applyTo_37 (by decide) ?_
            exact ih rl1 (xl2 + (1 : Int32)) _ _ _ _ S (lv_sub hl [1, 2, 0] rfl) w
          · replace w := ql_ifn w c9
            refine lv_iload_n C.1.1 C.1.2.1 dX8_applyTo_32 rfl (lv_at hl 2 rfl) ?_
            exact ql_iret C S hr hlocks dX8_applyTo_33 ⟨Nat.le_of_ble_eq_true rfl, Nat.le_of_ble_eq_true rfl⟩ w
  unfold qw_X8_applyTo at w
  refine lv_iconst (v := (0 : Int32)) C.1.1 C.1.2.1 dX8_applyTo_0 (by decide) ?_
  refine lv_istore_n (lv' := [(2, .int (0 : Int32)), (0, .ref a0), (1, va_rf rp1)]) C.1.1 C.1.2.1 dX8_applyTo_1 rfl hl (by decide) (by generalize rp1 = z9; cases z9 <;> rfl) (fun ls hl => ?_)
  exact hB2 ql_FU rp1 (0 : Int32) _ _ _ _ S (lv_sub hl [1, 2, 0] rfl) w
def qw_J0_coder_7d493 (σ : Nat → Nat) (a0 : Nat) (h : ql_H) (Q : Int32 → ql_H → Prop) : Prop :=
if (1 : Int32) = 0 then (ql_nz .byte (1 : Int32) ∧ Q (1 : Int32) h) else (ql_st σ (some a0) fun k1 =>
ql_nz .byte (0 : Int32) ∧ Q (0 : Int32) h)
set_option maxHeartbeats 4000000 in
set_option maxRecDepth 100000 in
theorem qm_J0_coder_7d493 (l : Launch) (hl9 : l.stackTraces = false) (D : ql_D) (h0 : ql_H) (a0 : Nat) (Q : Int32 → ql_H → Prop) (X : String → ql_H → Prop) (w : qw_J0_coder_7d493 D.2 a0 h0 Q) : ql_M D l yJ0_coder_7d493 cJ0_coder_7d493 1 (some .byte) ({ frames := 2, cells := 0, slots := 0, locals := 48 } : Room) h0 [.ref a0] (ql_rI Q) X 0 0 := by
  refine ql_ofW (by decide +kernel) (Nat.le_of_ble_eq_true rfl) ?_
  intro p e s m below meth c ls C hr hlocks hnm htab S hl
  have hl : lv_has ls 1 [(0, .ref a0)] := hl
  unfold qw_J0_coder_7d493 at w
  refine ql_gs C S C.z.1.1 gw_1302 dJ0_coder_7d493_0 ?_
  refine lv_if_eq (tgt := 13) C.1.1 C.1.2.1 dJ0_coder_7d493_3 (by decide) (fun c9 => ?_) (fun c9 => ?_)
  · replace w := ql_if w c9
    refine lv_iconst (v := (1 : Int32)) C.1.1 C.1.2.1 dJ0_coder_7d493_13 (by decide) ?_
    exact ql_zret C S hr hlocks dJ0_coder_7d493_14 ⟨Nat.le_of_ble_eq_true rfl, Nat.le_of_ble_eq_true rfl⟩ w
  · replace w := ql_ifn w c9
    refine ql_aload_n (r := (some a0)) C dJ0_coder_7d493_6 rfl (lv_at hl 0 rfl) ?_
    refine ql_stcod C S gw_1422 dJ0_coder_7d493_7 w (fun k1 hk9 w => ?_)
    refine lv_goto (tgt := 14) C.1.1 C.1.2.1 dJ0_coder_7d493_10 (by decide) ?_
    exact ql_zret C S hr hlocks dJ0_coder_7d493_14 ⟨Nat.le_of_ble_eq_true rfl, Nat.le_of_ble_eq_true rfl⟩ w
def qw_J0_length_8abf5 (σ : Nat → Nat) (a0 : Nat) (h : ql_H) (Q : Int32 → ql_H → Prop) : Prop :=
ql_st σ (some a0) fun k1 =>
ql_sv σ (some (σ (300 + k1))) fun k2 =>
ql_st σ (some a0) fun b3 => qw_J0_coder_7d493 σ (σ (200 + b3))  h (fun x3 h =>
Q ((nI (ql_sl k2)) >>> (x3 &&& 31)) h)
set_option maxHeartbeats 4000000 in
set_option maxRecDepth 100000 in
theorem qm_J0_length_8abf5 (l : Launch) (hl9 : l.stackTraces = false) (D : ql_D) (h0 : ql_H) (a0 : Nat) (Q : Int32 → ql_H → Prop) (X : String → ql_H → Prop) (w : qw_J0_length_8abf5 D.2 a0 h0 Q) : ql_M D l yJ0_length_8abf5 cJ0_length_8abf5 1 (some .int) ({ frames := 4, cells := 0, slots := 0, locals := 76 } : Room) h0 [.ref a0] (ql_rI Q) X 0 0 := by
  refine ql_ofW (by decide +kernel) (Nat.le_of_ble_eq_true rfl) ?_
  intro p e s m below meth c ls C hr hlocks hnm htab S hl
  have hl : lv_has ls 1 [(0, .ref a0)] := hl
  unfold qw_J0_length_8abf5 at w
  refine ql_aload_n (r := (some a0)) C dJ0_length_8abf5_0 rfl (lv_at hl 0 rfl) ?_
  refine ql_stval C S gw_1421 dJ0_length_8abf5_1 w (fun k1 hk9 w => ?_)
  refine ql_stlen C S dJ0_length_8abf5_4 w (fun k2 hk9 w => ?_)
  refine ql_aload_n (r := (some a0)) C dJ0_length_8abf5_5 rfl (lv_at hl 0 rfl) ?_
  refine ql_TI (As := []) (rest := [.int (nI (ql_sl k2))]) C S htab hlocks hl qy_J0_coder_7d493 qi_J0_coder_7d493 gw_1300 gw_1298 w (fun k hk9 w => qm_J0_coder_7d493 l hl9 D _ (D.2 (200 + k)) _ _ w) rfl ⟨Nat.le_of_ble_eq_true rfl, Nat.le_of_ble_eq_true rfl⟩ ⟨rfl, rfl⟩ (by exact Nat.le_of_ble_eq_true rfl) (fun b e9 => by cases e9; rfl) dJ0_length_8abf5_6 ⟨Nat.le_of_ble_eq_true rfl, Nat.le_of_ble_eq_true rfl⟩ ⟨Nat.le_of_ble_eq_true rfl, Nat.le_of_ble_eq_true rfl⟩ (fun x3 h H locs S w => ?_)
  refine W.cs (cells' := 0) (slots' := 0) rfl rfl ?_
  refine lv_ishr C.1.1 C.1.2.1 dJ0_length_8abf5_9 ?_
  exact ql_iret C S hr hlocks dJ0_length_8abf5_10 ⟨Nat.le_of_ble_eq_true rfl, Nat.le_of_ble_eq_true rfl⟩ w
def qw_J0_isLatin1_aae02 (σ : Nat → Nat) (a0 : Nat) (h : ql_H) (Q : Int32 → ql_H → Prop) : Prop :=
if (1 : Int32) = 0 then (ql_nz .boolean (0 : Int32) ∧ Q (0 : Int32) h) else (ql_st σ (some a0) fun k1 =>
if (0 : Int32) = 0 then (ql_nz .boolean (1 : Int32) ∧ Q (1 : Int32) h) else (ql_nz .boolean (0 : Int32) ∧ Q (0 : Int32) h))
set_option maxHeartbeats 4000000 in
set_option maxRecDepth 100000 in
theorem qm_J0_isLatin1_aae02 (l : Launch) (hl9 : l.stackTraces = false) (D : ql_D) (h0 : ql_H) (a0 : Nat) (Q : Int32 → ql_H → Prop) (X : String → ql_H → Prop) (w : qw_J0_isLatin1_aae02 D.2 a0 h0 Q) : ql_M D l yJ0_isLatin1_aae02 cJ0_isLatin1_aae02 1 (some .boolean) ({ frames := 2, cells := 0, slots := 0, locals := 48 } : Room) h0 [.ref a0] (ql_rI Q) X 0 0 := by
  refine ql_ofW (by decide +kernel) (Nat.le_of_ble_eq_true rfl) ?_
  intro p e s m below meth c ls C hr hlocks hnm htab S hl
  have hl : lv_has ls 1 [(0, .ref a0)] := hl
  unfold qw_J0_isLatin1_aae02 at w
  refine ql_gs C S C.z.1.1 gw_1302 dJ0_isLatin1_aae02_0 ?_
  refine lv_if_eq (tgt := 17) C.1.1 C.1.2.1 dJ0_isLatin1_aae02_3 (by decide) (fun c9 => ?_) (fun c9 => ?_)
  · replace w := ql_if w c9
    refine lv_iconst (v := (0 : Int32)) C.1.1 C.1.2.1 dJ0_isLatin1_aae02_17 (by decide) ?_
    exact ql_zret C S hr hlocks dJ0_isLatin1_aae02_18 ⟨Nat.le_of_ble_eq_true rfl, Nat.le_of_ble_eq_true rfl⟩ w
  · replace w := ql_ifn w c9
    refine ql_aload_n (r := (some a0)) C dJ0_isLatin1_aae02_6 rfl (lv_at hl 0 rfl) ?_
    refine ql_stcod C S gw_1422 dJ0_isLatin1_aae02_7 w (fun k1 hk9 w => ?_)
    refine lv_if_ne (tgt := 17) C.1.1 C.1.2.1 dJ0_isLatin1_aae02_10 (by decide) (fun c9 => ?_) (fun c9 => ?_)
    · replace w := ql_ifn w c9
      refine lv_iconst (v := (0 : Int32)) C.1.1 C.1.2.1 dJ0_isLatin1_aae02_17 (by decide) ?_
      exact ql_zret C S hr hlocks dJ0_isLatin1_aae02_18 ⟨Nat.le_of_ble_eq_true rfl, Nat.le_of_ble_eq_true rfl⟩ w
    · replace w := ql_if w c9
      refine lv_iconst (v := (1 : Int32)) C.1.1 C.1.2.1 dJ0_isLatin1_aae02_13 (by decide) ?_
      refine lv_goto (tgt := 18) C.1.1 C.1.2.1 dJ0_isLatin1_aae02_14 (by decide) ?_
      exact ql_zret C S hr hlocks dJ0_isLatin1_aae02_18 ⟨Nat.le_of_ble_eq_true rfl, Nat.le_of_ble_eq_true rfl⟩ w
def qw_J3_checkIndex_8e157_9 (Q : Int32 → ql_H → Prop) (xl0 : Int32) (xl1 : Int32) (rl2 : Option Nat) (h : ql_H) : Prop :=
False
def qw_J3_checkIndex_8e157 (xp0 : Int32) (xp1 : Int32) (rp2 : Option Nat) (h : ql_H) (Q : Int32 → ql_H → Prop) : Prop :=
if xp0 < 0 then (qw_J3_checkIndex_8e157_9 Q xp0 xp1 rp2 h) else (if xp0 < xp1 then (Q xp0 h) else (qw_J3_checkIndex_8e157_9 Q xp0 xp1 rp2 h))
set_option maxHeartbeats 4000000 in
set_option maxRecDepth 100000 in
theorem qm_J3_checkIndex_8e157 (l : Launch) (hl9 : l.stackTraces = false) (D : ql_D) (h0 : ql_H) (xp0 : Int32) (xp1 : Int32) (rp2 : Option Nat) (Q : Int32 → ql_H → Prop) (X : String → ql_H → Prop) (w : qw_J3_checkIndex_8e157 xp0 xp1 rp2 h0 Q) : ql_M D l yJ3_checkIndex_8e157 cJ3_checkIndex_8e157 3 (some .int) ({ frames := 2, cells := 0, slots := 0, locals := 48 } : Room) h0 [.int xp0, .int xp1, va_rf rp2] (ql_rI Q) X 0 0 := by
  refine ql_ofW (by decide +kernel) (by cases rp2 <;> exact Nat.le_of_ble_eq_true rfl) ?_
  intro p e s m below meth c ls C hr hlocks hnm htab S hl
  rw [show lv_args 0 [.int xp0, .int xp1, va_rf rp2] = [(0, .int xp0), (1, .int xp1), (2, va_rf rp2)] from by cases rp2 <;> rfl] at hl
  have hB9 : ∀ (xl0 : Int32) (xl1 : Int32) (rl2 : Option Nat) (h : ql_H) (H : Heap) (locs : List Loc) (ls : Array Slot), ql_S D h0 s H locs h → lv_has ls 3 [(0, .int xl0), (1, .int xl1), (2, va_rf rl2)] → qw_J3_checkIndex_8e157_9 Q xl0 xl1 rl2 h → W p l e ({ frames := 2, cells := 0, slots := 0, locals := 48 } : Room) s m ([.int xp0, .int xp1, va_rf rp2] : List Value).toArray below meth c H locs 0 0 (vx_MQ below (ql_Q D h0 (ql_rI Q)) (ql_X D h0 X) ([.int xp0, .int xp1, va_rf rp2] : List Value).toArray s 0 0 (ql_A h0)) (F0 m 9 ls []) := by
    intro xl0 xl1 rl2 h H locs ls S hl w
    unfold qw_J3_checkIndex_8e157_9 at w
    refine ql_aload_n (r := rl2) C dJ3_checkIndex_8e157_9 rfl (lv_at hl 2 rfl) ?_
    refine lv_iload_n C.1.1 C.1.2.1 dJ3_checkIndex_8e157_10 rfl (lv_at hl 0 rfl) ?_
    refine lv_iload_n C.1.1 C.1.2.1 dJ3_checkIndex_8e157_11 rfl (lv_at hl 1 rfl) ?_
    exact w.elim
  unfold qw_J3_checkIndex_8e157 at w
  refine lv_iload_n C.1.1 C.1.2.1 dJ3_checkIndex_8e157_0 rfl (lv_at hl 0 rfl) ?_
  refine lv_if_lt (tgt := 9) C.1.1 C.1.2.1 dJ3_checkIndex_8e157_1 (by decide) (fun c9 => ?_) (fun c9 => ?_)
  · replace w := ql_if w c9
    exact hB9 xp0 xp1 rp2 _ _ _ _ S (lv_sub hl [0, 1, 2] rfl) w
  · replace w := ql_ifn w c9
    refine lv_iload_n C.1.1 C.1.2.1 dJ3_checkIndex_8e157_4 rfl (lv_at hl 0 rfl) ?_
    refine lv_iload_n C.1.1 C.1.2.1 dJ3_checkIndex_8e157_5 rfl (lv_at hl 1 rfl) ?_
    refine lv_icmp_lt (tgt := 16) C.1.1 C.1.2.1 dJ3_checkIndex_8e157_6 (by decide) (fun c9 => ?_) (fun c9 => ?_)
    · replace w := ql_if w c9
      refine lv_iload_n C.1.1 C.1.2.1 dJ3_checkIndex_8e157_16 rfl (lv_at hl 0 rfl) ?_
      exact ql_iret C S hr hlocks dJ3_checkIndex_8e157_17 ⟨Nat.le_of_ble_eq_true rfl, Nat.le_of_ble_eq_true rfl⟩ w
    · replace w := ql_ifn w c9
      exact hB9 xp0 xp1 rp2 _ _ _ _ S (lv_sub hl [0, 1, 2] rfl) w
def qw_J0_checkIndex_df160 (xp0 : Int32) (xp1 : Int32) (h : ql_H) (Q : ql_H → Prop) : Prop :=
∀ r1 : Option Nat,
qw_J3_checkIndex_8e157 xp0 xp1 r1 h (fun x2 h =>
Q h)
set_option maxHeartbeats 4000000 in
set_option maxRecDepth 100000 in
theorem qm_J0_checkIndex_df160 (l : Launch) (hl9 : l.stackTraces = false) (D : ql_D) (h0 : ql_H) (xp0 : Int32) (xp1 : Int32) (Q : ql_H → Prop) (X : String → ql_H → Prop) (w : qw_J0_checkIndex_df160 xp0 xp1 h0 Q) : ql_M D l yJ0_checkIndex_df160 cJ0_checkIndex_df160 2 none ({ frames := 4, cells := 0, slots := 0, locals := 78 } : Room) h0 [.int xp0, .int xp1] (ql_rV Q) X 0 0 := by
  refine ql_ofW (by decide +kernel) (Nat.le_of_ble_eq_true rfl) ?_
  intro p e s m below meth c ls C hr hlocks hnm htab S hl
  have hl : lv_has ls 2 [(0, .int xp0), (1, .int xp1)] := hl
  unfold qw_J0_checkIndex_df160 at w
  refine lv_iload_n C.1.1 C.1.2.1 dJ0_checkIndex_df160_0 rfl (lv_at hl 0 rfl) ?_
  refine lv_iload_n C.1.1 C.1.2.1 dJ0_checkIndex_df160_1 rfl (lv_at hl 1 rfl) ?_
  refine ql_gsQ C S C.z.1.2 gw_1280 dJ0_checkIndex_df160_2 w (fun r1 w => ?_)
  refine ql_SI (As := [.int xp0, .int xp1, va_rf r1]) (rest := []) C S htab hlocks hl qy_J3_checkIndex_8e157 qi_J3_checkIndex_8e157 gw_1482 (qm_J3_checkIndex_8e157 l hl9 D _ xp0 xp1 r1 _ _ w) rfl ⟨Nat.le_of_ble_eq_true rfl, Nat.le_of_ble_eq_true rfl⟩ ⟨rfl, rfl⟩ (by exact Nat.le_of_ble_eq_true rfl) rfl dJ0_checkIndex_df160_5 ⟨Nat.le_of_ble_eq_true rfl, Nat.le_of_ble_eq_true rfl⟩ ⟨Nat.le_of_ble_eq_true rfl, Nat.le_of_ble_eq_true rfl⟩ (fun x2 h H locs S w => ?_)
  refine W.cs (cells' := 0) (slots' := 0) rfl rfl ?_
  refine lv_pop C.1.1 C.1.2.1 dJ0_checkIndex_df160_8 rfl ?_
  exact ql_vret C S hr hlocks dJ0_checkIndex_df160_9 ⟨Nat.le_of_ble_eq_true rfl, Nat.le_of_ble_eq_true rfl⟩ w
def qw_J1_charAt_3b067 (σ : Nat → Nat) (rp0 : Option Nat) (xp1 : Int32) (h : ql_H) (Q : Int32 → ql_H → Prop) : Prop :=
ql_sv σ rp0 fun k1 =>
qw_J0_checkIndex_df160 xp1 (nI (ql_sl k1)) h (fun h =>
ql_sv σ rp0 fun k2 => vp_in xp1 (ql_sl k2) ∧
ql_nz .char (((ql_sb k2 xp1.toNatClampNeg) &&& (255 : Int32)).toUInt32 % 65536).toInt32 ∧ Q (((ql_sb k2 xp1.toNatClampNeg) &&& (255 : Int32)).toUInt32 % 65536).toInt32 h)
set_option maxHeartbeats 4000000 in
set_option maxRecDepth 100000 in
theorem qm_J1_charAt_3b067 (l : Launch) (hl9 : l.stackTraces = false) (D : ql_D) (h0 : ql_H) (rp0 : Option Nat) (xp1 : Int32) (Q : Int32 → ql_H → Prop) (X : String → ql_H → Prop) (w : qw_J1_charAt_3b067 D.2 rp0 xp1 h0 Q) : ql_M D l yJ1_charAt_3b067 cJ1_charAt_3b067 2 (some .char) ({ frames := 6, cells := 0, slots := 0, locals := 107 } : Room) h0 [va_rf rp0, .int xp1] (ql_rI Q) X 0 0 := by
  refine ql_ofW (by decide +kernel) (by cases rp0 <;> exact Nat.le_of_ble_eq_true rfl) ?_
  intro p e s m below meth c ls C hr hlocks hnm htab S hl
  rw [show lv_args 0 [va_rf rp0, .int xp1] = [(0, va_rf rp0), (1, .int xp1)] from by cases rp0 <;> rfl] at hl
  unfold qw_J1_charAt_3b067 at w
  refine lv_iload_n C.1.1 C.1.2.1 dJ1_charAt_3b067_0 rfl (lv_at hl 1 rfl) ?_
  refine ql_aload_n (r := rp0) C dJ1_charAt_3b067_1 rfl (lv_at hl 0 rfl) ?_
  refine ql_stlen C S dJ1_charAt_3b067_2 w (fun k1 hk9 w => ?_)
  refine ql_SV (As := [.int xp1, .int (nI (ql_sl k1))]) (rest := []) C S htab hlocks hl qy_J0_checkIndex_df160 qi_J0_checkIndex_df160 gw_1557 (qm_J0_checkIndex_df160 l hl9 D _ xp1 (nI (ql_sl k1)) _ _ w) rfl ⟨Nat.le_of_ble_eq_true rfl, Nat.le_of_ble_eq_true rfl⟩ ⟨rfl, rfl⟩ (by exact Nat.le_of_ble_eq_true rfl) rfl dJ1_charAt_3b067_3 ⟨Nat.le_of_ble_eq_true rfl, Nat.le_of_ble_eq_true rfl⟩ ⟨Nat.le_of_ble_eq_true rfl, Nat.le_of_ble_eq_true rfl⟩ (fun h H locs S w => ?_)
  refine W.cs (cells' := 0) (slots' := 0) rfl rfl ?_
  refine ql_aload_n (r := rp0) C dJ1_charAt_3b067_6 rfl (lv_at hl 0 rfl) ?_
  refine lv_iload_n C.1.1 C.1.2.1 dJ1_charAt_3b067_7 rfl (lv_at hl 1 rfl) ?_
  refine ql_stld C S dJ1_charAt_3b067_8 w (fun k2 hk9 w => ?_)
  refine lv_sipush (v := (255 : Int32)) C.1.1 C.1.2.1 dJ1_charAt_3b067_9 (by decide) ?_
  refine lv_iand C.1.1 C.1.2.1 dJ1_charAt_3b067_12 ?_
  refine lv_i2c C.1.1 C.1.2.1 dJ1_charAt_3b067_13 rfl ?_
  exact ql_zret C S hr hlocks dJ1_charAt_3b067_14 ⟨Nat.le_of_ble_eq_true rfl, Nat.le_of_ble_eq_true rfl⟩ w
def qw_J0_charAt_5068e (σ : Nat → Nat) (a0 : Nat) (xp1 : Int32) (h : ql_H) (Q : Int32 → ql_H → Prop) : Prop :=
ql_st σ (some a0) fun b1 => qw_J0_isLatin1_aae02 σ (σ (200 + b1))  h (fun x1 h =>
if x1 = 0 then (ql_st σ (some a0) fun k3 =>
False) else (ql_st σ (some a0) fun k4 =>
qw_J1_charAt_3b067 σ (some (σ (300 + k4))) xp1 h (fun x5 h =>
ql_nz .char x5 ∧ Q x5 h)))
set_option maxHeartbeats 4000000 in
set_option maxRecDepth 100000 in
theorem qm_J0_charAt_5068e (l : Launch) (hl9 : l.stackTraces = false) (D : ql_D) (h0 : ql_H) (a0 : Nat) (xp1 : Int32) (Q : Int32 → ql_H → Prop) (X : String → ql_H → Prop) (w : qw_J0_charAt_5068e D.2 a0 xp1 h0 Q) : ql_M D l yJ0_charAt_5068e cJ0_charAt_5068e 2 (some .char) ({ frames := 8, cells := 0, slots := 0, locals := 136 } : Room) h0 [.ref a0, .int xp1] (ql_rI Q) X 0 0 := by
  refine ql_ofW (by decide +kernel) (Nat.le_of_ble_eq_true rfl) ?_
  intro p e s m below meth c ls C hr hlocks hnm htab S hl
  have hl : lv_has ls 2 [(0, .ref a0), (1, .int xp1)] := hl
  unfold qw_J0_charAt_5068e at w
  refine ql_aload_n (r := (some a0)) C dJ0_charAt_5068e_0 rfl (lv_at hl 0 rfl) ?_
  refine ql_TI (As := []) (rest := []) C S htab hlocks hl qy_J0_isLatin1_aae02 qi_J0_isLatin1_aae02 gw_1552 gw_1550 w (fun k hk9 w => qm_J0_isLatin1_aae02 l hl9 D _ (D.2 (200 + k)) _ _ w) rfl ⟨Nat.le_of_ble_eq_true rfl, Nat.le_of_ble_eq_true rfl⟩ ⟨rfl, rfl⟩ (by exact Nat.le_of_ble_eq_true rfl) (fun b e9 => by cases e9; rfl) dJ0_charAt_5068e_1 ⟨Nat.le_of_ble_eq_true rfl, Nat.le_of_ble_eq_true rfl⟩ ⟨Nat.le_of_ble_eq_true rfl, Nat.le_of_ble_eq_true rfl⟩ (fun x1 h H locs S w => ?_)
  refine W.cs (cells' := 0) (slots' := 0) rfl rfl ?_
  refine lv_if_eq (tgt := 16) C.1.1 C.1.2.1 dJ0_charAt_5068e_4 (by decide) (fun c9 => ?_) (fun c9 => ?_)
  · replace w := ql_if w c9
    refine ql_aload_n (r := (some a0)) C dJ0_charAt_5068e_16 rfl (lv_at hl 0 rfl) ?_
    refine ql_stval C S gw_1421 dJ0_charAt_5068e_17 w (fun k3 hk9 w => ?_)
    refine lv_iload_n C.1.1 C.1.2.1 dJ0_charAt_5068e_20 rfl (lv_at hl 1 rfl) ?_
    exact w.elim
  · replace w := ql_ifn w c9
    refine ql_aload_n (r := (some a0)) C dJ0_charAt_5068e_7 rfl (lv_at hl 0 rfl) ?_
    refine ql_stval C S gw_1421 dJ0_charAt_5068e_8 w (fun k4 hk9 w => ?_)
    refine lv_iload_n C.1.1 C.1.2.1 dJ0_charAt_5068e_11 rfl (lv_at hl 1 rfl) ?_
    refine ql_SI (As := [va_rf (some (D.2 (300 + k4))), .int xp1]) (rest := []) C S htab hlocks hl qy_J1_charAt_3b067 qi_J1_charAt_3b067 gw_1554 (qm_J1_charAt_3b067 l hl9 D _ (some (D.2 (300 + k4))) xp1 _ _ w) rfl ⟨Nat.le_of_ble_eq_true rfl, Nat.le_of_ble_eq_true rfl⟩ ⟨rfl, rfl⟩ (by exact Nat.le_of_ble_eq_true rfl) rfl dJ0_charAt_5068e_12 ⟨Nat.le_of_ble_eq_true rfl, Nat.le_of_ble_eq_true rfl⟩ ⟨Nat.le_of_ble_eq_true rfl, Nat.le_of_ble_eq_true rfl⟩ (fun x5 h H locs S w => ?_)
    refine W.cs (cells' := 0) (slots' := 0) rfl rfl ?_
    exact ql_zret C S hr hlocks dJ0_charAt_5068e_15 ⟨Nat.le_of_ble_eq_true rfl, Nat.le_of_ble_eq_true rfl⟩ w
def qw_J5_charAt_5068e (a0 : Nat) (xp1 : Int32) (h : ql_H) (Q : Int32 → ql_H → Prop) : Prop :=
ql_gI h (some a0) 1 1 fun x1 =>
ql_gR h (some a0) 1 0 fun r2 =>
ql_gI h (some a0) 1 3 fun x3 =>
ql_len h r2 3 fun x4 =>
qw_J9_min_7cf53 x3 (x4 >>> (x1 &&& 31)) h (fun x5 h =>
qw_J0_checkIndex_df160 xp1 x5 h (fun h =>
if x1 = 0 then (ql_lI h r2 3 xp1 fun x6 =>
ql_nz .char ((x6 &&& (255 : Int32)).toUInt32 % 65536).toInt32 ∧ Q ((x6 &&& (255 : Int32)).toUInt32 % 65536).toInt32 h) else (False)))
set_option maxHeartbeats 4000000 in
set_option maxRecDepth 100000 in
theorem qm_J5_charAt_5068e (l : Launch) (hl9 : l.stackTraces = false) (D : ql_D) (h0 : ql_H) (a0 : Nat) (xp1 : Int32) (Q : Int32 → ql_H → Prop) (X : String → ql_H → Prop) (w : qw_J5_charAt_5068e a0 xp1 h0 Q) : ql_M D l yJ5_charAt_5068e cJ5_charAt_5068e 5 (some .char) ({ frames := 6, cells := 0, slots := 0, locals := 107 } : Room) h0 [.ref a0, .int xp1] (ql_rI Q) X 0 0 := by
  refine ql_ofW (by decide +kernel) (Nat.le_of_ble_eq_true rfl) ?_
  intro p e s m below meth c ls C hr hlocks hnm htab S hl
  have hl : lv_has ls 5 [(0, .ref a0), (1, .int xp1)] := hl
  unfold qw_J5_charAt_5068e at w
  refine ql_aload_n (r := (some a0)) C dJ5_charAt_5068e_0 rfl (lv_at hl 0 rfl) ?_
  refine ql_getI C S qf_1_1 gw_250 dJ5_charAt_5068e_1 w (fun x1 w => ?_)
  refine lv_istore_n (lv' := [(2, .int x1), (0, .ref a0), (1, .int xp1)]) C.1.1 C.1.2.1 dJ5_charAt_5068e_4 rfl hl (by decide) rfl (fun ls hl => ?_)
  refine ql_aload_n (r := (some a0)) C dJ5_charAt_5068e_5 rfl (lv_at hl 1 rfl) ?_
  refine ql_getR C S qf_1_0 gw_249 dJ5_charAt_5068e_6 w (fun r2 w => ?_)
  refine ql_astore_n (lv' := [(3, va_rf r2), (2, .int x1), (0, .ref a0), (1, .int xp1)]) C dJ5_charAt_5068e_9 rfl hl (by decide) rfl (fun ls hl => ?_)
  refine ql_aload_n (r := (some a0)) C dJ5_charAt_5068e_10 rfl (lv_at hl 2 rfl) ?_
  refine ql_getI C S qf_1_3 gw_253 dJ5_charAt_5068e_11 w (fun x3 w => ?_)
  refine ql_aload_n (r := r2) C dJ5_charAt_5068e_14 rfl (lv_at hl 0 rfl) ?_
  refine ql_alen (kd := 3) C S rfl dJ5_charAt_5068e_15 w (fun x4 w => ?_)
  refine lv_iload_n C.1.1 C.1.2.1 dJ5_charAt_5068e_16 rfl (lv_at hl 1 rfl) ?_
  refine lv_ishr C.1.1 C.1.2.1 dJ5_charAt_5068e_17 ?_
  refine ql_SI (As := [.int x3, .int (x4 >>> (x1 &&& 31))]) (rest := []) C S htab hlocks hl qy_J9_min_7cf53 qi_J9_min_7cf53 gw_1504 (qm_J9_min_7cf53 l hl9 D _ x3 (x4 >>> (x1 &&& 31)) _ _ w) rfl ⟨Nat.le_of_ble_eq_true rfl, Nat.le_of_ble_eq_true rfl⟩ ⟨rfl, rfl⟩ (by exact Nat.le_of_ble_eq_true rfl) rfl dJ5_charAt_5068e_18 ⟨Nat.le_of_ble_eq_true rfl, Nat.le_of_ble_eq_true rfl⟩ ⟨Nat.le_of_ble_eq_true rfl, Nat.le_of_ble_eq_true rfl⟩ (fun x5 h H locs S w => ?_)
  refine W.cs (cells' := 0) (slots' := 0) rfl rfl ?_
  refine lv_istore (lv' := [(4, .int x5), (3, va_rf r2), (2, .int x1), (0, .ref a0), (1, .int xp1)]) C.1.1 C.1.2.1 dJ5_charAt_5068e_21 hl (by decide) (by generalize r2 = z9; cases z9 <;> rfl) (fun ls hl => ?_)
  refine lv_iload_n C.1.1 C.1.2.1 dJ5_charAt_5068e_23 rfl (lv_at hl 4 rfl) ?_
  refine lv_iload C.1.1 C.1.2.1 dJ5_charAt_5068e_24 (lv_at hl 0 rfl) ?_
  refine ql_SV (As := [.int xp1, .int x5]) (rest := []) C S htab hlocks hl qy_J0_checkIndex_df160 qi_J0_checkIndex_df160 gw_1505 (qm_J0_checkIndex_df160 l hl9 D _ xp1 x5 _ _ w) rfl ⟨Nat.le_of_ble_eq_true rfl, Nat.le_of_ble_eq_true rfl⟩ ⟨rfl, rfl⟩ (by exact Nat.le_of_ble_eq_true rfl) rfl dJ5_charAt_5068e_26 ⟨Nat.le_of_ble_eq_true rfl, Nat.le_of_ble_eq_true rfl⟩ ⟨Nat.le_of_ble_eq_true rfl, Nat.le_of_ble_eq_true rfl⟩ (fun h H locs S w => ?_)
  refine W.cs (cells' := 0) (slots' := 0) rfl rfl ?_
  refine lv_iload_n C.1.1 C.1.2.1 dJ5_charAt_5068e_29 rfl (lv_at hl 2 rfl) ?_
  refine lv_if_ne (tgt := 42) C.1.1 C.1.2.1 dJ5_charAt_5068e_30 (by decide) (fun c9 => ?_) (fun c9 => ?_)
  · replace w := ql_ifn w c9
    refine ql_aload_n (r := r2) C dJ5_charAt_5068e_42 rfl (lv_at hl 1 rfl) ?_
    refine lv_iload_n C.1.1 C.1.2.1 dJ5_charAt_5068e_43 rfl (lv_at hl 4 rfl) ?_
    exact w.elim
  · replace w := ql_if w c9
    refine ql_aload_n (r := r2) C dJ5_charAt_5068e_33 rfl (lv_at hl 1 rfl) ?_
    refine lv_iload_n C.1.1 C.1.2.1 dJ5_charAt_5068e_34 rfl (lv_at hl 4 rfl) ?_
    refine ql_bald C S dJ5_charAt_5068e_35 w (fun x6 w => ?_)
    refine lv_sipush (v := (255 : Int32)) C.1.1 C.1.2.1 dJ5_charAt_5068e_36 (by decide) ?_
    refine lv_iand C.1.1 C.1.2.1 dJ5_charAt_5068e_39 ?_
    refine lv_i2c C.1.1 C.1.2.1 dJ5_charAt_5068e_40 rfl ?_
    exact ql_zret C S hr hlocks dJ5_charAt_5068e_41 ⟨Nat.le_of_ble_eq_true rfl, Nat.le_of_ble_eq_true rfl⟩ w
def qw_J4_charAt_5068e (a0 : Nat) (xp1 : Int32) (h : ql_H) (Q : Int32 → ql_H → Prop) : Prop :=
ql_rv h (some a0) 1 fun b1 => qw_J5_charAt_5068e b1 xp1 h (fun x1 h =>
ql_nz .char x1 ∧ Q x1 h)
set_option maxHeartbeats 4000000 in
set_option maxRecDepth 100000 in
theorem qm_J4_charAt_5068e (l : Launch) (hl9 : l.stackTraces = false) (D : ql_D) (h0 : ql_H) (a0 : Nat) (xp1 : Int32) (Q : Int32 → ql_H → Prop) (X : String → ql_H → Prop) (w : qw_J4_charAt_5068e a0 xp1 h0 Q) : ql_M D l yJ4_charAt_5068e cJ4_charAt_5068e 2 (some .char) ({ frames := 8, cells := 0, slots := 0, locals := 139 } : Room) h0 [.ref a0, .int xp1] (ql_rI Q) X 0 0 := by
  refine ql_ofW (by decide +kernel) (Nat.le_of_ble_eq_true rfl) ?_
  intro p e s m below meth c ls C hr hlocks hnm htab S hl
  have hl : lv_has ls 2 [(0, .ref a0), (1, .int xp1)] := hl
  unfold qw_J4_charAt_5068e at w
  refine ql_aload_n (r := (some a0)) C dJ4_charAt_5068e_0 rfl (lv_at hl 0 rfl) ?_
  refine lv_iload_n C.1.1 C.1.2.1 dJ4_charAt_5068e_1 rfl (lv_at hl 1 rfl) ?_
  refine ql_PI (As := [.int xp1]) (rest := []) C S htab hlocks hl qy_J5_charAt_5068e qi_J5_charAt_5068e gw_2158 gw_262 (by decide) gw_1501 (ci := 1) (Cn := "java/lang/StringBuilder") rfl rfl w (fun b w => qm_J5_charAt_5068e l hl9 D _ b xp1 _ _ w) rfl ⟨Nat.le_of_ble_eq_true rfl, Nat.le_of_ble_eq_true rfl⟩ ⟨rfl, rfl⟩ (by exact Nat.le_of_ble_eq_true rfl) (fun b e9 => by cases e9; rfl) dJ4_charAt_5068e_2 ⟨Nat.le_of_ble_eq_true rfl, Nat.le_of_ble_eq_true rfl⟩ ⟨Nat.le_of_ble_eq_true rfl, Nat.le_of_ble_eq_true rfl⟩ (fun x1 h H locs S w => ?_)
  refine W.cs (cells' := 0) (slots' := 0) rfl rfl ?_
  exact ql_zret C S hr hlocks dJ4_charAt_5068e_5 ⟨Nat.le_of_ble_eq_true rfl, Nat.le_of_ble_eq_true rfl⟩ w
def qw_X8_isNext (a0 : Nat) (xp1 : Int32) (xp2 : Int32) (h : ql_H) (Q : Int32 → ql_H → Prop) : Prop :=
ql_gI h (some a0) 10 3 fun x1 =>
ql_gR h (some a0) 10 0 fun r2 =>
ql_rv h r2 1 fun b3 => qw_J4_length_8abf5 b3  h (fun x3 h =>
if x3 ≤ (x1 + xp1) then (ql_nz .boolean (0 : Int32) ∧ Q (0 : Int32) h) else (ql_gR h (some a0) 10 0 fun r5 =>
ql_rv h r5 1 fun b6 => qw_J4_charAt_5068e b6 (x1 + xp1) h (fun x6 h =>
if x6 = xp2 then (ql_nz .boolean (1 : Int32) ∧ Q (1 : Int32) h) else (ql_nz .boolean (0 : Int32) ∧ Q (0 : Int32) h))))
set_option maxHeartbeats 4000000 in
set_option maxRecDepth 100000 in
theorem qm_X8_isNext (l : Launch) (hl9 : l.stackTraces = false) (D : ql_D) (h0 : ql_H) (a0 : Nat) (xp1 : Int32) (xp2 : Int32) (Q : Int32 → ql_H → Prop) (X : String → ql_H → Prop) (w : qw_X8_isNext a0 xp1 xp2 h0 Q) : ql_M D l yX8_isNext cX8_isNext 4 (some .boolean) ({ frames := 10, cells := 0, slots := 0, locals := 168 } : Room) h0 [.ref a0, .int xp1, .int xp2] (ql_rI Q) X 0 0 := by
  refine ql_ofW (by decide) (Nat.le_of_ble_eq_true rfl) ?_
  intro p e s m below meth c ls C hr hlocks hnm htab S hl
  have hl : lv_has ls 4 [(0, .ref a0), (1, .int xp1), (2, .int xp2)] := hl
  unfold qw_X8_isNext at w
  refine ql_aload_n (r := (some a0)) C dX8_isNext_0 rfl (lv_at hl 0 rfl) ?_
  refine ql_getI C S qf_10_3 gw_294 dX8_isNext_1 w (fun x1 w => ?_)
  refine lv_iload_n C.1.1 C.1.2.1 dX8_isNext_4 rfl (lv_at hl 1 rfl) ?_
  refine lv_iadd C.1.1 C.1.2.1 dX8_isNext_5 ?_
  refine lv_istore_n (lv' := [(3, .int (x1 + xp1)), (0, .ref a0), (1, .int xp1), (2, .int xp2)]) C.1.1 C.1.2.1 dX8_isNext_6 rfl hl (by decide) rfl (fun ls hl => ?_)
  refine lv_iload_n C.1.1 C.1.2.1 dX8_isNext_7 rfl (lv_at hl 0 rfl) ?_
  refine ql_aload_n (r := (some a0)) C dX8_isNext_8 rfl (lv_at hl 1 rfl) ?_
  refine ql_getR C S qf_10_0 gw_290 dX8_isNext_9 w (fun r2 w => ?_)
  refine ql_VI (As := []) (rest := [.int (x1 + xp1)]) C S htab hlocks hl qy_J4_length_8abf5 qi_J4_length_8abf5 qs_J4_length_8abf5 gw_1518 (ci := 1) rfl w (fun b w => qm_J4_length_8abf5 l hl9 D _ b _ _ w) rfl ⟨Nat.le_of_ble_eq_true rfl, Nat.le_of_ble_eq_true rfl⟩ ⟨rfl, rfl⟩ (by exact Nat.le_of_ble_eq_true rfl) (fun b e9 => by cases e9; rfl) dX8_isNext_12 ⟨Nat.le_of_ble_eq_true rfl, Nat.le_of_ble_eq_true rfl⟩ ⟨Nat.le_of_ble_eq_true rfl, Nat.le_of_ble_eq_true rfl⟩ (fun x3 h H locs S w => ?_)
  refine W.cs (cells' := 0) (slots' := 0) rfl rfl ?_
  refine lv_icmp_ge (tgt := 34) C.1.1 C.1.2.1 dX8_isNext_15 (by decide) (fun c9 => ?_) (fun c9 => ?_)
  · replace w := ql_if w c9
    refine lv_iconst (v := (0 : Int32)) C.1.1 C.1.2.1 dX8_isNext_34 (by decide) ?_
    exact ql_zret C S hr hlocks dX8_isNext_35 ⟨Nat.le_of_ble_eq_true rfl, Nat.le_of_ble_eq_true rfl⟩ w
  · replace w := ql_ifn w c9
    refine ql_aload_n (r := (some a0)) C dX8_isNext_18 rfl (lv_at hl 1 rfl) ?_
    refine ql_getR C S qf_10_0 gw_290 dX8_isNext_19 w (fun r5 w => ?_)
    refine lv_iload_n C.1.1 C.1.2.1 dX8_isNext_22 rfl (lv_at hl 0 rfl) ?_
    refine ql_VI (As := [.int (x1 + xp1)]) (rest := []) C S htab hlocks hl qy_J4_charAt_5068e qi_J4_charAt_5068e qs_J4_charAt_5068e gw_1565 (ci := 1) rfl w (fun b w => qm_J4_charAt_5068e l hl9 D _ b (x1 + xp1) _ _ w) rfl ⟨Nat.le_of_ble_eq_true rfl, Nat.le_of_ble_eq_true rfl⟩ ⟨rfl, rfl⟩ (by exact Nat.le_of_ble_eq_true rfl) (fun b e9 => by cases e9; rfl) dX8_isNext_23 ⟨Nat.le_of_ble_eq_true rfl, Nat.le_of_ble_eq_true rfl⟩ ⟨Nat.le_of_ble_eq_true rfl, Nat.le_of_ble_eq_true rfl⟩ (fun x6 h H locs S w => ?_)
    refine W.cs (cells' := 0) (slots' := 0) rfl rfl ?_
    refine lv_iload_n C.1.1 C.1.2.1 dX8_isNext_26 rfl (lv_at hl 3 rfl) ?_
    refine lv_icmp_ne (tgt := 34) C.1.1 C.1.2.1 dX8_isNext_27 (by decide) (fun c9 => ?_) (fun c9 => ?_)
    · replace w := ql_ifn w c9
      refine lv_iconst (v := (0 : Int32)) C.1.1 C.1.2.1 dX8_isNext_34 (by decide) ?_
      exact ql_zret C S hr hlocks dX8_isNext_35 ⟨Nat.le_of_ble_eq_true rfl, Nat.le_of_ble_eq_true rfl⟩ w
    · replace w := ql_if w c9
      refine lv_iconst (v := (1 : Int32)) C.1.1 C.1.2.1 dX8_isNext_30 (by decide) ?_
      refine lv_goto (tgt := 35) C.1.1 C.1.2.1 dX8_isNext_31 (by decide) ?_
      exact ql_zret C S hr hlocks dX8_isNext_35 ⟨Nat.le_of_ble_eq_true rfl, Nat.le_of_ble_eq_true rfl⟩ w
def qw_X8_countSame_2 (σ : Nat → Nat) (a0 : Nat) (Q : Int32 → ql_H → Prop) : Nat → Option Nat → Int32 → ql_H → Prop
  | 0, _, _, _ => False
  | n + 1, rl1, xl2, h =>
    ql_st σ rl1 fun b1 => qw_J0_length_8abf5 σ (σ (200 + b1))  h (fun x1 h =>
    if x1 ≤ xl2 then (Q xl2 h) else (ql_st σ rl1 fun b3 => qw_J0_charAt_5068e σ (σ (200 + b3)) xl2 h (fun x3 h =>
    ql_rv h (some a0) 10 fun b5 => qw_X8_isNext b5 xl2 x3 h (fun x5 h =>
    if x5 = 0 then (Q xl2 h) else (qw_X8_countSame_2 σ a0 Q n rl1 (xl2 + (1 : Int32)) h)))))
def qw_X8_countSame (σ : Nat → Nat) (a0 : Nat) (rp1 : Option Nat) (h : ql_H) (Q : Int32 → ql_H → Prop) : Prop :=
qw_X8_countSame_2 σ a0 Q ql_FU rp1 (0 : Int32) h
set_option maxHeartbeats 4000000 in
set_option maxRecDepth 100000 in
theorem qm_X8_countSame (l : Launch) (hl9 : l.stackTraces = false) (D : ql_D) (h0 : ql_H) (a0 : Nat) (rp1 : Option Nat) (Q : Int32 → ql_H → Prop) (X : String → ql_H → Prop) (w : qw_X8_countSame D.2 a0 rp1 h0 Q) : ql_M D l yX8_countSame cX8_countSame 3 (some .int) ({ frames := 12, cells := 0, slots := 0, locals := 199 } : Room) h0 [.ref a0, va_rf rp1] (ql_rI Q) X 0 0 := by
  refine ql_ofW (by decide) (by cases rp1 <;> exact Nat.le_of_ble_eq_true rfl) ?_
  intro p e s m below meth c ls C hr hlocks hnm htab S hl
  rw [show lv_args 0 [.ref a0, va_rf rp1] = [(0, .ref a0), (1, va_rf rp1)] from by cases rp1 <;> rfl] at hl
  have hB2 : ∀ n : Nat, ∀ (rl1 : Option Nat) (xl2 : Int32) (h : ql_H) (H : Heap) (locs : List Loc) (ls : Array Slot), ql_S D h0 s H locs h → lv_has ls 3 [(0, .ref a0), (1, va_rf rl1), (2, .int xl2)] → qw_X8_countSame_2 D.2 a0 Q n rl1 xl2 h → W p l e ({ frames := 12, cells := 0, slots := 0, locals := 199 } : Room) s m ([.ref a0, va_rf rp1] : List Value).toArray below meth c H locs 0 0 (vx_MQ below (ql_Q D h0 (ql_rI Q)) (ql_X D h0 X) ([.ref a0, va_rf rp1] : List Value).toArray s 0 0 (ql_A h0)) (F0 m 2 ls []) := by
    intro n
    induction n with
    | zero => intro rl1 xl2 h H locs ls S hl w; rw [qw_X8_countSame_2] at w; exact w.elim
    | succ n ih =>
      intro rl1 xl2 h H locs ls S hl w
      rw [qw_X8_countSame_2] at w
      refine lv_iload_n C.1.1 C.1.2.1 dX8_countSame_2 rfl (lv_at hl 2 rfl) ?_
      refine ql_aload_n (r := rl1) C dX8_countSame_3 rfl (lv_at hl 1 rfl) ?_
      refine ql_TI (As := []) (rest := [.int xl2]) C S htab hlocks hl qy_J0_length_8abf5 qi_J0_length_8abf5 gw_1296 gw_1545 w (fun k hk9 w => qm_J0_length_8abf5 l hl9 D _ (D.2 (200 + k)) _ _ w) rfl ⟨Nat.le_of_ble_eq_true rfl, Nat.le_of_ble_eq_true rfl⟩ ⟨rfl, rfl⟩ (by exact Nat.le_of_ble_eq_true rfl) (fun b e9 => by cases e9; rfl) dX8_countSame_4 ⟨Nat.le_of_ble_eq_true rfl, Nat.le_of_ble_eq_true rfl⟩ ⟨Nat.le_of_ble_eq_true rfl, Nat.le_of_ble_eq_true rfl⟩ (fun x1 h H locs S w => ?_)
      refine W.cs (cells' := 0) (slots' := 0) rfl rfl ?_
      refine lv_icmp_ge (tgt := 29) C.1.1 C.1.2.1 dX8_countSame_7 (by decide) (fun c9 => ?_) (fun c9 => ?_)
      · replace w := ql_if w c9
        refine lv_iload_n C.1.1 C.1.2.1 dX8_countSame_29 rfl (lv_at hl 2 rfl) ?_
        exact ql_iret C S hr hlocks dX8_countSame_30 ⟨Nat.le_of_ble_eq_true rfl, Nat.le_of_ble_eq_true rfl⟩ w
      · replace w := ql_ifn w c9
        refine ql_aload_n (r := (some a0)) C dX8_countSame_10 rfl (lv_at hl 0 rfl) ?_
        refine lv_iload_n C.1.1 C.1.2.1 dX8_countSame_11 rfl (lv_at hl 2 rfl) ?_
        refine ql_aload_n (r := rl1) C dX8_countSame_12 rfl (lv_at hl 1 rfl) ?_
        refine lv_iload_n C.1.1 C.1.2.1 dX8_countSame_13 rfl (lv_at hl 2 rfl) ?_
        refine ql_TI (As := [.int xl2]) (rest := [.int xl2, .ref a0]) C S htab hlocks hl qy_J0_charAt_5068e qi_J0_charAt_5068e gw_1548 gw_1546 w (fun k hk9 w => qm_J0_charAt_5068e l hl9 D _ (D.2 (200 + k)) xl2 _ _ w) rfl ⟨Nat.le_of_ble_eq_true rfl, Nat.le_of_ble_eq_true rfl⟩ ⟨rfl, rfl⟩ (by exact Nat.le_of_ble_eq_true rfl) (fun b e9 => by cases e9; rfl) dX8_countSame_14 ⟨Nat.le_of_ble_eq_true rfl, Nat.le_of_ble_eq_true rfl⟩ ⟨Nat.le_of_ble_eq_true rfl, Nat.le_of_ble_eq_true rfl⟩ (fun x3 h H locs S w => ?_)
        refine W.cs (cells' := 0) (slots' := 0) rfl rfl ?_
        refine ql_VI (As := [.int xl2, .int x3]) (rest := []) C S htab hlocks hl qy_X8_isNext qi_X8_isNext qs_X8_isNext gw_1561 (ci := 10) rfl w (fun b w => qm_X8_isNext l hl9 D _ b xl2 x3 _ _ w) rfl ⟨Nat.le_of_ble_eq_true rfl, Nat.le_of_ble_eq_true rfl⟩ ⟨rfl, rfl⟩ (by exact Nat.le_of_ble_eq_true rfl) (fun b e9 => by cases e9; rfl) dX8_countSame_17 ⟨Nat.le_of_ble_eq_true rfl, Nat.le_of_ble_eq_true rfl⟩ ⟨Nat.le_of_ble_eq_true rfl, Nat.le_of_ble_eq_true rfl⟩ (fun x5 h H locs S w => ?_)
        refine W.cs (cells' := 0) (slots' := 0) rfl rfl ?_
        refine lv_if_eq (tgt := 29) C.1.1 C.1.2.1 dX8_countSame_20 (by decide) (fun c9 => ?_) (fun c9 => ?_)
        · replace w := ql_if w c9
          refine lv_iload_n C.1.1 C.1.2.1 dX8_countSame_29 rfl (lv_at hl 2 rfl) ?_
          exact ql_iret C S hr hlocks dX8_countSame_30 ⟨Nat.le_of_ble_eq_true rfl, Nat.le_of_ble_eq_true rfl⟩ w
        · replace w := ql_ifn w c9
          refine lv_iinc (v := (xl2 + (1 : Int32))) (lv' := [(2, .int (xl2 + (1 : Int32))), (0, .ref a0), (1, va_rf rl1)]) C.1.1 C.1.2.1 dX8_countSame_23 hl (k := 2) rfl rfl (by decide) (by generalize rl1 = z9; cases z9 <;> rfl) (fun ls hl => ?_)
          refine lv_goto (tgt := 2) C.1.1 C.1.2.1 dX8_countSame_26 (by decide) ?_
          exact ih rl1 (xl2 + (1 : Int32)) _ _ _ _ S (lv_sub hl [1, 2, 0] rfl) w
  unfold qw_X8_countSame at w
  refine lv_iconst (v := (0 : Int32)) C.1.1 C.1.2.1 dX8_countSame_0 (by decide) ?_
  refine lv_istore_n (lv' := [(2, .int (0 : Int32)), (0, .ref a0), (1, va_rf rp1)]) C.1.1 C.1.2.1 dX8_countSame_1 rfl hl (by decide) (by generalize rp1 = z9; cases z9 <;> rfl) (fun ls hl => ?_)
  exact hB2 ql_FU rp1 (0 : Int32) _ _ _ _ S (lv_sub hl [1, 2, 0] rfl) w
def qw_X8_readKeyword_13 (σ : Nat → Nat) (a0 : Nat) (Q : Int32 → ql_H → Prop) : Nat → Option Nat → Int32 → Int32 → Int32 → ql_H → Prop
  | 0, _, _, _, _, _ => False
  | n + 1, rl1, xl2, xl4, xl5, h =>
    if xl4 ≤ xl5 then (ql_gI h (some a0) 10 3 fun x1 =>
    ql_pV h (some a0) 10 3 (.int (x1 + xl2)) fun h =>
    ql_nz .boolean (0 : Int32) ∧ Q (0 : Int32) h) else (vp_in xl5 10 ∧
    ql_en σ (some (σ (100 + xl5.toNatClampNeg))) fun k2 =>
    ql_rv h (some a0) 10 fun b3 => qw_X8_countSame σ b3 (some (σ (200 + ql_kw k2))) h (fun x3 h =>
    qw_J9_max_7cf53 xl2 x3 h (fun x5 h =>
    ql_en σ (some (σ (100 + xl5.toNatClampNeg))) fun k6 =>
    ql_st σ (some (σ (200 + ql_kw k6))) fun b7 => qw_J0_length_8abf5 σ (σ (200 + b7))  h (fun x7 h =>
    if x3 = x7 then (ql_pV h rl1 7 0 (va_rf (some (σ (100 + xl5.toNatClampNeg)))) fun h =>
    ql_gI h (some a0) 10 3 fun x9 =>
    ql_pV h (some a0) 10 3 (.int (x9 + x3)) fun h =>
    ql_nz .boolean (1 : Int32) ∧ Q (1 : Int32) h) else (qw_X8_readKeyword_13 σ a0 Q n rl1 x5 xl4 (xl5 + (1 : Int32)) h)))))
def qw_X8_readKeyword (σ : Nat → Nat) (a0 : Nat) (rp1 : Option Nat) (h : ql_H) (Q : Int32 → ql_H → Prop) : Prop :=
qw_X8_readKeyword_13 σ a0 Q ql_FU rp1 (0 : Int32) (nI 10) (0 : Int32) h
set_option maxHeartbeats 4000000 in
set_option maxRecDepth 100000 in
theorem qm_X8_readKeyword (l : Launch) (hl9 : l.stackTraces = false) (D : ql_D) (h0 : ql_H) (a0 : Nat) (rp1 : Option Nat) (Q : Int32 → ql_H → Prop) (X : String → ql_H → Prop) (w : qw_X8_readKeyword D.2 a0 rp1 h0 Q) : ql_M D l yX8_readKeyword cX8_readKeyword 8 (some .boolean) ({ frames := 14, cells := 0, slots := 0, locals := 229 } : Room) h0 [.ref a0, va_rf rp1] (ql_rI Q) X 0 0 := by
  refine ql_ofW (by decide) (by cases rp1 <;> exact Nat.le_of_ble_eq_true rfl) ?_
  intro p e s m below meth c ls C hr hlocks hnm htab S hl
  rw [show lv_args 0 [.ref a0, va_rf rp1] = [(0, .ref a0), (1, va_rf rp1)] from by cases rp1 <;> rfl] at hl
  have hB13 : ∀ n : Nat, ∀ (rl1 : Option Nat) (xl2 : Int32) (xl4 : Int32) (xl5 : Int32) (h : ql_H) (H : Heap) (locs : List Loc) (ls : Array Slot), ql_S D h0 s H locs h → lv_has ls 8 [(0, .ref a0), (1, va_rf rl1), (2, .int xl2), (3, va_rf (some (D.2 403))), (4, .int xl4), (5, .int xl5)] → qw_X8_readKeyword_13 D.2 a0 Q n rl1 xl2 xl4 xl5 h → W p l e ({ frames := 14, cells := 0, slots := 0, locals := 229 } : Room) s m ([.ref a0, va_rf rp1] : List Value).toArray below meth c H locs 0 0 (vx_MQ below (ql_Q D h0 (ql_rI Q)) (ql_X D h0 X) ([.ref a0, va_rf rp1] : List Value).toArray s 0 0 (ql_A h0)) (F0 m 13 ls []) := by
    intro n
    induction n with
    | zero => intro rl1 xl2 xl4 xl5 h H locs ls S hl w; rw [qw_X8_readKeyword_13] at w; exact w.elim
    | succ n ih =>
      intro rl1 xl2 xl4 xl5 h H locs ls S hl w
      rw [qw_X8_readKeyword_13] at w
      refine lv_iload C.1.1 C.1.2.1 dX8_readKeyword_13 (lv_at hl 5 rfl) ?_
      refine lv_iload C.1.1 C.1.2.1 dX8_readKeyword_15 (lv_at hl 4 rfl) ?_
      refine lv_icmp_ge (tgt := 82) C.1.1 C.1.2.1 dX8_readKeyword_17 (by decide) (fun c9 => ?_) (fun c9 => ?_)
      · replace w := ql_if w c9
        refine ql_aload_n (r := (some a0)) C dX8_readKeyword_82 rfl (lv_at hl 0 rfl) ?_
        refine lv_dup C.1.1 C.1.2.1 dX8_readKeyword_83 (ql_catR _) ?_
        refine ql_getI C S qf_10_3 gw_294 dX8_readKeyword_84 w (fun x1 w => ?_)
        refine lv_iload_n C.1.1 C.1.2.1 dX8_readKeyword_87 rfl (lv_at hl 2 rfl) ?_
        refine lv_iadd C.1.1 C.1.2.1 dX8_readKeyword_88 ?_
        refine ql_putV C S qf_10_3 gw_294 (tyX8) tyX8_ok nmX8 rfl dX8_readKeyword_89 (v := .int (x1 + xl2)) rfl rfl w (fun h H locs S w => ?_)
        refine lv_iconst (v := (0 : Int32)) C.1.1 C.1.2.1 dX8_readKeyword_92 (by decide) ?_
        exact ql_zret C S hr hlocks dX8_readKeyword_93 ⟨Nat.le_of_ble_eq_true rfl, Nat.le_of_ble_eq_true rfl⟩ w
      · replace w := ql_ifn w c9
        refine ql_aload_n (r := (some (D.2 403))) C dX8_readKeyword_20 rfl (lv_at hl 3 rfl) ?_
        refine lv_iload C.1.1 C.1.2.1 dX8_readKeyword_21 (lv_at hl 5 rfl) ?_
        refine ql_tr9 C S (f := fun k => D.2 (100 + k)) rfl C.z.2.2.1.1.2 w.1 dX8_readKeyword_23 ?_
        replace w := w.2
        refine ql_astore (lv' := [(6, va_rf (some (D.2 (100 + xl5.toNatClampNeg)))), (0, .ref a0), (1, va_rf rl1), (2, .int xl2), (3, va_rf (some (D.2 403))), (4, .int xl4), (5, .int xl5)]) C dX8_readKeyword_24 hl (by decide) rfl (fun ls hl => ?_)
        refine ql_aload_n (r := (some a0)) C dX8_readKeyword_26 rfl (lv_at hl 1 rfl) ?_
        refine ql_aload (r := (some (D.2 (100 + xl5.toNatClampNeg)))) C dX8_readKeyword_27 (lv_at hl 0 rfl) ?_
        refine ql_enkw C S (qn_RX8_63) dX8_readKeyword_29 w (fun k2 hk9 w => ?_)
        refine ql_VI (As := [va_rf (some (D.2 (200 + ql_kw k2)))]) (rest := []) C S htab hlocks hl qy_X8_countSame qi_X8_countSame qs_X8_countSame gw_1541 (ci := 10) rfl w (fun b w => qm_X8_countSame l hl9 D _ b (some (D.2 (200 + ql_kw k2))) _ _ w) rfl ⟨Nat.le_of_ble_eq_true rfl, Nat.le_of_ble_eq_true rfl⟩ ⟨rfl, rfl⟩ (by exact Nat.le_of_ble_eq_true rfl) (fun b e9 => by cases e9; rfl) dX8_readKeyword_32 ⟨Nat.le_of_ble_eq_true rfl, Nat.le_of_ble_eq_true rfl⟩ ⟨Nat.le_of_ble_eq_true rfl, Nat.le_of_ble_eq_true rfl⟩ (fun x3 h H locs S w => ?_)
        refine W.cs (cells' := 0) (slots' := 0) rfl rfl ?_
        refine lv_istore (lv' := [(7, .int x3), (6, va_rf (some (D.2 (100 + xl5.toNatClampNeg)))), (0, .ref a0), (1, va_rf rl1), (2, .int xl2), (3, va_rf (some (D.2 403))), (4, .int xl4), (5, .int xl5)]) C.1.1 C.1.2.1 dX8_readKeyword_35 hl (by decide) (by generalize (some (D.2 (100 + xl5.toNatClampNeg))) = z9; cases z9 <;> rfl) (fun ls hl => ?_)
        refine lv_iload_n C.1.1 C.1.2.1 dX8_readKeyword_37 rfl (lv_at hl 4 rfl) ?_
        refine lv_iload C.1.1 C.1.2.1 dX8_readKeyword_38 (lv_at hl 0 rfl) ?_
        refine ql_SI (As := [.int xl2, .int x3]) (rest := []) C S htab hlocks hl qy_J9_max_7cf53 qi_J9_max_7cf53 gw_1566 (qm_J9_max_7cf53 l hl9 D _ xl2 x3 _ _ w) rfl ⟨Nat.le_of_ble_eq_true rfl, Nat.le_of_ble_eq_true rfl⟩ ⟨rfl, rfl⟩ (by exact Nat.le_of_ble_eq_true rfl) rfl dX8_readKeyword_40 ⟨Nat.le_of_ble_eq_true rfl, Nat.le_of_ble_eq_true rfl⟩ ⟨Nat.le_of_ble_eq_true rfl, Nat.le_of_ble_eq_true rfl⟩ (fun x5 h H locs S w => ?_)
        refine W.cs (cells' := 0) (slots' := 0) rfl rfl ?_
        refine lv_istore_n (lv' := [(2, .int x5), (7, .int x3), (6, va_rf (some (D.2 (100 + xl5.toNatClampNeg)))), (0, .ref a0), (1, va_rf rl1), (3, va_rf (some (D.2 403))), (4, .int xl4), (5, .int xl5)]) C.1.1 C.1.2.1 dX8_readKeyword_43 rfl hl (by decide) (by generalize rl1 = z9; cases z9 <;> rfl) (fun ls hl => ?_)
        refine lv_iload C.1.1 C.1.2.1 dX8_readKeyword_44 (lv_at hl 1 rfl) ?_
        refine ql_aload (r := (some (D.2 (100 + xl5.toNatClampNeg)))) C dX8_readKeyword_46 (lv_at hl 2 rfl) ?_
        refine ql_enkw C S (qn_RX8_63) dX8_readKeyword_48 w (fun k6 hk9 w => ?_)
        refine ql_TI (As := []) (rest := [.int x3]) C S htab hlocks hl qy_J0_length_8abf5 qi_J0_length_8abf5 gw_1296 gw_1545 w (fun k hk9 w => qm_J0_length_8abf5 l hl9 D _ (D.2 (200 + k)) _ _ w) rfl ⟨Nat.le_of_ble_eq_true rfl, Nat.le_of_ble_eq_true rfl⟩ ⟨rfl, rfl⟩ (by exact Nat.le_of_ble_eq_true rfl) (fun b e9 => by cases e9; rfl) dX8_readKeyword_51 ⟨Nat.le_of_ble_eq_true rfl, Nat.le_of_ble_eq_true rfl⟩ ⟨Nat.le_of_ble_eq_true rfl, Nat.le_of_ble_eq_true rfl⟩ (fun x7 h H locs S w => ?_)
        refine W.cs (cells' := 0) (slots' := 0) rfl rfl ?_
        refine lv_icmp_ne (tgt := 76) C.1.1 C.1.2.1 dX8_readKeyword_54 (by decide) (fun c9 => ?_) (fun c9 => ?_)
        · replace w := ql_ifn w c9
          refine lv_iinc (v := (xl5 + (1 : Int32))) (lv' := [(5, .int (xl5 + (1 : Int32))), (2, .int x5), (7, .int x3), (6, va_rf (some (D.2 (100 + xl5.toNatClampNeg)))), (0, .ref a0), (1, va_rf rl1), (3, va_rf (some (D.2 403))), (4, .int xl4)]) C.1.1 C.1.2.1 dX8_readKeyword_76 hl (k := 7) rfl rfl (by decide) rfl (fun ls hl => ?_)
          refine lv_goto (tgt := 13) C.1.1 C.1.2.1 dX8_readKeyword_79 (by decide) ?_
          exact ih rl1 x5 xl4 (xl5 + (1 : Int32)) _ _ _ _ S (lv_sub hl [4, 5, 1, 6, 7, 0] rfl) w
        · replace w := ql_if w c9
          refine ql_aload_n (r := rl1) C dX8_readKeyword_57 rfl (lv_at hl 4 rfl) ?_
          refine ql_aload (r := (some (D.2 (100 + xl5.toNatClampNeg)))) C dX8_readKeyword_58 (lv_at hl 2 rfl) ?_
          refine ql_putVN C S qf_7_0 (qn_RX8_82) (tyX4) tyX4_ok nmX4 rfl dX8_readKeyword_60 (v := va_rf (some (D.2 (100 + xl5.toNatClampNeg)))) rfl rfl w (fun h H locs S w => ?_)
          refine ql_aload_n (r := (some a0)) C dX8_readKeyword_63 rfl (lv_at hl 3 rfl) ?_
          refine lv_dup C.1.1 C.1.2.1 dX8_readKeyword_64 (ql_catR _) ?_
          refine ql_getI C S qf_10_3 gw_294 dX8_readKeyword_65 w (fun x9 w => ?_)
          refine lv_iload C.1.1 C.1.2.1 dX8_readKeyword_68 (lv_at hl 1 rfl) ?_
          refine lv_iadd C.1.1 C.1.2.1 dX8_readKeyword_70 ?_
          refine ql_putV C S qf_10_3 gw_294 (tyX8) tyX8_ok nmX8 rfl dX8_readKeyword_71 (v := .int (x9 + x3)) rfl rfl w (fun h H locs S w => ?_)
          refine lv_iconst (v := (1 : Int32)) C.1.1 C.1.2.1 dX8_readKeyword_74 (by decide) ?_
          exact ql_zret C S hr hlocks dX8_readKeyword_75 ⟨Nat.le_of_ble_eq_true rfl, Nat.le_of_ble_eq_true rfl⟩ w
  unfold qw_X8_readKeyword at w
  refine lv_iconst (v := (0 : Int32)) C.1.1 C.1.2.1 dX8_readKeyword_0 (by decide) ?_
  refine lv_istore_n (lv' := [(2, .int (0 : Int32)), (0, .ref a0), (1, va_rf rp1)]) C.1.1 C.1.2.1 dX8_readKeyword_1 rfl hl (by decide) (by generalize rp1 = z9; cases z9 <;> rfl) (fun ls hl => ?_)
  refine ql_gs C S C.z.2.2.1.1.1 gw_1539 dX8_readKeyword_2 ?_
  refine ql_astore_n (lv' := [(3, va_rf (some (D.2 403))), (2, .int (0 : Int32)), (0, .ref a0), (1, va_rf rp1)]) C dX8_readKeyword_5 rfl hl (by decide) rfl (fun ls hl => ?_)
  refine ql_aload_n (r := (some (D.2 403))) C dX8_readKeyword_6 rfl (lv_at hl 0 rfl) ?_
  refine ql_tlen C S C.z.2.2.1.1.2 dX8_readKeyword_7 ?_
  refine lv_istore (lv' := [(4, .int (nI 10)), (3, va_rf (some (D.2 403))), (2, .int (0 : Int32)), (0, .ref a0), (1, va_rf rp1)]) C.1.1 C.1.2.1 dX8_readKeyword_8 hl (by decide) (by generalize (some (D.2 403)) = z9; cases z9 <;> rfl) (fun ls hl => ?_)
  refine lv_iconst (v := (0 : Int32)) C.1.1 C.1.2.1 dX8_readKeyword_10 (by decide) ?_
  refine lv_istore (lv' := [(5, .int (0 : Int32)), (4, .int (nI 10)), (3, va_rf (some (D.2 403))), (2, .int (0 : Int32)), (0, .ref a0), (1, va_rf rp1)]) C.1.1 C.1.2.1 dX8_readKeyword_11 hl (by decide) rfl (fun ls hl => ?_)
  exact hB13 ql_FU rp1 (0 : Int32) (nI 10) (0 : Int32) _ _ _ _ S (lv_sub hl [4, 5, 3, 2, 1, 0] rfl) w
def qw_X8_isNextIn (a0 : Nat) (xp1 : Int32) (xp2 : Int32) (h : ql_H) (Q : Int32 → ql_H → Prop) : Prop :=
ql_gI h (some a0) 10 3 fun x1 =>
ql_gR h (some a0) 10 0 fun r2 =>
ql_rv h r2 1 fun b3 => qw_J4_length_8abf5 b3  h (fun x3 h =>
if x3 ≤ x1 then (ql_nz .boolean (0 : Int32) ∧ Q (0 : Int32) h) else (ql_gR h (some a0) 10 0 fun r5 =>
ql_gI h (some a0) 10 3 fun x6 =>
ql_rv h r5 1 fun b7 => qw_J4_charAt_5068e b7 x6 h (fun x7 h =>
if x7 < xp1 then (ql_nz .boolean (0 : Int32) ∧ Q (0 : Int32) h) else (ql_gR h (some a0) 10 0 fun r9 =>
ql_gI h (some a0) 10 3 fun x10 =>
ql_rv h r9 1 fun b11 => qw_J4_charAt_5068e b11 x10 h (fun x11 h =>
if xp2 < x11 then (ql_nz .boolean (0 : Int32) ∧ Q (0 : Int32) h) else (ql_nz .boolean (1 : Int32) ∧ Q (1 : Int32) h))))))
set_option maxHeartbeats 4000000 in
set_option maxRecDepth 100000 in
theorem qm_X8_isNextIn (l : Launch) (hl9 : l.stackTraces = false) (D : ql_D) (h0 : ql_H) (a0 : Nat) (xp1 : Int32) (xp2 : Int32) (Q : Int32 → ql_H → Prop) (X : String → ql_H → Prop) (w : qw_X8_isNextIn a0 xp1 xp2 h0 Q) : ql_M D l yX8_isNextIn cX8_isNextIn 3 (some .boolean) ({ frames := 10, cells := 0, slots := 0, locals := 168 } : Room) h0 [.ref a0, .int xp1, .int xp2] (ql_rI Q) X 0 0 := by
  refine ql_ofW (by decide) (Nat.le_of_ble_eq_true rfl) ?_
  intro p e s m below meth c ls C hr hlocks hnm htab S hl
  have hl : lv_has ls 3 [(0, .ref a0), (1, .int xp1), (2, .int xp2)] := hl
  unfold qw_X8_isNextIn at w
  refine ql_aload_n (r := (some a0)) C dX8_isNextIn_0 rfl (lv_at hl 0 rfl) ?_
  refine ql_getI C S qf_10_3 gw_294 dX8_isNextIn_1 w (fun x1 w => ?_)
  refine ql_aload_n (r := (some a0)) C dX8_isNextIn_4 rfl (lv_at hl 0 rfl) ?_
  refine ql_getR C S qf_10_0 gw_290 dX8_isNextIn_5 w (fun r2 w => ?_)
  refine ql_VI (As := []) (rest := [.int x1]) C S htab hlocks hl qy_J4_length_8abf5 qi_J4_length_8abf5 qs_J4_length_8abf5 gw_1518 (ci := 1) rfl w (fun b w => qm_J4_length_8abf5 l hl9 D _ b _ _ w) rfl ⟨Nat.le_of_ble_eq_true rfl, Nat.le_of_ble_eq_true rfl⟩ ⟨rfl, rfl⟩ (by exact Nat.le_of_ble_eq_true rfl) (fun b e9 => by cases e9; rfl) dX8_isNextIn_8 ⟨Nat.le_of_ble_eq_true rfl, Nat.le_of_ble_eq_true rfl⟩ ⟨Nat.le_of_ble_eq_true rfl, Nat.le_of_ble_eq_true rfl⟩ (fun x3 h H locs S w => ?_)
  refine W.cs (cells' := 0) (slots' := 0) rfl rfl ?_
  refine lv_icmp_ge (tgt := 48) C.1.1 C.1.2.1 dX8_isNextIn_11 (by decide) (fun c9 => ?_) (fun c9 => ?_)
  · replace w := ql_if w c9
    refine lv_iconst (v := (0 : Int32)) C.1.1 C.1.2.1 dX8_isNextIn_48 (by decide) ?_
    exact ql_zret C S hr hlocks dX8_isNextIn_49 ⟨Nat.le_of_ble_eq_true rfl, Nat.le_of_ble_eq_true rfl⟩ w
  · replace w := ql_ifn w c9
    refine ql_aload_n (r := (some a0)) C dX8_isNextIn_14 rfl (lv_at hl 0 rfl) ?_
    refine ql_getR C S qf_10_0 gw_290 dX8_isNextIn_15 w (fun r5 w => ?_)
    refine ql_aload_n (r := (some a0)) C dX8_isNextIn_18 rfl (lv_at hl 0 rfl) ?_
    refine ql_getI C S qf_10_3 gw_294 dX8_isNextIn_19 w (fun x6 w => ?_)
    refine ql_VI (As := [.int x6]) (rest := []) C S htab hlocks hl qy_J4_charAt_5068e qi_J4_charAt_5068e qs_J4_charAt_5068e gw_1565 (ci := 1) rfl w (fun b w => qm_J4_charAt_5068e l hl9 D _ b x6 _ _ w) rfl ⟨Nat.le_of_ble_eq_true rfl, Nat.le_of_ble_eq_true rfl⟩ ⟨rfl, rfl⟩ (by exact Nat.le_of_ble_eq_true rfl) (fun b e9 => by cases e9; rfl) dX8_isNextIn_22 ⟨Nat.le_of_ble_eq_true rfl, Nat.le_of_ble_eq_true rfl⟩ ⟨Nat.le_of_ble_eq_true rfl, Nat.le_of_ble_eq_true rfl⟩ (fun x7 h H locs S w => ?_)
    refine W.cs (cells' := 0) (slots' := 0) rfl rfl ?_
    refine lv_iload_n C.1.1 C.1.2.1 dX8_isNextIn_25 rfl (lv_at hl 1 rfl) ?_
    refine lv_icmp_lt (tgt := 48) C.1.1 C.1.2.1 dX8_isNextIn_26 (by decide) (fun c9 => ?_) (fun c9 => ?_)
    · replace w := ql_if w c9
      refine lv_iconst (v := (0 : Int32)) C.1.1 C.1.2.1 dX8_isNextIn_48 (by decide) ?_
      exact ql_zret C S hr hlocks dX8_isNextIn_49 ⟨Nat.le_of_ble_eq_true rfl, Nat.le_of_ble_eq_true rfl⟩ w
    · replace w := ql_ifn w c9
      refine ql_aload_n (r := (some a0)) C dX8_isNextIn_29 rfl (lv_at hl 0 rfl) ?_
      refine ql_getR C S qf_10_0 gw_290 dX8_isNextIn_30 w (fun r9 w => ?_)
      refine ql_aload_n (r := (some a0)) C dX8_isNextIn_33 rfl (lv_at hl 0 rfl) ?_
      refine ql_getI C S qf_10_3 gw_294 dX8_isNextIn_34 w (fun x10 w => ?_)
      refine ql_VI (As := [.int x10]) (rest := []) C S htab hlocks hl qy_J4_charAt_5068e qi_J4_charAt_5068e qs_J4_charAt_5068e gw_1565 (ci := 1) rfl w (fun b w => qm_J4_charAt_5068e l hl9 D _ b x10 _ _ w) rfl ⟨Nat.le_of_ble_eq_true rfl, Nat.le_of_ble_eq_true rfl⟩ ⟨rfl, rfl⟩ (by exact Nat.le_of_ble_eq_true rfl) (fun b e9 => by cases e9; rfl) dX8_isNextIn_37 ⟨Nat.le_of_ble_eq_true rfl, Nat.le_of_ble_eq_true rfl⟩ ⟨Nat.le_of_ble_eq_true rfl, Nat.le_of_ble_eq_true rfl⟩ (fun x11 h H locs S w => ?_)
      refine W.cs (cells' := 0) (slots' := 0) rfl rfl ?_
      refine lv_iload_n C.1.1 C.1.2.1 dX8_isNextIn_40 rfl (lv_at hl 2 rfl) ?_
      refine lv_icmp_gt (tgt := 48) C.1.1 C.1.2.1 dX8_isNextIn_41 (by decide) (fun c9 => ?_) (fun c9 => ?_)
      · replace w := ql_if w c9
        refine lv_iconst (v := (0 : Int32)) C.1.1 C.1.2.1 dX8_isNextIn_48 (by decide) ?_
        exact ql_zret C S hr hlocks dX8_isNextIn_49 ⟨Nat.le_of_ble_eq_true rfl, Nat.le_of_ble_eq_true rfl⟩ w
      · replace w := ql_ifn w c9
        refine lv_iconst (v := (1 : Int32)) C.1.1 C.1.2.1 dX8_isNextIn_44 (by decide) ?_
        refine lv_goto (tgt := 49) C.1.1 C.1.2.1 dX8_isNextIn_45 (by decide) ?_
        exact ql_zret C S hr hlocks dX8_isNextIn_49 ⟨Nat.le_of_ble_eq_true rfl, Nat.le_of_ble_eq_true rfl⟩ w
def qw_X8_readNumber_50 (a0 : Nat) (Q : Int32 → ql_H → Prop) (k4 : Int32 → Int32 → ql_H → Prop) (xl2 : Int32) (xs0 : Int32) (h : ql_H) : Prop :=
ql_gI h (some a0) 10 3 fun x1 =>
ql_pV h (some a0) 10 3 (.int (x1 + (1 : Int32))) fun h =>
k4 xs0 (xl2 + (1 : Int32)) h
def qw_X8_readNumber_4 (a0 : Nat) (Q : Int32 → ql_H → Prop) : Nat → Int32 → Int32 → ql_H → Prop
  | 0, _, _, _ => False
  | n + 1, xl1, xl2, h =>
    if (3 : Int32) ≤ xl2 then (Q xl1 h) else (ql_rv h (some a0) 10 fun b2 => qw_X8_isNextIn b2 (48 : Int32) (57 : Int32) h (fun x2 h =>
    if x2 = 0 then (Q xl1 h) else (ql_gR h (some a0) 10 0 fun r4 =>
    ql_gI h (some a0) 10 3 fun x5 =>
    ql_rv h r4 1 fun b6 => qw_J4_charAt_5068e b6 x5 h (fun x6 h =>
    if xl1 = (-1 : Int32) then (qw_X8_readNumber_50 a0 Q (qw_X8_readNumber_4 a0 Q n) xl2 (x6 - (48 : Int32)) h) else (qw_X8_readNumber_50 a0 Q (qw_X8_readNumber_4 a0 Q n) xl2 ((xl1 * (10 : Int32)) + (x6 - (48 : Int32))) h)))))
def qw_X8_readNumber (a0 : Nat) (h : ql_H) (Q : Int32 → ql_H → Prop) : Prop :=
qw_X8_readNumber_4 a0 Q ql_FU (-1 : Int32) (0 : Int32) h
set_option maxHeartbeats 4000000 in
set_option maxRecDepth 100000 in
theorem qm_X8_readNumber (l : Launch) (hl9 : l.stackTraces = false) (D : ql_D) (h0 : ql_H) (a0 : Nat) (Q : Int32 → ql_H → Prop) (X : String → ql_H → Prop) (w : qw_X8_readNumber a0 h0 Q) : ql_M D l yX8_readNumber cX8_readNumber 4 (some .int) ({ frames := 12, cells := 0, slots := 0, locals := 198 } : Room) h0 [.ref a0] (ql_rI Q) X 0 0 := by
  refine ql_ofW (by decide) (Nat.le_of_ble_eq_true rfl) ?_
  intro p e s m below meth c ls C hr hlocks hnm htab S hl
  have hl : lv_has ls 4 [(0, .ref a0)] := hl
  have hB50 : ∀ (k4 : Int32 → Int32 → ql_H → Prop) (hk4 : ∀ (xl1 : Int32) (xl2 : Int32) (h : ql_H) (H : Heap) (locs : List Loc) (ls : Array Slot), ql_S D h0 s H locs h → lv_has ls 4 [(0, .ref a0), (1, .int xl1), (2, .int xl2)] → k4 xl1 xl2 h → W p l e ({ frames := 12, cells := 0, slots := 0, locals := 198 } : Room) s m ([.ref a0] : List Value).toArray below meth c H locs 0 0 (vx_MQ below (ql_Q D h0 (ql_rI Q)) (ql_X D h0 X) ([.ref a0] : List Value).toArray s 0 0 (ql_A h0)) (F0 m 4 ls [])) , ∀ (xl2 : Int32) (xs0 : Int32) (h : ql_H) (H : Heap) (locs : List Loc) (ls : Array Slot), ql_S D h0 s H locs h → lv_has ls 4 [(0, .ref a0), (2, .int xl2)] → qw_X8_readNumber_50 a0 Q k4 xl2 xs0 h → W p l e ({ frames := 12, cells := 0, slots := 0, locals := 198 } : Room) s m ([.ref a0] : List Value).toArray below meth c H locs 0 0 (vx_MQ below (ql_Q D h0 (ql_rI Q)) (ql_X D h0 X) ([.ref a0] : List Value).toArray s 0 0 (ql_A h0)) (F0 m 50 ls [.int xs0]) := by
    intro k4 hk4 xl2 xs0 h H locs ls S hl w
    unfold qw_X8_readNumber_50 at w
    refine lv_istore_n (lv' := [(1, .int xs0), (0, .ref a0), (2, .int xl2)]) C.1.1 C.1.2.1 dX8_readNumber_50 rfl hl (by decide) rfl (fun ls hl => ?_)
    refine ql_aload_n (r := (some a0)) C dX8_readNumber_51 rfl (lv_at hl 1 rfl) ?_
    refine lv_dup C.1.1 C.1.2.1 dX8_readNumber_52 (ql_catR _) ?_
    refine ql_getI C S qf_10_3 gw_294 dX8_readNumber_53 w (fun x1 w => ?_)
    refine lv_iconst (v := (1 : Int32)) C.1.1 C.1.2.1 dX8_readNumber_56 (by decide) ?_
    refine lv_iadd C.1.1 C.1.2.1 dX8_readNumber_57 ?_
    refine ql_putV C S qf_10_3 gw_294 (tyX8) tyX8_ok nmX8 rfl dX8_readNumber_58 (v := .int (x1 + (1 : Int32))) rfl rfl w (fun h H locs S w => ?_)
    refine lv_iinc (v := (xl2 + (1 : Int32))) (lv' := [(2, .int (xl2 + (1 : Int32))), (1, .int xs0), (0, .ref a0)]) C.1.1 C.1.2.1 dX8_readNumber_61 hl (k := 2) rfl rfl (by decide) rfl (fun ls hl => ?_)
    refine lv_goto (tgt := 4) C.1.1 C.1.2.1 dX8_readNumber_64 (by decide) ?_
    exact hk4 xs0 (xl2 + (1 : Int32)) _ _ _ _ S (lv_sub hl [2, 1, 0] rfl) w
  have hB4 : ∀ n : Nat, ∀ (xl1 : Int32) (xl2 : Int32) (h : ql_H) (H : Heap) (locs : List Loc) (ls : Array Slot), ql_S D h0 s H locs h → lv_has ls 4 [(0, .ref a0), (1, .int xl1), (2, .int xl2)] → qw_X8_readNumber_4 a0 Q n xl1 xl2 h → W p l e ({ frames := 12, cells := 0, slots := 0, locals := 198 } : Room) s m ([.ref a0] : List Value).toArray below meth c H locs 0 0 (vx_MQ below (ql_Q D h0 (ql_rI Q)) (ql_X D h0 X) ([.ref a0] : List Value).toArray s 0 0 (ql_A h0)) (F0 m 4 ls []) := by
    intro n
    induction n with
    | zero => intro xl1 xl2 h H locs ls S hl w; rw [qw_X8_readNumber_4] at w; exact w.elim
    | succ n ih =>
      intro xl1 xl2 h H locs ls S hl w
      rw [qw_X8_readNumber_4] at w
      refine lv_iload_n C.1.1 C.1.2.1 dX8_readNumber_4 rfl (lv_at hl 2 rfl) ?_
      refine lv_iconst (v := (3 : Int32)) C.1.1 C.1.2.1 dX8_readNumber_5 (by decide) ?_
      refine lv_icmp_ge (tgt := 67) C.1.1 C.1.2.1 dX8_readNumber_6 (by decide) (fun c9 => ?_) (fun c9 => ?_)
      · replace w := ql_if w c9
        refine lv_iload_n C.1.1 C.1.2.1 dX8_readNumber_67 rfl (lv_at hl 1 rfl) ?_
        exact ql_iret C S hr hlocks dX8_readNumber_68 ⟨Nat.le_of_ble_eq_true rfl, Nat.le_of_ble_eq_true rfl⟩ w
      · replace w := ql_ifn w c9
        refine ql_aload_n (r := (some a0)) C dX8_readNumber_9 rfl (lv_at hl 0 rfl) ?_
        refine lv_bipush (v := (48 : Int32)) C.1.1 C.1.2.1 dX8_readNumber_10 (by decide) ?_
        refine lv_bipush (v := (57 : Int32)) C.1.1 C.1.2.1 dX8_readNumber_12 (by decide) ?_
        refine ql_VI (As := [.int (48 : Int32), .int (57 : Int32)]) (rest := []) C S htab hlocks hl qy_X8_isNextIn qi_X8_isNextIn qs_X8_isNextIn gw_1579 (ci := 10) rfl w (fun b w => qm_X8_isNextIn l hl9 D _ b (48 : Int32) (57 : Int32) _ _ w) rfl ⟨Nat.le_of_ble_eq_true rfl, Nat.le_of_ble_eq_true rfl⟩ ⟨rfl, rfl⟩ (by exact Nat.le_of_ble_eq_true rfl) (fun b e9 => by cases e9; rfl) dX8_readNumber_14 ⟨Nat.le_of_ble_eq_true rfl, Nat.le_of_ble_eq_true rfl⟩ ⟨Nat.le_of_ble_eq_true rfl, Nat.le_of_ble_eq_true rfl⟩ (fun x2 h H locs S w => ?_)
        refine W.cs (cells' := 0) (slots' := 0) rfl rfl ?_
        refine lv_if_eq (tgt := 67) C.1.1 C.1.2.1 dX8_readNumber_17 (by decide) (fun c9 => ?_) (fun c9 => ?_)
        · replace w := ql_if w c9
          refine lv_iload_n C.1.1 C.1.2.1 dX8_readNumber_67 rfl (lv_at hl 1 rfl) ?_
          exact ql_iret C S hr hlocks dX8_readNumber_68 ⟨Nat.le_of_ble_eq_true rfl, Nat.le_of_ble_eq_true rfl⟩ w
        · replace w := ql_ifn w c9
          refine ql_aload_n (r := (some a0)) C dX8_readNumber_20 rfl (lv_at hl 0 rfl) ?_
          refine ql_getR C S qf_10_0 gw_290 dX8_readNumber_21 w (fun r4 w => ?_)
          refine ql_aload_n (r := (some a0)) C dX8_readNumber_24 rfl (lv_at hl 0 rfl) ?_
          refine ql_getI C S qf_10_3 gw_294 dX8_readNumber_25 w (fun x5 w => ?_)
          refine ql_VI (As := [.int x5]) (rest := []) C S htab hlocks hl qy_J4_charAt_5068e qi_J4_charAt_5068e qs_J4_charAt_5068e gw_1565 (ci := 1) rfl w (fun b w => qm_J4_charAt_5068e l hl9 D _ b x5 _ _ w) rfl ⟨Nat.le_of_ble_eq_true rfl, Nat.le_of_ble_eq_true rfl⟩ ⟨rfl, rfl⟩ (by exact Nat.le_of_ble_eq_true rfl) (fun b e9 => by cases e9; rfl) dX8_readNumber_28 ⟨Nat.le_of_ble_eq_true rfl, Nat.le_of_ble_eq_true rfl⟩ ⟨Nat.le_of_ble_eq_true rfl, Nat.le_of_ble_eq_true rfl⟩ (fun x6 h H locs S w => ?_)
          refine W.cs (cells' := 0) (slots' := 0) rfl rfl ?_
          refine lv_bipush (v := (48 : Int32)) C.1.1 C.1.2.1 dX8_readNumber_31 (by decide) ?_
          refine lv_isub C.1.1 C.1.2.1 dX8_readNumber_33 ?_
          refine lv_istore_n (lv' := [(3, .int (x6 - (48 : Int32))), (0, .ref a0), (1, .int xl1), (2, .int xl2)]) C.1.1 C.1.2.1 dX8_readNumber_34 rfl hl (by decide) rfl (fun ls hl => ?_)
          refine lv_iload_n C.1.1 C.1.2.1 dX8_readNumber_35 rfl (lv_at hl 2 rfl) ?_
          refine lv_iconst (v := (-1 : Int32)) C.1.1 C.1.2.1 dX8_readNumber_36 (by decide) ?_
          refine lv_icmp_ne (tgt := 44) C.1.1 C.1.2.1 dX8_readNumber_37 (by decide) (fun c9 => ?_) (fun c9 => ?_)
          · replace w := ql_ifn w c9
            refine lv_iload_n C.1.1 C.1.2.1 dX8_readNumber_44 rfl (lv_at hl 2 rfl) ?_
            refine lv_bipush (v := (10 : Int32)) C.1.1 C.1.2.1 dX8_readNumber_45 (by decide) ?_
            refine lv_imul C.1.1 C.1.2.1 dX8_readNumber_47 ?_
            refine lv_iload_n C.1.1 C.1.2.1 dX8_readNumber_48 rfl (lv_at hl 0 rfl) ?_
            refine lv_iadd C.1.1 C.1.2.1 dX8_readNumber_49 ?_
            exact hB50 (qw_X8_readNumber_4 a0 Q n) ih xl2 ((xl1 * (10 : Int32)) + (x6 - (48 : Int32))) _ _ _ _ S (lv_sub hl [1, 3] rfl) w
          · replace w := ql_if w c9
            refine lv_iload_n C.1.1 C.1.2.1 dX8_readNumber_40 rfl (lv_at hl 0 rfl) ?_
            refine lv_goto (tgt := 50) C.1.1 C.1.2.1 dX8_readNumber_41 (by decide) ?_
            exact hB50 (qw_X8_readNumber_4 a0 Q n) ih xl2 (x6 - (48 : Int32)) _ _ _ _ S (lv_sub hl [1, 3] rfl) w
  unfold qw_X8_readNumber at w
  refine lv_iconst (v := (-1 : Int32)) C.1.1 C.1.2.1 dX8_readNumber_0 (by decide) ?_
  refine lv_istore_n (lv' := [(1, .int (-1 : Int32)), (0, .ref a0)]) C.1.1 C.1.2.1 dX8_readNumber_1 rfl hl (by decide) rfl (fun ls hl => ?_)
  refine lv_iconst (v := (0 : Int32)) C.1.1 C.1.2.1 dX8_readNumber_2 (by decide) ?_
  refine lv_istore_n (lv' := [(2, .int (0 : Int32)), (1, .int (-1 : Int32)), (0, .ref a0)]) C.1.1 C.1.2.1 dX8_readNumber_3 rfl hl (by decide) rfl (fun ls hl => ?_)
  exact hB4 ql_FU (-1 : Int32) (0 : Int32) _ _ _ _ S (lv_sub hl [2, 1, 0] rfl) w
def qw_X8_readNote (a0 : Nat) (rp1 : Option Nat) (h : ql_H) (Q : Int32 → ql_H → Prop) : Prop :=
ql_rv h (some a0) 10 fun b1 => qw_X8_isNextIn b1 (97 : Int32) (103 : Int32) h (fun x1 h =>
if x1 = 0 then (ql_nz .boolean (0 : Int32) ∧ Q (0 : Int32) h) else (ql_gR h (some a0) 10 0 fun r3 =>
ql_gI h (some a0) 10 3 fun x4 =>
ql_rv h r3 1 fun b5 => qw_J4_charAt_5068e b5 x4 h (fun x5 h =>
ql_fz .char x5 ∧
ql_pV h rp1 7 3 (.int x5) fun h =>
ql_gI h (some a0) 10 3 fun x7 =>
ql_pV h (some a0) 10 3 (.int (x7 + (1 : Int32))) fun h =>
ql_nz .boolean (1 : Int32) ∧ Q (1 : Int32) h)))
set_option maxHeartbeats 4000000 in
set_option maxRecDepth 100000 in
theorem qm_X8_readNote (l : Launch) (hl9 : l.stackTraces = false) (D : ql_D) (h0 : ql_H) (a0 : Nat) (rp1 : Option Nat) (Q : Int32 → ql_H → Prop) (X : String → ql_H → Prop) (w : qw_X8_readNote a0 rp1 h0 Q) : ql_M D l yX8_readNote cX8_readNote 2 (some .boolean) ({ frames := 12, cells := 0, slots := 0, locals := 198 } : Room) h0 [.ref a0, va_rf rp1] (ql_rI Q) X 0 0 := by
  refine ql_ofW (by decide) (by cases rp1 <;> exact Nat.le_of_ble_eq_true rfl) ?_
  intro p e s m below meth c ls C hr hlocks hnm htab S hl
  rw [show lv_args 0 [.ref a0, va_rf rp1] = [(0, .ref a0), (1, va_rf rp1)] from by cases rp1 <;> rfl] at hl
  unfold qw_X8_readNote at w
  refine ql_aload_n (r := (some a0)) C dX8_readNote_0 rfl (lv_at hl 0 rfl) ?_
  refine lv_bipush (v := (97 : Int32)) C.1.1 C.1.2.1 dX8_readNote_1 (by decide) ?_
  refine lv_bipush (v := (103 : Int32)) C.1.1 C.1.2.1 dX8_readNote_3 (by decide) ?_
  refine ql_VI (As := [.int (97 : Int32), .int (103 : Int32)]) (rest := []) C S htab hlocks hl qy_X8_isNextIn qi_X8_isNextIn qs_X8_isNextIn gw_1579 (ci := 10) rfl w (fun b w => qm_X8_isNextIn l hl9 D _ b (97 : Int32) (103 : Int32) _ _ w) rfl ⟨Nat.le_of_ble_eq_true rfl, Nat.le_of_ble_eq_true rfl⟩ ⟨rfl, rfl⟩ (by exact Nat.le_of_ble_eq_true rfl) (fun b e9 => by cases e9; rfl) dX8_readNote_5 ⟨Nat.le_of_ble_eq_true rfl, Nat.le_of_ble_eq_true rfl⟩ ⟨Nat.le_of_ble_eq_true rfl, Nat.le_of_ble_eq_true rfl⟩ (fun x1 h H locs S w => ?_)
  refine W.cs (cells' := 0) (slots' := 0) rfl rfl ?_
  refine lv_if_ne (tgt := 13) C.1.1 C.1.2.1 dX8_readNote_8 (by decide) (fun c9 => ?_) (fun c9 => ?_)
  · replace w := ql_ifn w c9
    refine ql_aload_n (r := rp1) C dX8_readNote_13 rfl (lv_at hl 1 rfl) ?_
    refine ql_aload_n (r := (some a0)) C dX8_readNote_14 rfl (lv_at hl 0 rfl) ?_
    refine ql_getR C S qf_10_0 gw_290 dX8_readNote_15 w (fun r3 w => ?_)
    refine ql_aload_n (r := (some a0)) C dX8_readNote_18 rfl (lv_at hl 0 rfl) ?_
    refine ql_getI C S qf_10_3 gw_294 dX8_readNote_19 w (fun x4 w => ?_)
    refine ql_VI (As := [.int x4]) (rest := [va_rf rp1]) C S htab hlocks hl qy_J4_charAt_5068e qi_J4_charAt_5068e qs_J4_charAt_5068e gw_1565 (ci := 1) rfl w (fun b w => qm_J4_charAt_5068e l hl9 D _ b x4 _ _ w) rfl ⟨Nat.le_of_ble_eq_true rfl, Nat.le_of_ble_eq_true rfl⟩ ⟨rfl, rfl⟩ (by generalize rp1 = z0; cases z0 <;> exact Nat.le_of_ble_eq_true rfl) (fun b e9 => by cases e9; rfl) dX8_readNote_22 ⟨Nat.le_of_ble_eq_true rfl, Nat.le_of_ble_eq_true rfl⟩ ⟨Nat.le_of_ble_eq_true rfl, Nat.le_of_ble_eq_true rfl⟩ (fun x5 h H locs S w => ?_)
    refine W.cs (cells' := 0) (slots' := 0) rfl rfl ?_
    refine ql_putVN C S qf_7_3 (qn_RX8_118) (tyX4) tyX4_ok nmX4 rfl dX8_readNote_25 (v := .int x5) w.1.1 w.1.2 w.2 (fun h H locs S w => ?_)
    refine ql_aload_n (r := (some a0)) C dX8_readNote_28 rfl (lv_at hl 0 rfl) ?_
    refine lv_dup C.1.1 C.1.2.1 dX8_readNote_29 (ql_catR _) ?_
    refine ql_getI C S qf_10_3 gw_294 dX8_readNote_30 w (fun x7 w => ?_)
    refine lv_iconst (v := (1 : Int32)) C.1.1 C.1.2.1 dX8_readNote_33 (by decide) ?_
    refine lv_iadd C.1.1 C.1.2.1 dX8_readNote_34 ?_
    refine ql_putV C S qf_10_3 gw_294 (tyX8) tyX8_ok nmX8 rfl dX8_readNote_35 (v := .int (x7 + (1 : Int32))) rfl rfl w (fun h H locs S w => ?_)
    refine lv_iconst (v := (1 : Int32)) C.1.1 C.1.2.1 dX8_readNote_38 (by decide) ?_
    exact ql_zret C S hr hlocks dX8_readNote_39 ⟨Nat.le_of_ble_eq_true rfl, Nat.le_of_ble_eq_true rfl⟩ w
  · replace w := ql_if w c9
    refine lv_iconst (v := (0 : Int32)) C.1.1 C.1.2.1 dX8_readNote_11 (by decide) ?_
    exact ql_zret C S hr hlocks dX8_readNote_12 ⟨Nat.le_of_ble_eq_true rfl, Nat.le_of_ble_eq_true rfl⟩ w
def qw_X8_readSign (a0 : Nat) (xp1 : Int32) (h : ql_H) (Q : Int32 → ql_H → Prop) : Prop :=
ql_rv h (some a0) 10 fun b1 => qw_X8_isNext b1 (0 : Int32) xp1 h (fun x1 h =>
if x1 = 0 then (ql_nz .boolean (0 : Int32) ∧ Q (0 : Int32) h) else (ql_gI h (some a0) 10 3 fun x3 =>
ql_pV h (some a0) 10 3 (.int (x3 + (1 : Int32))) fun h =>
ql_nz .boolean (1 : Int32) ∧ Q (1 : Int32) h))
set_option maxHeartbeats 4000000 in
set_option maxRecDepth 100000 in
theorem qm_X8_readSign (l : Launch) (hl9 : l.stackTraces = false) (D : ql_D) (h0 : ql_H) (a0 : Nat) (xp1 : Int32) (Q : Int32 → ql_H → Prop) (X : String → ql_H → Prop) (w : qw_X8_readSign a0 xp1 h0 Q) : ql_M D l yX8_readSign cX8_readSign 2 (some .boolean) ({ frames := 12, cells := 0, slots := 0, locals := 199 } : Room) h0 [.ref a0, .int xp1] (ql_rI Q) X 0 0 := by
  refine ql_ofW (by decide) (Nat.le_of_ble_eq_true rfl) ?_
  intro p e s m below meth c ls C hr hlocks hnm htab S hl
  have hl : lv_has ls 2 [(0, .ref a0), (1, .int xp1)] := hl
  unfold qw_X8_readSign at w
  refine ql_aload_n (r := (some a0)) C dX8_readSign_0 rfl (lv_at hl 0 rfl) ?_
  refine lv_iconst (v := (0 : Int32)) C.1.1 C.1.2.1 dX8_readSign_1 (by decide) ?_
  refine lv_iload_n C.1.1 C.1.2.1 dX8_readSign_2 rfl (lv_at hl 1 rfl) ?_
  refine ql_VI (As := [.int (0 : Int32), .int xp1]) (rest := []) C S htab hlocks hl qy_X8_isNext qi_X8_isNext qs_X8_isNext gw_1561 (ci := 10) rfl w (fun b w => qm_X8_isNext l hl9 D _ b (0 : Int32) xp1 _ _ w) rfl ⟨Nat.le_of_ble_eq_true rfl, Nat.le_of_ble_eq_true rfl⟩ ⟨rfl, rfl⟩ (by exact Nat.le_of_ble_eq_true rfl) (fun b e9 => by cases e9; rfl) dX8_readSign_3 ⟨Nat.le_of_ble_eq_true rfl, Nat.le_of_ble_eq_true rfl⟩ ⟨Nat.le_of_ble_eq_true rfl, Nat.le_of_ble_eq_true rfl⟩ (fun x1 h H locs S w => ?_)
  refine W.cs (cells' := 0) (slots' := 0) rfl rfl ?_
  refine lv_if_ne (tgt := 11) C.1.1 C.1.2.1 dX8_readSign_6 (by decide) (fun c9 => ?_) (fun c9 => ?_)
  · replace w := ql_ifn w c9
    refine ql_aload_n (r := (some a0)) C dX8_readSign_11 rfl (lv_at hl 0 rfl) ?_
    refine lv_dup C.1.1 C.1.2.1 dX8_readSign_12 (ql_catR _) ?_
    refine ql_getI C S qf_10_3 gw_294 dX8_readSign_13 w (fun x3 w => ?_)
    refine lv_iconst (v := (1 : Int32)) C.1.1 C.1.2.1 dX8_readSign_16 (by decide) ?_
    refine lv_iadd C.1.1 C.1.2.1 dX8_readSign_17 ?_
    refine ql_putV C S qf_10_3 gw_294 (tyX8) tyX8_ok nmX8 rfl dX8_readSign_18 (v := .int (x3 + (1 : Int32))) rfl rfl w (fun h H locs S w => ?_)
    refine lv_iconst (v := (1 : Int32)) C.1.1 C.1.2.1 dX8_readSign_21 (by decide) ?_
    exact ql_zret C S hr hlocks dX8_readSign_22 ⟨Nat.le_of_ble_eq_true rfl, Nat.le_of_ble_eq_true rfl⟩ w
  · replace w := ql_if w c9
    refine lv_iconst (v := (0 : Int32)) C.1.1 C.1.2.1 dX8_readSign_9 (by decide) ?_
    exact ql_zret C S hr hlocks dX8_readSign_10 ⟨Nat.le_of_ble_eq_true rfl, Nat.le_of_ble_eq_true rfl⟩ w
def qw_X8_readPart (a0 : Nat) (xp1 : Int32) (rp2 : Option Nat) (h : ql_H) (Q : Int32 → ql_H → Prop) : Prop :=
if xp1 = (49 : Int32) then (ql_rv h (some a0) 10 fun b1 => qw_X8_readNumber b1  h (fun x1 h =>
ql_pV h rp2 7 1 (.int x1) fun h =>
ql_gI h rp2 7 1 fun x3 =>
if x3 = (-1 : Int32) then (ql_nz .boolean (0 : Int32) ∧ Q (0 : Int32) h) else (ql_nz .boolean (1 : Int32) ∧ Q (1 : Int32) h))) else if xp1 = (50 : Int32) then (ql_rv h (some a0) 10 fun b4 => qw_X8_readNumber b4  h (fun x4 h =>
ql_pV h rp2 7 2 (.int x4) fun h =>
ql_gI h rp2 7 2 fun x6 =>
if x6 = (-1 : Int32) then (ql_nz .boolean (0 : Int32) ∧ Q (0 : Int32) h) else (ql_nz .boolean (1 : Int32) ∧ Q (1 : Int32) h))) else if xp1 = (110 : Int32) then (ql_rv h (some a0) 10 fun b7 => qw_X8_readNote b7 rp2 h (fun x7 h =>
ql_nz .boolean x7 ∧ Q x7 h)) else (ql_rv h (some a0) 10 fun b9 => qw_X8_readSign b9 xp1 h (fun x9 h =>
ql_nz .boolean x9 ∧ Q x9 h))
set_option maxHeartbeats 4000000 in
set_option maxRecDepth 100000 in
theorem qm_X8_readPart (l : Launch) (hl9 : l.stackTraces = false) (D : ql_D) (h0 : ql_H) (a0 : Nat) (xp1 : Int32) (rp2 : Option Nat) (Q : Int32 → ql_H → Prop) (X : String → ql_H → Prop) (w : qw_X8_readPart a0 xp1 rp2 h0 Q) : ql_M D l yX8_readPart cX8_readPart 3 (some .boolean) ({ frames := 14, cells := 0, slots := 0, locals := 229 } : Room) h0 [.ref a0, .int xp1, va_rf rp2] (ql_rI Q) X 0 0 := by
  refine ql_ofW (by decide) (by cases rp2 <;> exact Nat.le_of_ble_eq_true rfl) ?_
  intro p e s m below meth c ls C hr hlocks hnm htab S hl
  rw [show lv_args 0 [.ref a0, .int xp1, va_rf rp2] = [(0, .ref a0), (1, .int xp1), (2, va_rf rp2)] from by cases rp2 <;> rfl] at hl
  unfold qw_X8_readPart at w
  refine lv_iload_n C.1.1 C.1.2.1 dX8_readPart_0 rfl (lv_at hl 1 rfl) ?_
  by_cases c9 : xp1 = (49 : Int32)
  · replace w := ql_if w c9
    refine lv_lookup (tgt := 36) (off := 35) C.1.1 C.1.2.1 dX8_readPart_1 (by decide) (by rw [c9]; decide) (by decide) ?_
    refine ql_aload_n (r := rp2) C dX8_readPart_36 rfl (lv_at hl 2 rfl) ?_
    refine ql_aload_n (r := (some a0)) C dX8_readPart_37 rfl (lv_at hl 0 rfl) ?_
    refine ql_VI (As := []) (rest := [va_rf rp2]) C S htab hlocks hl qy_X8_readNumber qi_X8_readNumber qs_X8_readNumber gw_1575 (ci := 10) rfl w (fun b w => qm_X8_readNumber l hl9 D _ b _ _ w) rfl ⟨Nat.le_of_ble_eq_true rfl, Nat.le_of_ble_eq_true rfl⟩ ⟨rfl, rfl⟩ (by generalize rp2 = z0; cases z0 <;> exact Nat.le_of_ble_eq_true rfl) (fun b e9 => by cases e9; rfl) dX8_readPart_38 ⟨Nat.le_of_ble_eq_true rfl, Nat.le_of_ble_eq_true rfl⟩ ⟨Nat.le_of_ble_eq_true rfl, Nat.le_of_ble_eq_true rfl⟩ (fun x1 h H locs S w => ?_)
    refine W.cs (cells' := 0) (slots' := 0) rfl rfl ?_
    refine ql_putVN C S qf_7_1 (qn_RX8_104) (tyX4) tyX4_ok nmX4 rfl dX8_readPart_41 (v := .int x1) rfl rfl w (fun h H locs S w => ?_)
    refine ql_aload_n (r := rp2) C dX8_readPart_44 rfl (lv_at hl 2 rfl) ?_
    refine ql_getIN C S qf_7_1 (qn_RX8_104) dX8_readPart_45 w (fun x3 w => ?_)
    refine lv_iconst (v := (-1 : Int32)) C.1.1 C.1.2.1 dX8_readPart_48 (by decide) ?_
    refine lv_icmp_eq (tgt := 56) C.1.1 C.1.2.1 dX8_readPart_49 (by decide) (fun c9 => ?_) (fun c9 => ?_)
    · replace w := ql_if w c9
      refine lv_iconst (v := (0 : Int32)) C.1.1 C.1.2.1 dX8_readPart_56 (by decide) ?_
      exact ql_zret C S hr hlocks dX8_readPart_57 ⟨Nat.le_of_ble_eq_true rfl, Nat.le_of_ble_eq_true rfl⟩ w
    · replace w := ql_ifn w c9
      refine lv_iconst (v := (1 : Int32)) C.1.1 C.1.2.1 dX8_readPart_52 (by decide) ?_
      refine lv_goto (tgt := 57) C.1.1 C.1.2.1 dX8_readPart_53 (by decide) ?_
      exact ql_zret C S hr hlocks dX8_readPart_57 ⟨Nat.le_of_ble_eq_true rfl, Nat.le_of_ble_eq_true rfl⟩ w
  replace w := ql_ifn w c9
  have e0 := c9
  clear c9
  by_cases c9 : xp1 = (50 : Int32)
  · replace w := ql_if w c9
    refine lv_lookup (tgt := 58) (off := 57) C.1.1 C.1.2.1 dX8_readPart_1 (by decide) (by rw [c9]; decide) (by decide) ?_
    refine ql_aload_n (r := rp2) C dX8_readPart_58 rfl (lv_at hl 2 rfl) ?_
    refine ql_aload_n (r := (some a0)) C dX8_readPart_59 rfl (lv_at hl 0 rfl) ?_
    refine ql_VI (As := []) (rest := [va_rf rp2]) C S htab hlocks hl qy_X8_readNumber qi_X8_readNumber qs_X8_readNumber gw_1575 (ci := 10) rfl w (fun b w => qm_X8_readNumber l hl9 D _ b _ _ w) rfl ⟨Nat.le_of_ble_eq_true rfl, Nat.le_of_ble_eq_true rfl⟩ ⟨rfl, rfl⟩ (by generalize rp2 = z0; cases z0 <;> exact Nat.le_of_ble_eq_true rfl) (fun b e9 => by cases e9; rfl) dX8_readPart_60 ⟨Nat.le_of_ble_eq_true rfl, Nat.le_of_ble_eq_true rfl⟩ ⟨Nat.le_of_ble_eq_true rfl, Nat.le_of_ble_eq_true rfl⟩ (fun x4 h H locs S w => ?_)
    refine W.cs (cells' := 0) (slots' := 0) rfl rfl ?_
    refine ql_putVN C S qf_7_2 (qn_RX8_107) (tyX4) tyX4_ok nmX4 rfl dX8_readPart_63 (v := .int x4) rfl rfl w (fun h H locs S w => ?_)
    refine ql_aload_n (r := rp2) C dX8_readPart_66 rfl (lv_at hl 2 rfl) ?_
    refine ql_getIN C S qf_7_2 (qn_RX8_107) dX8_readPart_67 w (fun x6 w => ?_)
    refine lv_iconst (v := (-1 : Int32)) C.1.1 C.1.2.1 dX8_readPart_70 (by decide) ?_
    refine lv_icmp_eq (tgt := 78) C.1.1 C.1.2.1 dX8_readPart_71 (by decide) (fun c9 => ?_) (fun c9 => ?_)
    · replace w := ql_if w c9
      refine lv_iconst (v := (0 : Int32)) C.1.1 C.1.2.1 dX8_readPart_78 (by decide) ?_
      exact ql_zret C S hr hlocks dX8_readPart_79 ⟨Nat.le_of_ble_eq_true rfl, Nat.le_of_ble_eq_true rfl⟩ w
    · replace w := ql_ifn w c9
      refine lv_iconst (v := (1 : Int32)) C.1.1 C.1.2.1 dX8_readPart_74 (by decide) ?_
      refine lv_goto (tgt := 79) C.1.1 C.1.2.1 dX8_readPart_75 (by decide) ?_
      exact ql_zret C S hr hlocks dX8_readPart_79 ⟨Nat.le_of_ble_eq_true rfl, Nat.le_of_ble_eq_true rfl⟩ w
  replace w := ql_ifn w c9
  have e1 := c9
  clear c9
  by_cases c9 : xp1 = (110 : Int32)
  · replace w := ql_if w c9
    refine lv_lookup (tgt := 80) (off := 79) C.1.1 C.1.2.1 dX8_readPart_1 (by decide) (by rw [c9]; decide) (by decide) ?_
    refine ql_aload_n (r := (some a0)) C dX8_readPart_80 rfl (lv_at hl 0 rfl) ?_
    refine ql_aload_n (r := rp2) C dX8_readPart_81 rfl (lv_at hl 2 rfl) ?_
    refine ql_VI (As := [va_rf rp2]) (rest := []) C S htab hlocks hl qy_X8_readNote qi_X8_readNote qs_X8_readNote gw_1583 (ci := 10) rfl w (fun b w => qm_X8_readNote l hl9 D _ b rp2 _ _ w) rfl ⟨Nat.le_of_ble_eq_true rfl, Nat.le_of_ble_eq_true rfl⟩ ⟨rfl, rfl⟩ (by exact Nat.le_of_ble_eq_true rfl) (fun b e9 => by cases e9; rfl) dX8_readPart_82 ⟨Nat.le_of_ble_eq_true rfl, Nat.le_of_ble_eq_true rfl⟩ ⟨Nat.le_of_ble_eq_true rfl, Nat.le_of_ble_eq_true rfl⟩ (fun x7 h H locs S w => ?_)
    refine W.cs (cells' := 0) (slots' := 0) rfl rfl ?_
    exact ql_zret C S hr hlocks dX8_readPart_85 ⟨Nat.le_of_ble_eq_true rfl, Nat.le_of_ble_eq_true rfl⟩ w
  replace w := ql_ifn w c9
  have e2 := c9
  clear c9
  refine lv_lookup (tgt := 86) (off := 85) C.1.1 C.1.2.1 dX8_readPart_1 (by decide) (by (first | rw [lv_osw e0 (by decide)] | erw [lv_osw e0 (by decide)]); (first | rw [lv_osw e1 (by decide)] | erw [lv_osw e1 (by decide)]); (first | rw [lv_osw e2 (by decide)] | erw [lv_osw e2 (by decide)]); rfl) (by decide) ?_
  refine ql_aload_n (r := (some a0)) C dX8_readPart_86 rfl (lv_at hl 0 rfl) ?_
  refine lv_iload_n C.1.1 C.1.2.1 dX8_readPart_87 rfl (lv_at hl 1 rfl) ?_
  refine ql_VI (As := [.int xp1]) (rest := []) C S htab hlocks hl qy_X8_readSign qi_X8_readSign qs_X8_readSign gw_1587 (ci := 10) rfl w (fun b w => qm_X8_readSign l hl9 D _ b xp1 _ _ w) rfl ⟨Nat.le_of_ble_eq_true rfl, Nat.le_of_ble_eq_true rfl⟩ ⟨rfl, rfl⟩ (by exact Nat.le_of_ble_eq_true rfl) (fun b e9 => by cases e9; rfl) dX8_readPart_88 ⟨Nat.le_of_ble_eq_true rfl, Nat.le_of_ble_eq_true rfl⟩ ⟨Nat.le_of_ble_eq_true rfl, Nat.le_of_ble_eq_true rfl⟩ (fun x9 h H locs S w => ?_)
  refine W.cs (cells' := 0) (slots' := 0) rfl rfl ?_
  exact ql_zret C S hr hlocks dX8_readPart_91 ⟨Nat.le_of_ble_eq_true rfl, Nat.le_of_ble_eq_true rfl⟩ w
def qw_X8_readForm_10 (σ : Nat → Nat) (a0 : Nat) (Q : Int32 → ql_H → Prop) : Nat → Option Nat → Option Nat → Int32 → ql_H → Prop
  | 0, _, _, _, _ => False
  | n + 1, rl1, rl2, xl3, h =>
    ql_st σ rl2 fun b1 => qw_J0_length_8abf5 σ (σ (200 + b1))  h (fun x1 h =>
    if x1 ≤ xl3 then (ql_nz .boolean (1 : Int32) ∧ Q (1 : Int32) h) else (ql_st σ rl2 fun b3 => qw_J0_charAt_5068e σ (σ (200 + b3)) xl3 h (fun x3 h =>
    ql_rv h (some a0) 10 fun b5 => qw_X8_readPart b5 x3 rl1 h (fun x5 h =>
    if x5 = 0 then (ql_nz .boolean (0 : Int32) ∧ Q (0 : Int32) h) else (qw_X8_readForm_10 σ a0 Q n rl1 rl2 (xl3 + (1 : Int32)) h)))))
def qw_X8_readForm (σ : Nat → Nat) (a0 : Nat) (rp1 : Option Nat) (h : ql_H) (Q : Int32 → ql_H → Prop) : Prop :=
ql_gR h rp1 7 0 fun r7 =>
ql_en σ r7 fun k8 =>
qw_X8_readForm_10 σ a0 Q ql_FU rp1 (some (σ (200 + ql_fm k8))) (0 : Int32) h
set_option maxHeartbeats 4000000 in
set_option maxRecDepth 100000 in
theorem qm_X8_readForm (l : Launch) (hl9 : l.stackTraces = false) (D : ql_D) (h0 : ql_H) (a0 : Nat) (rp1 : Option Nat) (Q : Int32 → ql_H → Prop) (X : String → ql_H → Prop) (w : qw_X8_readForm D.2 a0 rp1 h0 Q) : ql_M D l yX8_readForm cX8_readForm 4 (some .boolean) ({ frames := 16, cells := 0, slots := 0, locals := 259 } : Room) h0 [.ref a0, va_rf rp1] (ql_rI Q) X 0 0 := by
  refine ql_ofW (by decide) (by cases rp1 <;> exact Nat.le_of_ble_eq_true rfl) ?_
  intro p e s m below meth c ls C hr hlocks hnm htab S hl
  rw [show lv_args 0 [.ref a0, va_rf rp1] = [(0, .ref a0), (1, va_rf rp1)] from by cases rp1 <;> rfl] at hl
  have hB10 : ∀ n : Nat, ∀ (rl1 : Option Nat) (rl2 : Option Nat) (xl3 : Int32) (h : ql_H) (H : Heap) (locs : List Loc) (ls : Array Slot), ql_S D h0 s H locs h → lv_has ls 4 [(0, .ref a0), (1, va_rf rl1), (2, va_rf rl2), (3, .int xl3)] → qw_X8_readForm_10 D.2 a0 Q n rl1 rl2 xl3 h → W p l e ({ frames := 16, cells := 0, slots := 0, locals := 259 } : Room) s m ([.ref a0, va_rf rp1] : List Value).toArray below meth c H locs 0 0 (vx_MQ below (ql_Q D h0 (ql_rI Q)) (ql_X D h0 X) ([.ref a0, va_rf rp1] : List Value).toArray s 0 0 (ql_A h0)) (F0 m 10 ls []) := by
    intro n
    induction n with
    | zero => intro rl1 rl2 xl3 h H locs ls S hl w; rw [qw_X8_readForm_10] at w; exact w.elim
    | succ n ih =>
      intro rl1 rl2 xl3 h H locs ls S hl w
      rw [qw_X8_readForm_10] at w
      refine lv_iload_n C.1.1 C.1.2.1 dX8_readForm_10 rfl (lv_at hl 3 rfl) ?_
      refine ql_aload_n (r := rl2) C dX8_readForm_11 rfl (lv_at hl 2 rfl) ?_
      refine ql_TI (As := []) (rest := [.int xl3]) C S htab hlocks hl qy_J0_length_8abf5 qi_J0_length_8abf5 gw_1296 gw_1545 w (fun k hk9 w => qm_J0_length_8abf5 l hl9 D _ (D.2 (200 + k)) _ _ w) rfl ⟨Nat.le_of_ble_eq_true rfl, Nat.le_of_ble_eq_true rfl⟩ ⟨rfl, rfl⟩ (by exact Nat.le_of_ble_eq_true rfl) (fun b e9 => by cases e9; rfl) dX8_readForm_12 ⟨Nat.le_of_ble_eq_true rfl, Nat.le_of_ble_eq_true rfl⟩ ⟨Nat.le_of_ble_eq_true rfl, Nat.le_of_ble_eq_true rfl⟩ (fun x1 h H locs S w => ?_)
      refine W.cs (cells' := 0) (slots' := 0) rfl rfl ?_
      refine lv_icmp_ge (tgt := 39) C.1.1 C.1.2.1 dX8_readForm_15 (by decide) (fun c9 => ?_) (fun c9 => ?_)
      · replace w := ql_if w c9
        refine lv_iconst (v := (1 : Int32)) C.1.1 C.1.2.1 dX8_readForm_39 (by decide) ?_
        exact ql_zret C S hr hlocks dX8_readForm_40 ⟨Nat.le_of_ble_eq_true rfl, Nat.le_of_ble_eq_true rfl⟩ w
      · replace w := ql_ifn w c9
        refine ql_aload_n (r := (some a0)) C dX8_readForm_18 rfl (lv_at hl 0 rfl) ?_
        refine ql_aload_n (r := rl2) C dX8_readForm_19 rfl (lv_at hl 2 rfl) ?_
        refine lv_iload_n C.1.1 C.1.2.1 dX8_readForm_20 rfl (lv_at hl 3 rfl) ?_
        refine ql_TI (As := [.int xl3]) (rest := [.ref a0]) C S htab hlocks hl qy_J0_charAt_5068e qi_J0_charAt_5068e gw_1548 gw_1546 w (fun k hk9 w => qm_J0_charAt_5068e l hl9 D _ (D.2 (200 + k)) xl3 _ _ w) rfl ⟨Nat.le_of_ble_eq_true rfl, Nat.le_of_ble_eq_true rfl⟩ ⟨rfl, rfl⟩ (by exact Nat.le_of_ble_eq_true rfl) (fun b e9 => by cases e9; rfl) dX8_readForm_21 ⟨Nat.le_of_ble_eq_true rfl, Nat.le_of_ble_eq_true rfl⟩ ⟨Nat.le_of_ble_eq_true rfl, Nat.le_of_ble_eq_true rfl⟩ (fun x3 h H locs S w => ?_)
        refine W.cs (cells' := 0) (slots' := 0) rfl rfl ?_
        refine ql_aload_n (r := rl1) C dX8_readForm_24 rfl (lv_at hl 1 rfl) ?_
        refine ql_VI (As := [.int x3, va_rf rl1]) (rest := []) C S htab hlocks hl qy_X8_readPart qi_X8_readPart qs_X8_readPart gw_1571 (ci := 10) rfl w (fun b w => qm_X8_readPart l hl9 D _ b x3 rl1 _ _ w) rfl ⟨Nat.le_of_ble_eq_true rfl, Nat.le_of_ble_eq_true rfl⟩ ⟨rfl, rfl⟩ (by exact Nat.le_of_ble_eq_true rfl) (fun b e9 => by cases e9; rfl) dX8_readForm_25 ⟨Nat.le_of_ble_eq_true rfl, Nat.le_of_ble_eq_true rfl⟩ ⟨Nat.le_of_ble_eq_true rfl, Nat.le_of_ble_eq_true rfl⟩ (fun x5 h H locs S w => ?_)
        refine W.cs (cells' := 0) (slots' := 0) rfl rfl ?_
        refine lv_if_ne (tgt := 33) C.1.1 C.1.2.1 dX8_readForm_28 (by decide) (fun c9 => ?_) (fun c9 => ?_)
        · replace w := ql_ifn w c9
          refine lv_iinc (v := (xl3 + (1 : Int32))) (lv' := [(3, .int (xl3 + (1 : Int32))), (0, .ref a0), (1, va_rf rl1), (2, va_rf rl2)]) C.1.1 C.1.2.1 dX8_readForm_33 hl (k := 3) rfl rfl (by decide) (by generalize rl2 = z9; cases z9 <;> rfl) (fun ls hl => ?_)
          refine lv_goto (tgt := 10) C.1.1 C.1.2.1 dX8_readForm_36 (by decide) ?_
          exact ih rl1 rl2 (xl3 + (1 : Int32)) _ _ _ _ S (lv_sub hl [1, 2, 3, 0] rfl) w
        · replace w := ql_if w c9
          refine lv_iconst (v := (0 : Int32)) C.1.1 C.1.2.1 dX8_readForm_31 (by decide) ?_
          exact ql_zret C S hr hlocks dX8_readForm_32 ⟨Nat.le_of_ble_eq_true rfl, Nat.le_of_ble_eq_true rfl⟩ w
  unfold qw_X8_readForm at w
  refine ql_aload_n (r := rp1) C dX8_readForm_0 rfl (lv_at hl 1 rfl) ?_
  refine ql_getRN C S qf_7_0 (qn_RX8_82) dX8_readForm_1 w (fun r7 w => ?_)
  refine ql_enfm C S (qn_RX8_94) dX8_readForm_4 w (fun k8 hk9 w => ?_)
  refine ql_astore_n (lv' := [(2, va_rf (some (D.2 (200 + ql_fm k8)))), (0, .ref a0), (1, va_rf rp1)]) C dX8_readForm_7 rfl hl (by decide) (by generalize rp1 = z9; cases z9 <;> rfl) (fun ls hl => ?_)
  refine lv_iconst (v := (0 : Int32)) C.1.1 C.1.2.1 dX8_readForm_8 (by decide) ?_
  refine lv_istore_n (lv' := [(3, .int (0 : Int32)), (2, va_rf (some (D.2 (200 + ql_fm k8)))), (0, .ref a0), (1, va_rf rp1)]) C.1.1 C.1.2.1 dX8_readForm_9 rfl hl (by decide) (by generalize (some (D.2 (200 + ql_fm k8))) = z9; cases z9 <;> rfl) (fun ls hl => ?_)
  exact hB10 ql_FU rp1 (some (D.2 (200 + ql_fm k8))) (0 : Int32) _ _ _ _ S (lv_sub hl [2, 3, 1, 0] rfl) w
def qw_X8_read_20 (σ : Nat → Nat) (a0 : Nat) (Q : Int32 → ql_H → Prop) : Nat → Option Nat → Int32 → Int32 → ql_H → Prop
  | 0, _, _, _, _ => False
  | n + 1, rl1, xl2, xl3, h =>
    if xl2 ≤ xl3 then (ql_nz .boolean (0 : Int32) ∧ Q (0 : Int32) h) else (ql_lR h rl1 7 xl3 fun r1 =>
    ql_rv h (some a0) 10 fun b2 => qw_X8_readKeyword σ b2 r1 h (fun x2 h =>
    if x2 = 0 then (ql_nz .boolean (0 : Int32) ∧ Q (0 : Int32) h) else (ql_rv h (some a0) 10 fun b4 => qw_X8_readForm σ b4 r1 h (fun x4 h =>
    if x4 = 0 then (ql_nz .boolean (0 : Int32) ∧ Q (0 : Int32) h) else (ql_gI h (some a0) 10 2 fun x6 =>
    ql_pV h (some a0) 10 2 (.int (x6 + (1 : Int32))) fun h =>
    ql_gI h (some a0) 10 3 fun x7 =>
    ql_gR h (some a0) 10 0 fun r8 =>
    ql_rv h r8 1 fun b9 => qw_J4_length_8abf5 b9  h (fun x9 h =>
    if x7 = x9 then (ql_nz .boolean (1 : Int32) ∧ Q (1 : Int32) h) else (ql_rv h (some a0) 10 fun b11 => qw_X8_readSign b11 (59 : Int32) h (fun x11 h =>
    if x11 = 0 then (ql_nz .boolean (0 : Int32) ∧ Q (0 : Int32) h) else (qw_X8_read_20 σ a0 Q n rl1 xl2 (xl3 + (1 : Int32)) h)))))))))
def qw_X8_read (σ : Nat → Nat) (a0 : Nat) (h : ql_H) (Q : Int32 → ql_H → Prop) : Prop :=
ql_pV h (some a0) 10 3 (.int (0 : Int32)) fun h =>
ql_pV h (some a0) 10 2 (.int (0 : Int32)) fun h =>
ql_gR h (some a0) 10 1 fun r13 =>
ql_len h r13 7 fun x14 =>
qw_X8_read_20 σ a0 Q ql_FU r13 x14 (0 : Int32) h
set_option maxHeartbeats 4000000 in
set_option maxRecDepth 100000 in
theorem qm_X8_read (l : Launch) (hl9 : l.stackTraces = false) (D : ql_D) (h0 : ql_H) (a0 : Nat) (Q : Int32 → ql_H → Prop) (X : String → ql_H → Prop) (w : qw_X8_read D.2 a0 h0 Q) : ql_M D l yX8_read cX8_read 5 (some .boolean) ({ frames := 18, cells := 0, slots := 0, locals := 290 } : Room) h0 [.ref a0] (ql_rI Q) X 0 0 := by
  refine ql_ofW (by decide) (Nat.le_of_ble_eq_true rfl) ?_
  intro p e s m below meth c ls C hr hlocks hnm htab S hl
  have hl : lv_has ls 5 [(0, .ref a0)] := hl
  have hB20 : ∀ n : Nat, ∀ (rl1 : Option Nat) (xl2 : Int32) (xl3 : Int32) (h : ql_H) (H : Heap) (locs : List Loc) (ls : Array Slot), ql_S D h0 s H locs h → lv_has ls 5 [(0, .ref a0), (1, va_rf rl1), (2, .int xl2), (3, .int xl3)] → qw_X8_read_20 D.2 a0 Q n rl1 xl2 xl3 h → W p l e ({ frames := 18, cells := 0, slots := 0, locals := 290 } : Room) s m ([.ref a0] : List Value).toArray below meth c H locs 0 0 (vx_MQ below (ql_Q D h0 (ql_rI Q)) (ql_X D h0 X) ([.ref a0] : List Value).toArray s 0 0 (ql_A h0)) (F0 m 20 ls []) := by
    intro n
    induction n with
    | zero => intro rl1 xl2 xl3 h H locs ls S hl w; rw [qw_X8_read_20] at w; exact w.elim
    | succ n ih =>
      intro rl1 xl2 xl3 h H locs ls S hl w
      rw [qw_X8_read_20] at w
      refine lv_iload_n C.1.1 C.1.2.1 dX8_read_20 rfl (lv_at hl 3 rfl) ?_
      refine lv_iload_n C.1.1 C.1.2.1 dX8_read_21 rfl (lv_at hl 2 rfl) ?_
      refine lv_icmp_ge (tgt := 93) C.1.1 C.1.2.1 dX8_read_22 (by decide) (fun c9 => ?_) (fun c9 => ?_)
      · replace w := ql_if w c9
        refine lv_iconst (v := (0 : Int32)) C.1.1 C.1.2.1 dX8_read_93 (by decide) ?_
        exact ql_zret C S hr hlocks dX8_read_94 ⟨Nat.le_of_ble_eq_true rfl, Nat.le_of_ble_eq_true rfl⟩ w
      · replace w := ql_ifn w c9
        refine ql_aload_n (r := rl1) C dX8_read_25 rfl (lv_at hl 1 rfl) ?_
        refine lv_iload_n C.1.1 C.1.2.1 dX8_read_26 rfl (lv_at hl 3 rfl) ?_
        refine ql_aald (kd := 7) C S rfl rfl dX8_read_27 w (fun r1 w => ?_)
        refine ql_astore (lv' := [(4, va_rf r1), (0, .ref a0), (1, va_rf rl1), (2, .int xl2), (3, .int xl3)]) C dX8_read_28 hl (by decide) rfl (fun ls hl => ?_)
        refine ql_aload_n (r := (some a0)) C dX8_read_30 rfl (lv_at hl 1 rfl) ?_
        refine ql_aload (r := r1) C dX8_read_31 (lv_at hl 0 rfl) ?_
        refine ql_VI (As := [va_rf r1]) (rest := []) C S htab hlocks hl qy_X8_readKeyword qi_X8_readKeyword qs_X8_readKeyword gw_1535 (ci := 10) rfl w (fun b w => qm_X8_readKeyword l hl9 D _ b r1 _ _ w) rfl ⟨Nat.le_of_ble_eq_true rfl, Nat.le_of_ble_eq_true rfl⟩ ⟨rfl, rfl⟩ (by exact Nat.le_of_ble_eq_true rfl) (fun b e9 => by cases e9; rfl) dX8_read_33 ⟨Nat.le_of_ble_eq_true rfl, Nat.le_of_ble_eq_true rfl⟩ ⟨Nat.le_of_ble_eq_true rfl, Nat.le_of_ble_eq_true rfl⟩ (fun x2 h H locs S w => ?_)
        refine W.cs (cells' := 0) (slots' := 0) rfl rfl ?_
        refine lv_if_eq (tgt := 48) C.1.1 C.1.2.1 dX8_read_36 (by decide) (fun c9 => ?_) (fun c9 => ?_)
        · replace w := ql_if w c9
          refine lv_iconst (v := (0 : Int32)) C.1.1 C.1.2.1 dX8_read_48 (by decide) ?_
          exact ql_zret C S hr hlocks dX8_read_49 ⟨Nat.le_of_ble_eq_true rfl, Nat.le_of_ble_eq_true rfl⟩ w
        · replace w := ql_ifn w c9
          refine ql_aload_n (r := (some a0)) C dX8_read_39 rfl (lv_at hl 1 rfl) ?_
          refine ql_aload (r := r1) C dX8_read_40 (lv_at hl 0 rfl) ?_
          refine ql_VI (As := [va_rf r1]) (rest := []) C S htab hlocks hl qy_X8_readForm qi_X8_readForm qs_X8_readForm gw_1567 (ci := 10) rfl w (fun b w => qm_X8_readForm l hl9 D _ b r1 _ _ w) rfl ⟨Nat.le_of_ble_eq_true rfl, Nat.le_of_ble_eq_true rfl⟩ ⟨rfl, rfl⟩ (by exact Nat.le_of_ble_eq_true rfl) (fun b e9 => by cases e9; rfl) dX8_read_42 ⟨Nat.le_of_ble_eq_true rfl, Nat.le_of_ble_eq_true rfl⟩ ⟨Nat.le_of_ble_eq_true rfl, Nat.le_of_ble_eq_true rfl⟩ (fun x4 h H locs S w => ?_)
          refine W.cs (cells' := 0) (slots' := 0) rfl rfl ?_
          refine lv_if_ne (tgt := 50) C.1.1 C.1.2.1 dX8_read_45 (by decide) (fun c9 => ?_) (fun c9 => ?_)
          · replace w := ql_ifn w c9
            refine ql_aload_n (r := (some a0)) C dX8_read_50 rfl (lv_at hl 1 rfl) ?_
            refine lv_dup C.1.1 C.1.2.1 dX8_read_51 (ql_catR _) ?_
            refine ql_getI C S qf_10_2 gw_292 dX8_read_52 w (fun x6 w => ?_)
            refine lv_iconst (v := (1 : Int32)) C.1.1 C.1.2.1 dX8_read_55 (by decide) ?_
            refine lv_iadd C.1.1 C.1.2.1 dX8_read_56 ?_
            refine ql_putV C S qf_10_2 gw_292 (tyX8) tyX8_ok nmX8 rfl dX8_read_57 (v := .int (x6 + (1 : Int32))) rfl rfl w (fun h H locs S w => ?_)
            refine ql_aload_n (r := (some a0)) C dX8_read_60 rfl (lv_at hl 1 rfl) ?_
            refine ql_getI C S qf_10_3 gw_294 dX8_read_61 w (fun x7 w => ?_)
            refine ql_aload_n (r := (some a0)) C dX8_read_64 rfl (lv_at hl 1 rfl) ?_
            refine ql_getR C S qf_10_0 gw_290 dX8_read_65 w (fun r8 w => ?_)
            refine ql_VI (As := []) (rest := [.int x7]) C S htab hlocks hl qy_J4_length_8abf5 qi_J4_length_8abf5 qs_J4_length_8abf5 gw_1518 (ci := 1) rfl w (fun b w => qm_J4_length_8abf5 l hl9 D _ b _ _ w) rfl ⟨Nat.le_of_ble_eq_true rfl, Nat.le_of_ble_eq_true rfl⟩ ⟨rfl, rfl⟩ (by exact Nat.le_of_ble_eq_true rfl) (fun b e9 => by cases e9; rfl) dX8_read_68 ⟨Nat.le_of_ble_eq_true rfl, Nat.le_of_ble_eq_true rfl⟩ ⟨Nat.le_of_ble_eq_true rfl, Nat.le_of_ble_eq_true rfl⟩ (fun x9 h H locs S w => ?_)
            refine W.cs (cells' := 0) (slots' := 0) rfl rfl ?_
            refine lv_icmp_ne (tgt := 76) C.1.1 C.1.2.1 dX8_read_71 (by decide) (fun c9 => ?_) (fun c9 => ?_)
            · replace w := ql_ifn w c9
              refine ql_aload_n (r := (some a0)) C dX8_read_76 rfl (lv_at hl 1 rfl) ?_
              refine lv_bipush (v := (59 : Int32)) C.1.1 C.1.2.1 dX8_read_77 (by decide) ?_
              refine ql_VI (As := [.int (59 : Int32)]) (rest := []) C S htab hlocks hl qy_X8_readSign qi_X8_readSign qs_X8_readSign gw_1587 (ci := 10) rfl w (fun b w => qm_X8_readSign l hl9 D _ b (59 : Int32) _ _ w) rfl ⟨Nat.le_of_ble_eq_true rfl, Nat.le_of_ble_eq_true rfl⟩ ⟨rfl, rfl⟩ (by exact Nat.le_of_ble_eq_true rfl) (fun b e9 => by cases e9; rfl) dX8_read_79 ⟨Nat.le_of_ble_eq_true rfl, Nat.le_of_ble_eq_true rfl⟩ ⟨Nat.le_of_ble_eq_true rfl, Nat.le_of_ble_eq_true rfl⟩ (fun x11 h H locs S w => ?_)
              refine W.cs (cells' := 0) (slots' := 0) rfl rfl ?_
              refine lv_if_ne (tgt := 87) C.1.1 C.1.2.1 dX8_read_82 (by decide) (fun c9 => ?_) (fun c9 => ?_)
              · replace w := ql_ifn w c9
                refine lv_iinc (v := (xl3 + (1 : Int32))) (lv' := [(3, .int (xl3 + (1 : Int32))), (4, va_rf r1), (0, .ref a0), (1, va_rf rl1), (2, .int xl2)]) C.1.1 C.1.2.1 dX8_read_87 hl (k := 4) rfl rfl (by decide) rfl (fun ls hl => ?_)
                refine lv_goto (tgt := 20) C.1.1 C.1.2.1 dX8_read_90 (by decide) ?_
                exact ih rl1 xl2 (xl3 + (1 : Int32)) _ _ _ _ S (lv_sub hl [2, 3, 4, 0] rfl) w
              · replace w := ql_if w c9
                refine lv_iconst (v := (0 : Int32)) C.1.1 C.1.2.1 dX8_read_85 (by decide) ?_
                exact ql_zret C S hr hlocks dX8_read_86 ⟨Nat.le_of_ble_eq_true rfl, Nat.le_of_ble_eq_true rfl⟩ w
            · replace w := ql_if w c9
              refine lv_iconst (v := (1 : Int32)) C.1.1 C.1.2.1 dX8_read_74 (by decide) ?_
              exact ql_zret C S hr hlocks dX8_read_75 ⟨Nat.le_of_ble_eq_true rfl, Nat.le_of_ble_eq_true rfl⟩ w
          · replace w := ql_if w c9
            refine lv_iconst (v := (0 : Int32)) C.1.1 C.1.2.1 dX8_read_48 (by decide) ?_
            exact ql_zret C S hr hlocks dX8_read_49 ⟨Nat.le_of_ble_eq_true rfl, Nat.le_of_ble_eq_true rfl⟩ w
  unfold qw_X8_read at w
  refine ql_aload_n (r := (some a0)) C dX8_read_0 rfl (lv_at hl 0 rfl) ?_
  refine lv_iconst (v := (0 : Int32)) C.1.1 C.1.2.1 dX8_read_1 (by decide) ?_
  refine ql_putV C S qf_10_3 gw_294 (tyX8) tyX8_ok nmX8 rfl dX8_read_2 (v := .int (0 : Int32)) rfl rfl w (fun h H locs S w => ?_)
  refine ql_aload_n (r := (some a0)) C dX8_read_5 rfl (lv_at hl 0 rfl) ?_
  refine lv_iconst (v := (0 : Int32)) C.1.1 C.1.2.1 dX8_read_6 (by decide) ?_
  refine ql_putV C S qf_10_2 gw_292 (tyX8) tyX8_ok nmX8 rfl dX8_read_7 (v := .int (0 : Int32)) rfl rfl w (fun h H locs S w => ?_)
  refine ql_aload_n (r := (some a0)) C dX8_read_10 rfl (lv_at hl 0 rfl) ?_
  refine ql_getR C S qf_10_1 gw_291 dX8_read_11 w (fun r13 w => ?_)
  refine ql_astore_n (lv' := [(1, va_rf r13), (0, .ref a0)]) C dX8_read_14 rfl hl (by decide) rfl (fun ls hl => ?_)
  refine ql_aload_n (r := r13) C dX8_read_15 rfl (lv_at hl 0 rfl) ?_
  refine ql_alen (kd := 7) C S rfl dX8_read_16 w (fun x14 w => ?_)
  refine lv_istore_n (lv' := [(2, .int x14), (1, va_rf r13), (0, .ref a0)]) C.1.1 C.1.2.1 dX8_read_17 rfl hl (by decide) (by generalize r13 = z9; cases z9 <;> rfl) (fun ls hl => ?_)
  refine lv_iconst (v := (0 : Int32)) C.1.1 C.1.2.1 dX8_read_18 (by decide) ?_
  refine lv_istore_n (lv' := [(3, .int (0 : Int32)), (2, .int x14), (1, va_rf r13), (0, .ref a0)]) C.1.1 C.1.2.1 dX8_read_19 rfl hl (by decide) rfl (fun ls hl => ?_)
  exact hB20 ql_FU r13 x14 (0 : Int32) _ _ _ _ S (lv_sub hl [3, 2, 1, 0] rfl) w
def qw_X10_init (a0 : Nat) (h : ql_H) (Q : ql_H → Prop) : Prop :=
ql_nw h (.inl (1, 32, .inr (.inl (fun _ => 0)))) fun r1 h =>
ql_pV h (some a0) 11 0 (va_rf r1) fun h =>
ql_nw h (.inl (0, 32, .inl (fun _ => 0))) fun r2 h =>
ql_pV h (some a0) 11 1 (va_rf r2) fun h =>
Q h
set_option maxHeartbeats 4000000 in
set_option maxRecDepth 100000 in
theorem qm_X10_init (l : Launch) (hl9 : l.stackTraces = false) (D : ql_D) (h0 : ql_H) (a0 : Nat) (Q : ql_H → Prop) (X : String → ql_H → Prop) (w : qw_X10_init a0 h0 Q) : ql_M D l yX10_init cX10_init 1 none ({ frames := 3, cells := 2, slots := 64, locals := 48 } : Room) h0 [.ref a0] (ql_rV Q) X 2 64 := by
  refine ql_ofW (by decide) (Nat.le_of_ble_eq_true rfl) ?_
  intro p e s m below meth c ls C hr hlocks hnm htab S hl
  have hl : lv_has ls 1 [(0, .ref a0)] := hl
  unfold qw_X10_init at w
  refine ql_aload_n (r := (some a0)) C dX10_init_0 rfl (lv_at hl 0 rfl) ?_
  refine ql_objInit C hl gw_324 gw_114 gw_115 dX10_init_1 (Nat.le_of_ble_eq_true rfl) (by exact Nat.le_of_ble_eq_true rfl) ?_
  refine ql_aload_n (r := (some a0)) C dX10_init_4 rfl (lv_at hl 0 rfl) ?_
  refine lv_bipush (v := (32 : Int32)) C.1.1 C.1.2.1 dX10_init_5 (by decide) ?_
  refine ql_newa (kd := 1) (a0 := (32, .inr (.inl (fun _ => 0)))) (atype := .long) C S gw_165 rfl (fun z => z) (fun cA => rfl) (by decide) (by decide) (by decide) ⟨Nat.le_of_ble_eq_true rfl, Nat.le_of_ble_eq_true rfl⟩ dX10_init_7 w (fun r1 h H S w => ?_)
  refine W.cs (cells' := 1) (slots' := 32) rfl rfl ?_
  refine ql_putVF C S qf_11_0 gw_325 (tyX10) tyX10_ok nmX10 rfl hnm rfl dX10_init_9 (v := va_rf r1) (by cases r1 <;> rfl) (by cases r1 <;> rfl) w (fun h H locs S w => ?_)
  refine ql_aload_n (r := (some a0)) C dX10_init_12 rfl (lv_at hl 0 rfl) ?_
  refine lv_bipush (v := (32 : Int32)) C.1.1 C.1.2.1 dX10_init_13 (by decide) ?_
  refine ql_newa (kd := 0) (a0 := (32, .inl (fun _ => 0))) (atype := .int) C S gw_164 rfl (fun z => z) (fun cA => rfl) (by decide) (by decide) (by decide) ⟨Nat.le_of_ble_eq_true rfl, Nat.le_of_ble_eq_true rfl⟩ dX10_init_15 w (fun r2 h H S w => ?_)
  refine W.cs (cells' := 2) (slots' := 64) rfl rfl ?_
  refine ql_putVF C S qf_11_1 gw_326 (tyX10) tyX10_ok nmX10 rfl hnm rfl dX10_init_17 (v := va_rf r2) (by cases r2 <;> rfl) (by cases r2 <;> rfl) w (fun h H locs S w => ?_)
  exact ql_vret C S hr hlocks dX10_init_20 ⟨Nat.le_of_ble_eq_true rfl, Nat.le_of_ble_eq_true rfl⟩ w
def qw_X10_clear_2 (a0 : Nat) (Q : ql_H → Prop) : Nat → Int32 → ql_H → Prop
  | 0, _, _ => False
  | n + 1, xl1, h =>
    if (32 : Int32) ≤ xl1 then (Q h) else (ql_gR h (some a0) 11 1 fun r1 =>
    ql_sI h r1 0 xl1 (0 : Int32) fun h =>
    qw_X10_clear_2 a0 Q n (xl1 + (1 : Int32)) h)
def qw_X10_clear (a0 : Nat) (h : ql_H) (Q : ql_H → Prop) : Prop :=
qw_X10_clear_2 a0 Q ql_FU (0 : Int32) h
set_option maxHeartbeats 4000000 in
set_option maxRecDepth 100000 in
theorem qm_X10_clear (l : Launch) (hl9 : l.stackTraces = false) (D : ql_D) (h0 : ql_H) (a0 : Nat) (Q : ql_H → Prop) (X : String → ql_H → Prop) (w : qw_X10_clear a0 h0 Q) : ql_M D l yX10_clear cX10_clear 2 none ({ frames := 2, cells := 0, slots := 0, locals := 48 } : Room) h0 [.ref a0] (ql_rV Q) X 0 0 := by
  refine ql_ofW (by decide) (Nat.le_of_ble_eq_true rfl) ?_
  intro p e s m below meth c ls C hr hlocks hnm htab S hl
  have hl : lv_has ls 2 [(0, .ref a0)] := hl
  have hB2 : ∀ n : Nat, ∀ (xl1 : Int32) (h : ql_H) (H : Heap) (locs : List Loc) (ls : Array Slot), ql_S D h0 s H locs h → lv_has ls 2 [(0, .ref a0), (1, .int xl1)] → qw_X10_clear_2 a0 Q n xl1 h → W p l e ({ frames := 2, cells := 0, slots := 0, locals := 48 } : Room) s m ([.ref a0] : List Value).toArray below meth c H locs 0 0 (vx_MQ below (ql_Q D h0 (ql_rV Q)) (ql_X D h0 X) ([.ref a0] : List Value).toArray s 0 0 (ql_A h0)) (F0 m 2 ls []) := by
    intro n
    induction n with
    | zero => intro xl1 h H locs ls S hl w; rw [qw_X10_clear_2] at w; exact w.elim
    | succ n ih =>
      intro xl1 h H locs ls S hl w
      rw [qw_X10_clear_2] at w
      refine lv_iload_n C.1.1 C.1.2.1 dX10_clear_2 rfl (lv_at hl 1 rfl) ?_
      refine lv_bipush (v := (32 : Int32)) C.1.1 C.1.2.1 dX10_clear_3 (by decide) ?_
      refine lv_icmp_ge (tgt := 21) C.1.1 C.1.2.1 dX10_clear_5 (by decide) (fun c9 => ?_) (fun c9 => ?_)
      · replace w := ql_if w c9
        exact ql_vret C S hr hlocks dX10_clear_21 ⟨Nat.le_of_ble_eq_true rfl, Nat.le_of_ble_eq_true rfl⟩ w
      · replace w := ql_ifn w c9
        refine ql_aload_n (r := (some a0)) C dX10_clear_8 rfl (lv_at hl 0 rfl) ?_
        refine ql_getR C S qf_11_1 gw_326 dX10_clear_9 w (fun r1 w => ?_)
        refine lv_iload_n C.1.1 C.1.2.1 dX10_clear_12 rfl (lv_at hl 1 rfl) ?_
        refine lv_iconst (v := (0 : Int32)) C.1.1 C.1.2.1 dX10_clear_13 (by decide) ?_
        refine ql_iast C S dX10_clear_14 w (fun h H locs S w => ?_)
        refine lv_iinc (v := (xl1 + (1 : Int32))) (lv' := [(1, .int (xl1 + (1 : Int32))), (0, .ref a0)]) C.1.1 C.1.2.1 dX10_clear_15 hl (k := 1) rfl rfl (by decide) rfl (fun ls hl => ?_)
        refine lv_goto (tgt := 2) C.1.1 C.1.2.1 dX10_clear_18 (by decide) ?_
        exact ih (xl1 + (1 : Int32)) _ _ _ _ S (lv_sub hl [1, 0] rfl) w
  unfold qw_X10_clear at w
  refine lv_iconst (v := (0 : Int32)) C.1.1 C.1.2.1 dX10_clear_0 (by decide) ?_
  refine lv_istore_n (lv' := [(1, .int (0 : Int32)), (0, .ref a0)]) C.1.1 C.1.2.1 dX10_clear_1 rfl hl (by decide) rfl (fun ls hl => ?_)
  exact hB2 ql_FU (0 : Int32) _ _ _ _ S (lv_sub hl [1, 0] rfl) w
def qw_X10_countBeforeAdding_47 (a0 : Nat) (Q : Int32 → ql_H → Prop) (k13 : Int64 → Int32 → Int32 → ql_H → Prop) (jl1 : Int64) (xl3 : Int32) (xl4 : Int32) (xl5 : Int32) (h : ql_H) : Prop :=
ql_gR h (some a0) 11 0 fun r1 =>
ql_lJ h r1 xl5 fun j2 =>
if (lg_cmp j2 jl1) = 0 then (ql_gR h (some a0) 11 1 fun r3 =>
ql_lI h r3 0 xl5 fun x4 =>
ql_sI h r3 0 xl5 (x4 + (1 : Int32)) fun h =>
ql_gR h (some a0) 11 1 fun r5 =>
ql_lI h r5 0 xl5 fun x6 =>
Q (x6 - (1 : Int32)) h) else (k13 jl1 xl3 (xl4 + (1 : Int32)) h)
def qw_X10_countBeforeAdding_13 (a0 : Nat) (Q : Int32 → ql_H → Prop) : Nat → Int64 → Int32 → Int32 → ql_H → Prop
  | 0, _, _, _, _ => False
  | n + 1, jl1, xl3, xl4, h =>
    if (32 : Int32) ≤ xl4 then (Q (0 : Int32) h) else (ql_gR h (some a0) 11 1 fun r7 =>
    ql_lI h r7 0 ((xl3 + xl4) &&& (31 : Int32)) fun x8 =>
    if x8 = 0 then (ql_gR h (some a0) 11 0 fun r9 =>
    ql_sJ h r9 ((xl3 + xl4) &&& (31 : Int32)) jl1 fun h =>
    qw_X10_countBeforeAdding_47 a0 Q (qw_X10_countBeforeAdding_13 a0 Q n) jl1 xl3 xl4 ((xl3 + xl4) &&& (31 : Int32)) h) else (qw_X10_countBeforeAdding_47 a0 Q (qw_X10_countBeforeAdding_13 a0 Q n) jl1 xl3 xl4 ((xl3 + xl4) &&& (31 : Int32)) h))
def qw_X10_countBeforeAdding (a0 : Nat) (jp1 : Int64) (h : ql_H) (Q : Int32 → ql_H → Prop) : Prop :=
qw_X10_countBeforeAdding_13 a0 Q ql_FU jp1 ((jp1 * (-7046029254386353131 : Int64)).toUInt64 >>> ((59 : Int32).toInt64.toUInt64 &&& Int64.toUInt64 63)).toInt64.toInt32 (0 : Int32) h
set_option maxHeartbeats 4000000 in
set_option maxRecDepth 100000 in
theorem qm_X10_countBeforeAdding (l : Launch) (hl9 : l.stackTraces = false) (D : ql_D) (h0 : ql_H) (a0 : Nat) (jp1 : Int64) (Q : Int32 → ql_H → Prop) (X : String → ql_H → Prop) (w : qw_X10_countBeforeAdding a0 jp1 h0 Q) : ql_M D l yX10_countBeforeAdding cX10_countBeforeAdding 6 (some .int) ({ frames := 2, cells := 0, slots := 0, locals := 48 } : Room) h0 [.ref a0, .long jp1] (ql_rI Q) X 0 0 := by
  refine ql_ofW (by decide) (Nat.le_of_ble_eq_true rfl) ?_
  intro p e s m below meth c ls C hr hlocks hnm htab S hl
  have hl : lv_has ls 6 [(0, .ref a0), (1, .long jp1)] := hl
  have hB47 : ∀ (k13 : Int64 → Int32 → Int32 → ql_H → Prop) (hk13 : ∀ (jl1 : Int64) (xl3 : Int32) (xl4 : Int32) (h : ql_H) (H : Heap) (locs : List Loc) (ls : Array Slot), ql_S D h0 s H locs h → lv_has ls 6 [(0, .ref a0), (1, .long jl1), (3, .int xl3), (4, .int xl4)] → k13 jl1 xl3 xl4 h → W p l e ({ frames := 2, cells := 0, slots := 0, locals := 48 } : Room) s m ([.ref a0, .long jp1] : List Value).toArray below meth c H locs 0 0 (vx_MQ below (ql_Q D h0 (ql_rI Q)) (ql_X D h0 X) ([.ref a0, .long jp1] : List Value).toArray s 0 0 (ql_A h0)) (F0 m 13 ls [])) , ∀ (jl1 : Int64) (xl3 : Int32) (xl4 : Int32) (xl5 : Int32) (h : ql_H) (H : Heap) (locs : List Loc) (ls : Array Slot), ql_S D h0 s H locs h → lv_has ls 6 [(0, .ref a0), (1, .long jl1), (3, .int xl3), (4, .int xl4), (5, .int xl5)] → qw_X10_countBeforeAdding_47 a0 Q k13 jl1 xl3 xl4 xl5 h → W p l e ({ frames := 2, cells := 0, slots := 0, locals := 48 } : Room) s m ([.ref a0, .long jp1] : List Value).toArray below meth c H locs 0 0 (vx_MQ below (ql_Q D h0 (ql_rI Q)) (ql_X D h0 X) ([.ref a0, .long jp1] : List Value).toArray s 0 0 (ql_A h0)) (F0 m 47 ls []) := by
    intro k13 hk13 jl1 xl3 xl4 xl5 h H locs ls S hl w
    unfold qw_X10_countBeforeAdding_47 at w
    refine ql_aload_n (r := (some a0)) C dX10_countBeforeAdding_47 rfl (lv_at hl 0 rfl) ?_
    refine ql_getR C S qf_11_0 gw_325 dX10_countBeforeAdding_48 w (fun r1 w => ?_)
    refine lv_iload C.1.1 C.1.2.1 dX10_countBeforeAdding_51 (lv_at hl 4 rfl) ?_
    refine ql_lald C S dX10_countBeforeAdding_53 w (fun j2 w => ?_)
    refine lv_lload_n C.1.1 C.1.2.1 dX10_countBeforeAdding_54 rfl (lv_at hl 1 rfl) ?_
    refine W.lcmp C.1.1 C.1.2.1 dX10_countBeforeAdding_55 ?_
    refine lv_if_ne (tgt := 80) C.1.1 C.1.2.1 dX10_countBeforeAdding_56 (by decide) (fun c9 => ?_) (fun c9 => ?_)
    · replace w := ql_ifn w c9
      refine lv_iinc (v := (xl4 + (1 : Int32))) (lv' := [(4, .int (xl4 + (1 : Int32))), (0, .ref a0), (1, .long jl1), (3, .int xl3), (5, .int xl5)]) C.1.1 C.1.2.1 dX10_countBeforeAdding_80 hl (k := 3) rfl rfl (by decide) rfl (fun ls hl => ?_)
      refine lv_goto (tgt := 13) C.1.1 C.1.2.1 dX10_countBeforeAdding_83 (by decide) ?_
      exact hk13 jl1 xl3 (xl4 + (1 : Int32)) _ _ _ _ S (lv_sub hl [1, 2, 3, 0] rfl) w
    · replace w := ql_if w c9
      refine ql_aload_n (r := (some a0)) C dX10_countBeforeAdding_59 rfl (lv_at hl 0 rfl) ?_
      refine ql_getR C S qf_11_1 gw_326 dX10_countBeforeAdding_60 w (fun r3 w => ?_)
      refine lv_iload C.1.1 C.1.2.1 dX10_countBeforeAdding_63 (lv_at hl 4 rfl) ?_
      refine lv_dup2_11 C.1.1 C.1.2.1 dX10_countBeforeAdding_65 rfl (ql_catR _) ?_
      refine ql_iald C S dX10_countBeforeAdding_66 w (fun x4 w => ?_)
      refine lv_iconst (v := (1 : Int32)) C.1.1 C.1.2.1 dX10_countBeforeAdding_67 (by decide) ?_
      refine lv_iadd C.1.1 C.1.2.1 dX10_countBeforeAdding_68 ?_
      refine ql_iast C S dX10_countBeforeAdding_69 w (fun h H locs S w => ?_)
      refine ql_aload_n (r := (some a0)) C dX10_countBeforeAdding_70 rfl (lv_at hl 0 rfl) ?_
      refine ql_getR C S qf_11_1 gw_326 dX10_countBeforeAdding_71 w (fun r5 w => ?_)
      refine lv_iload C.1.1 C.1.2.1 dX10_countBeforeAdding_74 (lv_at hl 4 rfl) ?_
      refine ql_iald C S dX10_countBeforeAdding_76 w (fun x6 w => ?_)
      refine lv_iconst (v := (1 : Int32)) C.1.1 C.1.2.1 dX10_countBeforeAdding_77 (by decide) ?_
      refine lv_isub C.1.1 C.1.2.1 dX10_countBeforeAdding_78 ?_
      exact ql_iret C S hr hlocks dX10_countBeforeAdding_79 ⟨Nat.le_of_ble_eq_true rfl, Nat.le_of_ble_eq_true rfl⟩ w
  have hB13 : ∀ n : Nat, ∀ (jl1 : Int64) (xl3 : Int32) (xl4 : Int32) (h : ql_H) (H : Heap) (locs : List Loc) (ls : Array Slot), ql_S D h0 s H locs h → lv_has ls 6 [(0, .ref a0), (1, .long jl1), (3, .int xl3), (4, .int xl4)] → qw_X10_countBeforeAdding_13 a0 Q n jl1 xl3 xl4 h → W p l e ({ frames := 2, cells := 0, slots := 0, locals := 48 } : Room) s m ([.ref a0, .long jp1] : List Value).toArray below meth c H locs 0 0 (vx_MQ below (ql_Q D h0 (ql_rI Q)) (ql_X D h0 X) ([.ref a0, .long jp1] : List Value).toArray s 0 0 (ql_A h0)) (F0 m 13 ls []) := by
    intro n
    induction n with
    | zero => intro jl1 xl3 xl4 h H locs ls S hl w; rw [qw_X10_countBeforeAdding_13] at w; exact w.elim
    | succ n ih =>
      intro jl1 xl3 xl4 h H locs ls S hl w
      rw [qw_X10_countBeforeAdding_13] at w
      refine lv_iload C.1.1 C.1.2.1 dX10_countBeforeAdding_13 (lv_at hl 3 rfl) ?_
      refine lv_bipush (v := (32 : Int32)) C.1.1 C.1.2.1 dX10_countBeforeAdding_15 (by decide) ?_
      refine lv_icmp_ge (tgt := 86) C.1.1 C.1.2.1 dX10_countBeforeAdding_17 (by decide) (fun c9 => ?_) (fun c9 => ?_)
      · replace w := ql_if w c9
        refine lv_iconst (v := (0 : Int32)) C.1.1 C.1.2.1 dX10_countBeforeAdding_86 (by decide) ?_
        exact ql_iret C S hr hlocks dX10_countBeforeAdding_87 ⟨Nat.le_of_ble_eq_true rfl, Nat.le_of_ble_eq_true rfl⟩ w
      · replace w := ql_ifn w c9
        refine lv_iload_n C.1.1 C.1.2.1 dX10_countBeforeAdding_20 rfl (lv_at hl 2 rfl) ?_
        refine lv_iload C.1.1 C.1.2.1 dX10_countBeforeAdding_21 (lv_at hl 3 rfl) ?_
        refine lv_iadd C.1.1 C.1.2.1 dX10_countBeforeAdding_23 ?_
        refine lv_bipush (v := (31 : Int32)) C.1.1 C.1.2.1 dX10_countBeforeAdding_24 (by decide) ?_
        refine lv_iand C.1.1 C.1.2.1 dX10_countBeforeAdding_26 ?_
        refine lv_istore (lv' := [(5, .int ((xl3 + xl4) &&& (31 : Int32))), (0, .ref a0), (1, .long jl1), (3, .int xl3), (4, .int xl4)]) C.1.1 C.1.2.1 dX10_countBeforeAdding_27 hl (by decide) rfl (fun ls hl => ?_)
        refine ql_aload_n (r := (some a0)) C dX10_countBeforeAdding_29 rfl (lv_at hl 1 rfl) ?_
        refine ql_getR C S qf_11_1 gw_326 dX10_countBeforeAdding_30 w (fun r7 w => ?_)
        refine lv_iload C.1.1 C.1.2.1 dX10_countBeforeAdding_33 (lv_at hl 0 rfl) ?_
        refine ql_iald C S dX10_countBeforeAdding_35 w (fun x8 w => ?_)
        refine lv_if_ne (tgt := 47) C.1.1 C.1.2.1 dX10_countBeforeAdding_36 (by decide) (fun c9 => ?_) (fun c9 => ?_)
        · replace w := ql_ifn w c9
          exact hB47 (qw_X10_countBeforeAdding_13 a0 Q n) ih jl1 xl3 xl4 ((xl3 + xl4) &&& (31 : Int32)) _ _ _ _ S (lv_sub hl [1, 2, 3, 4, 0] rfl) w
        · replace w := ql_if w c9
          refine ql_aload_n (r := (some a0)) C dX10_countBeforeAdding_39 rfl (lv_at hl 1 rfl) ?_
          refine ql_getR C S qf_11_0 gw_325 dX10_countBeforeAdding_40 w (fun r9 w => ?_)
          refine lv_iload C.1.1 C.1.2.1 dX10_countBeforeAdding_43 (lv_at hl 0 rfl) ?_
          refine lv_lload_n C.1.1 C.1.2.1 dX10_countBeforeAdding_45 rfl (lv_at hl 2 rfl) ?_
          refine ql_last C S dX10_countBeforeAdding_46 w (fun h H locs S w => ?_)
          exact hB47 (qw_X10_countBeforeAdding_13 a0 Q n) ih jl1 xl3 xl4 ((xl3 + xl4) &&& (31 : Int32)) _ _ _ _ S (lv_sub hl [1, 2, 3, 4, 0] rfl) w
  unfold qw_X10_countBeforeAdding at w
  refine lv_lload_n C.1.1 C.1.2.1 dX10_countBeforeAdding_0 rfl (lv_at hl 1 rfl) ?_
  refine lv_ldc2 (v := (-7046029254386353131 : Int64)) C.1.1 C.1.2.1 C.1.2.2.2.1 (C.1.2.2.2.2 _ gw_665) dX10_countBeforeAdding_1 ?_
  refine lv_lmul C.1.1 C.1.2.1 dX10_countBeforeAdding_4 ?_
  refine lv_bipush (v := (59 : Int32)) C.1.1 C.1.2.1 dX10_countBeforeAdding_5 (by decide) ?_
  refine lv_lushr C.1.1 C.1.2.1 dX10_countBeforeAdding_7 rfl ?_
  refine lv_l2i C.1.1 C.1.2.1 dX10_countBeforeAdding_8 rfl ?_
  refine lv_istore_n (lv' := [(3, .int ((jp1 * (-7046029254386353131 : Int64)).toUInt64 >>> ((59 : Int32).toInt64.toUInt64 &&& Int64.toUInt64 63)).toInt64.toInt32), (0, .ref a0), (1, .long jp1)]) C.1.1 C.1.2.1 dX10_countBeforeAdding_9 rfl hl (by decide) rfl (fun ls hl => ?_)
  refine lv_iconst (v := (0 : Int32)) C.1.1 C.1.2.1 dX10_countBeforeAdding_10 (by decide) ?_
  refine lv_istore (lv' := [(4, .int (0 : Int32)), (3, .int ((jp1 * (-7046029254386353131 : Int64)).toUInt64 >>> ((59 : Int32).toInt64.toUInt64 &&& Int64.toUInt64 63)).toInt64.toInt32), (0, .ref a0), (1, .long jp1)]) C.1.1 C.1.2.1 dX10_countBeforeAdding_11 hl (by decide) rfl (fun ls hl => ?_)
  exact hB13 ql_FU jp1 ((jp1 * (-7046029254386353131 : Int64)).toUInt64 >>> ((59 : Int32).toInt64.toUInt64 &&& Int64.toUInt64 63)).toInt64.toInt32 (0 : Int32) _ _ _ _ S (lv_sub hl [2, 3, 1, 0] rfl) w
def qw_X11_init (σ : Nat → Nat) (a0 : Nat) (h : ql_H) (Q : ql_H → Prop) : Prop :=
ql_nw h (.inr (4, [.null, .int 0, .int 0, .int 0, .int 0, .int 0, .int 0, .int 0, .null])) fun r1 h =>
ql_nn r1 fun b1 => qw_X1_init b1  h (fun h =>
ql_pV h (some a0) 12 0 (va_rf r1) fun h =>
ql_nw h (.inr (4, [.null, .int 0, .int 0, .int 0, .int 0, .int 0, .int 0, .int 0, .null])) fun r3 h =>
ql_nn r3 fun b3 => qw_X1_init b3  h (fun h =>
ql_pV h (some a0) 12 1 (va_rf r3) fun h =>
ql_pV h (some a0) 12 2 (.int (0 : Int32)) fun h =>
ql_nw h (.inr (9, [.null, .null, .int 0, .int 0])) fun r5 h =>
ql_nn r5 fun b5 => qw_X6_init b5  h (fun h =>
ql_pV h (some a0) 12 3 (va_rf r5) fun h =>
ql_nw h (.inr (10, [.null, .null, .int 0, .int 0])) fun r7 h =>
ql_nn r7 fun b7 => qw_X8_init σ b7  h (fun h =>
ql_pV h (some a0) 12 4 (va_rf r7) fun h =>
ql_pV h (some a0) 12 5 (.int (-1 : Int32)) fun h =>
ql_pV h (some a0) 12 6 (.int (-1 : Int32)) fun h =>
ql_nw h (.inr (1, [.null, .int 0, .int 0, .int 0])) fun r9 h =>
ql_nn r9 fun b9 => qw_J4_init_da8c8 b9  h (fun h =>
ql_pV h (some a0) 12 7 (va_rf r9) fun h =>
ql_nw h (.inr (8, [.null])) fun r11 h =>
ql_nn r11 fun b11 => qw_X5_init b11  h (fun h =>
ql_pV h (some a0) 12 8 (va_rf r11) fun h =>
ql_nw h (.inr (11, [.null, .null])) fun r13 h =>
ql_nn r13 fun b13 => qw_X10_init b13  h (fun h =>
ql_pV h (some a0) 12 9 (va_rf r13) fun h =>
ql_nw h (.inr (5, [.null, .null, .null])) fun r15 h =>
ql_nn r15 fun b15 => qw_X2_init b15  h (fun h =>
ql_pV h (some a0) 12 10 (va_rf r15) fun h =>
Q h))))))))
set_option maxHeartbeats 4000000 in
set_option maxRecDepth 100000 in
theorem qm_X11_init (l : Launch) (hl9 : l.stackTraces = false) (D : ql_D) (h0 : ql_H) (a0 : Nat) (Q : ql_H → Prop) (X : String → ql_H → Prop) (w : qw_X11_init D.2 a0 h0 Q) : ql_M D l yX11_init cX11_init 1 none ({ frames := 9, cells := 1019, slots := 7380, locals := 134 } : Room) h0 [.ref a0] (ql_rV Q) X 1019 7380 := by
  refine ql_ofW (by decide) (Nat.le_of_ble_eq_true rfl) ?_
  intro p e s m below meth c ls C hr hlocks hnm htab S hl
  have hl : lv_has ls 1 [(0, .ref a0)] := hl
  unfold qw_X11_init at w
  refine ql_aload_n (r := (some a0)) C dX11_init_0 rfl (lv_at hl 0 rfl) ?_
  refine ql_objInit C hl gw_113 gw_114 gw_115 dX11_init_1 (Nat.le_of_ble_eq_true rfl) (by exact Nat.le_of_ble_eq_true rfl) ?_
  refine ql_aload_n (r := (some a0)) C dX11_init_4 rfl (lv_at hl 0 rfl) ?_
  refine ql_new (ci := 4) (fs := [.null, .int 0, .int 0, .int 0, .int 0, .int 0, .int 0, .int 0, .null]) C S rfl qlay_4 tyX1 tyX1_ok gw_116 gw_117 gw_72 (fun j hj => by rcases (show j = 0 ∨ j = 1 ∨ j = 2 ∨ j = 3 ∨ j = 4 ∨ j = 5 ∨ j = 6 ∨ j = 7 ∨ j = 8 by omega) with rfl | rfl | rfl | rfl | rfl | rfl | rfl | rfl | rfl <;> rfl) ⟨Nat.le_of_ble_eq_true rfl, Nat.le_of_ble_eq_true rfl⟩ dX11_init_5 w (fun r1 h H S w => ?_)
  refine W.cs (cells' := 1) (slots' := 9) rfl rfl ?_
  refine lv_dup C.1.1 C.1.2.1 dX11_init_8 (ql_catR _) ?_
  refine ql_I0 (As := []) (rest := [va_rf r1, .ref a0]) C S htab hlocks hl qy_X1_init qi_X1_init rfl gw_118 w (fun b w => qm_X1_init l hl9 D _ b _ _ w) rfl ⟨Nat.le_of_ble_eq_true rfl, Nat.le_of_ble_eq_true rfl⟩ ⟨rfl, rfl⟩ (by generalize r1 = z0; cases z0 <;> exact Nat.le_of_ble_eq_true rfl) (fun b e9 => by cases e9; rfl) dX11_init_9 ⟨Nat.le_of_ble_eq_true rfl, Nat.le_of_ble_eq_true rfl⟩ ⟨Nat.le_of_ble_eq_true rfl, Nat.le_of_ble_eq_true rfl⟩ (fun h H locs S w => ?_)
  refine W.cs (cells' := 75) (slots' := 535) rfl rfl ?_
  refine ql_putVF C S qf_12_0 gw_348 (tyX11) tyX11_ok nmX11 rfl hnm rfl dX11_init_12 (v := va_rf r1) (by cases r1 <;> rfl) (by cases r1 <;> rfl) w (fun h H locs S w => ?_)
  refine ql_aload_n (r := (some a0)) C dX11_init_15 rfl (lv_at hl 0 rfl) ?_
  refine ql_new (ci := 4) (fs := [.null, .int 0, .int 0, .int 0, .int 0, .int 0, .int 0, .int 0, .null]) C S rfl qlay_4 tyX1 tyX1_ok gw_116 gw_117 gw_72 (fun j hj => by rcases (show j = 0 ∨ j = 1 ∨ j = 2 ∨ j = 3 ∨ j = 4 ∨ j = 5 ∨ j = 6 ∨ j = 7 ∨ j = 8 by omega) with rfl | rfl | rfl | rfl | rfl | rfl | rfl | rfl | rfl <;> rfl) ⟨Nat.le_of_ble_eq_true rfl, Nat.le_of_ble_eq_true rfl⟩ dX11_init_16 w (fun r3 h H S w => ?_)
  refine W.cs (cells' := 76) (slots' := 544) rfl rfl ?_
  refine lv_dup C.1.1 C.1.2.1 dX11_init_19 (ql_catR _) ?_
  refine ql_I0 (As := []) (rest := [va_rf r3, .ref a0]) C S htab hlocks hl qy_X1_init qi_X1_init rfl gw_118 w (fun b w => qm_X1_init l hl9 D _ b _ _ w) rfl ⟨Nat.le_of_ble_eq_true rfl, Nat.le_of_ble_eq_true rfl⟩ ⟨rfl, rfl⟩ (by generalize r3 = z0; cases z0 <;> exact Nat.le_of_ble_eq_true rfl) (fun b e9 => by cases e9; rfl) dX11_init_20 ⟨Nat.le_of_ble_eq_true rfl, Nat.le_of_ble_eq_true rfl⟩ ⟨Nat.le_of_ble_eq_true rfl, Nat.le_of_ble_eq_true rfl⟩ (fun h H locs S w => ?_)
  refine W.cs (cells' := 150) (slots' := 1070) rfl rfl ?_
  refine ql_putVF C S qf_12_1 gw_349 (tyX11) tyX11_ok nmX11 rfl hnm rfl dX11_init_23 (v := va_rf r3) (by cases r3 <;> rfl) (by cases r3 <;> rfl) w (fun h H locs S w => ?_)
  refine ql_aload_n (r := (some a0)) C dX11_init_26 rfl (lv_at hl 0 rfl) ?_
  refine lv_iconst (v := (0 : Int32)) C.1.1 C.1.2.1 dX11_init_27 (by decide) ?_
  refine ql_putV C S qf_12_2 gw_350 (tyX11) tyX11_ok nmX11 rfl dX11_init_28 (v := .int (0 : Int32)) rfl rfl w (fun h H locs S w => ?_)
  refine ql_aload_n (r := (some a0)) C dX11_init_31 rfl (lv_at hl 0 rfl) ?_
  refine ql_new (ci := 9) (fs := [.null, .null, .int 0, .int 0]) C S rfl qlay_9 tyX6 tyX6_ok gw_202 gw_203 gw_74 (fun j hj => by rcases (show j = 0 ∨ j = 1 ∨ j = 2 ∨ j = 3 by omega) with rfl | rfl | rfl | rfl <;> rfl) ⟨Nat.le_of_ble_eq_true rfl, Nat.le_of_ble_eq_true rfl⟩ dX11_init_32 w (fun r5 h H S w => ?_)
  refine W.cs (cells' := 151) (slots' := 1074) rfl rfl ?_
  refine lv_dup C.1.1 C.1.2.1 dX11_init_35 (ql_catR _) ?_
  refine ql_I0 (As := []) (rest := [va_rf r5, .ref a0]) C S htab hlocks hl qy_X6_init qi_X6_init rfl gw_204 w (fun b w => qm_X6_init l hl9 D _ b _ _ w) rfl ⟨Nat.le_of_ble_eq_true rfl, Nat.le_of_ble_eq_true rfl⟩ ⟨rfl, rfl⟩ (by generalize r5 = z0; cases z0 <;> exact Nat.le_of_ble_eq_true rfl) (fun b e9 => by cases e9; rfl) dX11_init_36 ⟨Nat.le_of_ble_eq_true rfl, Nat.le_of_ble_eq_true rfl⟩ ⟨Nat.le_of_ble_eq_true rfl, Nat.le_of_ble_eq_true rfl⟩ (fun h H locs S w => ?_)
  refine W.cs (cells' := 977) (slots' := 6967) rfl rfl ?_
  refine ql_putVF C S qf_12_3 gw_351 (tyX11) tyX11_ok nmX11 rfl hnm rfl dX11_init_39 (v := va_rf r5) (by cases r5 <;> rfl) (by cases r5 <;> rfl) w (fun h H locs S w => ?_)
  refine ql_aload_n (r := (some a0)) C dX11_init_42 rfl (lv_at hl 0 rfl) ?_
  refine ql_new (ci := 10) (fs := [.null, .null, .int 0, .int 0]) C S rfl qlay_10 tyX8 tyX8_ok gw_225 gw_226 gw_75 (fun j hj => by rcases (show j = 0 ∨ j = 1 ∨ j = 2 ∨ j = 3 by omega) with rfl | rfl | rfl | rfl <;> rfl) ⟨Nat.le_of_ble_eq_true rfl, Nat.le_of_ble_eq_true rfl⟩ dX11_init_43 w (fun r7 h H S w => ?_)
  refine W.cs (cells' := 978) (slots' := 6971) rfl rfl ?_
  refine lv_dup C.1.1 C.1.2.1 dX11_init_46 (ql_catR _) ?_
  refine ql_I0 (As := []) (rest := [va_rf r7, .ref a0]) C S htab hlocks hl qy_X8_init qi_X8_init rfl gw_227 w (fun b w => qm_X8_init l hl9 D _ b _ _ w) rfl ⟨Nat.le_of_ble_eq_true rfl, Nat.le_of_ble_eq_true rfl⟩ ⟨rfl, rfl⟩ (by generalize r7 = z0; cases z0 <;> exact Nat.le_of_ble_eq_true rfl) (fun b e9 => by cases e9; rfl) dX11_init_47 ⟨Nat.le_of_ble_eq_true rfl, Nat.le_of_ble_eq_true rfl⟩ ⟨Nat.le_of_ble_eq_true rfl, Nat.le_of_ble_eq_true rfl⟩ (fun h H locs S w => ?_)
  refine W.cs (cells' := 995) (slots' := 7059) rfl rfl ?_
  refine ql_putVF C S qf_12_4 gw_352 (tyX11) tyX11_ok nmX11 rfl hnm rfl dX11_init_50 (v := va_rf r7) (by cases r7 <;> rfl) (by cases r7 <;> rfl) w (fun h H locs S w => ?_)
  refine ql_aload_n (r := (some a0)) C dX11_init_53 rfl (lv_at hl 0 rfl) ?_
  refine lv_iconst (v := (-1 : Int32)) C.1.1 C.1.2.1 dX11_init_54 (by decide) ?_
  refine ql_putV C S qf_12_5 gw_353 (tyX11) tyX11_ok nmX11 rfl dX11_init_55 (v := .int (-1 : Int32)) rfl rfl w (fun h H locs S w => ?_)
  refine ql_aload_n (r := (some a0)) C dX11_init_58 rfl (lv_at hl 0 rfl) ?_
  refine lv_iconst (v := (-1 : Int32)) C.1.1 C.1.2.1 dX11_init_59 (by decide) ?_
  refine ql_putV C S qf_12_6 gw_354 (tyX11) tyX11_ok nmX11 rfl dX11_init_60 (v := .int (-1 : Int32)) rfl rfl w (fun h H locs S w => ?_)
  refine ql_aload_n (r := (some a0)) C dX11_init_63 rfl (lv_at hl 0 rfl) ?_
  refine ql_new (ci := 1) (fs := [.null, .int 0, .int 0, .int 0]) C S rfl qlay_1 tyJ4 tyJ4_ok gw_305 gw_232 gw_77 (fun j hj => by rcases (show j = 0 ∨ j = 1 ∨ j = 2 ∨ j = 3 by omega) with rfl | rfl | rfl | rfl <;> rfl) ⟨Nat.le_of_ble_eq_true rfl, Nat.le_of_ble_eq_true rfl⟩ dX11_init_64 w (fun r9 h H S w => ?_)
  refine W.cs (cells' := 996) (slots' := 7063) rfl rfl ?_
  refine lv_dup C.1.1 C.1.2.1 dX11_init_67 (ql_catR _) ?_
  refine ql_I0 (As := []) (rest := [va_rf r9, .ref a0]) C S htab hlocks hl qy_J4_init_da8c8 qi_J4_init_da8c8 rfl gw_306 w (fun b w => qm_J4_init_da8c8 l hl9 D _ b _ _ w) rfl ⟨Nat.le_of_ble_eq_true rfl, Nat.le_of_ble_eq_true rfl⟩ ⟨rfl, rfl⟩ (by generalize r9 = z0; cases z0 <;> exact Nat.le_of_ble_eq_true rfl) (fun b e9 => by cases e9; rfl) dX11_init_68 ⟨Nat.le_of_ble_eq_true rfl, Nat.le_of_ble_eq_true rfl⟩ ⟨Nat.le_of_ble_eq_true rfl, Nat.le_of_ble_eq_true rfl⟩ (fun h H locs S w => ?_)
  refine W.cs (cells' := 997) (slots' := 7079) rfl rfl ?_
  refine ql_putVF C S qf_12_7 gw_355 (tyX11) tyX11_ok nmX11 rfl hnm rfl dX11_init_71 (v := va_rf r9) (by cases r9 <;> rfl) (by cases r9 <;> rfl) w (fun h H locs S w => ?_)
  refine ql_aload_n (r := (some a0)) C dX11_init_74 rfl (lv_at hl 0 rfl) ?_
  refine ql_new (ci := 8) (fs := [.null]) C S rfl qlay_8 tyX5 tyX5_ok gw_307 gw_308 gw_83 (fun j hj => by rcases (show j = 0 by omega) with rfl <;> rfl) ⟨Nat.le_of_ble_eq_true rfl, Nat.le_of_ble_eq_true rfl⟩ dX11_init_75 w (fun r11 h H S w => ?_)
  refine W.cs (cells' := 998) (slots' := 7080) rfl rfl ?_
  refine lv_dup C.1.1 C.1.2.1 dX11_init_78 (ql_catR _) ?_
  refine ql_IN0 (As := []) (rest := [va_rf r11, .ref a0]) C S htab hlocks hl qy_X5_init qi_X5_init rfl (qn_RX11_53) w (fun b w => qm_X5_init l hl9 D _ b _ _ w) rfl ⟨Nat.le_of_ble_eq_true rfl, Nat.le_of_ble_eq_true rfl⟩ ⟨rfl, rfl⟩ (by generalize r11 = z0; cases z0 <;> exact Nat.le_of_ble_eq_true rfl) (fun b e9 => by cases e9; rfl) dX11_init_79 ⟨Nat.le_of_ble_eq_true rfl, Nat.le_of_ble_eq_true rfl⟩ ⟨Nat.le_of_ble_eq_true rfl, Nat.le_of_ble_eq_true rfl⟩ (fun h H locs S w => ?_)
  refine W.cs (cells' := 1012) (slots' := 7262) rfl rfl ?_
  refine ql_putVF C S qf_12_8 gw_356 (tyX11) tyX11_ok nmX11 rfl hnm rfl dX11_init_82 (v := va_rf r11) (by cases r11 <;> rfl) (by cases r11 <;> rfl) w (fun h H locs S w => ?_)
  refine ql_aload_n (r := (some a0)) C dX11_init_85 rfl (lv_at hl 0 rfl) ?_
  refine ql_new (ci := 11) (fs := [.null, .null]) C S rfl qlay_11 tyX10 tyX10_ok gw_319 gw_320 gw_84 (fun j hj => by rcases (show j = 0 ∨ j = 1 by omega) with rfl | rfl <;> rfl) ⟨Nat.le_of_ble_eq_true rfl, Nat.le_of_ble_eq_true rfl⟩ dX11_init_86 w (fun r13 h H S w => ?_)
  refine W.cs (cells' := 1013) (slots' := 7264) rfl rfl ?_
  refine lv_dup C.1.1 C.1.2.1 dX11_init_89 (ql_catR _) ?_
  refine ql_IN0 (As := []) (rest := [va_rf r13, .ref a0]) C S htab hlocks hl qy_X10_init qi_X10_init rfl (qn_RX11_60) w (fun b w => qm_X10_init l hl9 D _ b _ _ w) rfl ⟨Nat.le_of_ble_eq_true rfl, Nat.le_of_ble_eq_true rfl⟩ ⟨rfl, rfl⟩ (by generalize r13 = z0; cases z0 <;> exact Nat.le_of_ble_eq_true rfl) (fun b e9 => by cases e9; rfl) dX11_init_90 ⟨Nat.le_of_ble_eq_true rfl, Nat.le_of_ble_eq_true rfl⟩ ⟨Nat.le_of_ble_eq_true rfl, Nat.le_of_ble_eq_true rfl⟩ (fun h H locs S w => ?_)
  refine W.cs (cells' := 1015) (slots' := 7328) rfl rfl ?_
  refine ql_putVF C S qf_12_9 gw_357 (tyX11) tyX11_ok nmX11 rfl hnm rfl dX11_init_93 (v := va_rf r13) (by cases r13 <;> rfl) (by cases r13 <;> rfl) w (fun h H locs S w => ?_)
  refine ql_aload_n (r := (some a0)) C dX11_init_96 rfl (lv_at hl 0 rfl) ?_
  refine ql_new (ci := 5) (fs := [.null, .null, .null]) C S rfl qlay_5 tyX2 tyX2_ok gw_332 gw_333 gw_85 (fun j hj => by rcases (show j = 0 ∨ j = 1 ∨ j = 2 by omega) with rfl | rfl | rfl <;> rfl) ⟨Nat.le_of_ble_eq_true rfl, Nat.le_of_ble_eq_true rfl⟩ dX11_init_97 w (fun r15 h H S w => ?_)
  refine W.cs (cells' := 1016) (slots' := 7331) rfl rfl ?_
  refine lv_dup C.1.1 C.1.2.1 dX11_init_100 (ql_catR _) ?_
  refine ql_IN0 (As := []) (rest := [va_rf r15, .ref a0]) C S htab hlocks hl qy_X2_init qi_X2_init rfl (qn_RX11_67) w (fun b w => qm_X2_init l hl9 D _ b _ _ w) rfl ⟨Nat.le_of_ble_eq_true rfl, Nat.le_of_ble_eq_true rfl⟩ ⟨rfl, rfl⟩ (by generalize r15 = z0; cases z0 <;> exact Nat.le_of_ble_eq_true rfl) (fun b e9 => by cases e9; rfl) dX11_init_101 ⟨Nat.le_of_ble_eq_true rfl, Nat.le_of_ble_eq_true rfl⟩ ⟨Nat.le_of_ble_eq_true rfl, Nat.le_of_ble_eq_true rfl⟩ (fun h H locs S w => ?_)
  refine W.cs (cells' := 1019) (slots' := 7380) rfl rfl ?_
  refine ql_putVF C S qf_12_10 gw_358 (tyX11) tyX11_ok nmX11 rfl hnm rfl dX11_init_104 (v := va_rf r15) (by cases r15 <;> rfl) (by cases r15 <;> rfl) w (fun h H locs S w => ?_)
  exact ql_vret C S hr hlocks dX11_init_107 ⟨Nat.le_of_ble_eq_true rfl, Nat.le_of_ble_eq_true rfl⟩ w
def qw_X11_refuse (xp0 : Int32) (h : ql_H) (Q : ql_H → Prop) (X : String → ql_H → Prop) : Prop :=
if xp0 = (-5 : Int32) then (∀ n9 : Nat, h.1 ≤ n9 → X "java/lang/UnsupportedOperationException" (n9, h.2)) else if xp0 = (-4 : Int32) then (∀ n9 : Nat, h.1 ≤ n9 → X "java/lang/IllegalStateException" (n9, h.2)) else if xp0 = (-3 : Int32) then (∀ n9 : Nat, h.1 ≤ n9 → X "java/lang/IllegalArgumentException" (n9, h.2)) else if xp0 = (-2 : Int32) then (∀ n9 : Nat, h.1 ≤ n9 → X "java/lang/IndexOutOfBoundsException" (n9, h.2)) else if xp0 = (-1 : Int32) then (∀ n9 : Nat, h.1 ≤ n9 → X "java/util/NoSuchElementException" (n9, h.2)) else (Q h)
set_option maxHeartbeats 4000000 in
set_option maxRecDepth 100000 in
theorem qm_X11_refuse (l : Launch) (hl9 : l.stackTraces = false) (D : ql_D) (h0 : ql_H) (xp0 : Int32) (Q : ql_H → Prop) (X : String → ql_H → Prop) (w : qw_X11_refuse xp0 h0 Q X) : ql_M D l yX11_refuse cX11_refuse 1 none ({ frames := 8, cells := 1, slots := 6, locals := 101 } : Room) h0 [.int xp0] (ql_rV Q) X 1 6 := by
  refine ql_ofW (by decide) (Nat.le_of_ble_eq_true rfl) ?_
  intro p e s m below meth c ls C hr hlocks hnm htab S hl
  have hl : lv_has ls 1 [(0, .int xp0)] := hl
  unfold qw_X11_refuse at w
  refine lv_iload_n C.1.1 C.1.2.1 dX11_refuse_0 rfl (lv_at hl 0 rfl) ?_
  by_cases c9 : xp0 = (-5 : Int32)
  · replace w := ql_if w c9
    refine lv_tableIn (tgt := 68) (off := 67) C.1.1 C.1.2.1 dX11_refuse_1 (by rw [c9]; decide) (by rw [c9]; decide) (by rw [c9]; rfl) (by decide) ?_
    exact ql_throw trivial C S qx_RX11_135 gw_602 gw_96 hl htab hlocks hl9 dX11_refuse_68 dX11_refuse_71 dX11_refuse_72 dX11_refuse_75 ⟨Nat.le_of_ble_eq_true rfl, Nat.le_of_ble_eq_true rfl, Nat.le_of_ble_eq_true rfl⟩ (by exact Nat.le_of_ble_eq_true rfl) ⟨Nat.le_of_ble_eq_true rfl, Nat.le_of_ble_eq_true rfl⟩ w
  replace w := ql_ifn w c9
  have e0 := c9
  clear c9
  by_cases c9 : xp0 = (-4 : Int32)
  · replace w := ql_if w c9
    refine lv_tableIn (tgt := 60) (off := 59) C.1.1 C.1.2.1 dX11_refuse_1 (by rw [c9]; decide) (by rw [c9]; decide) (by rw [c9]; rfl) (by decide) ?_
    exact ql_throw trivial C S qx_RX11_132 gw_587 gw_95 hl htab hlocks hl9 dX11_refuse_60 dX11_refuse_63 dX11_refuse_64 dX11_refuse_67 ⟨Nat.le_of_ble_eq_true rfl, Nat.le_of_ble_eq_true rfl, Nat.le_of_ble_eq_true rfl⟩ (by exact Nat.le_of_ble_eq_true rfl) ⟨Nat.le_of_ble_eq_true rfl, Nat.le_of_ble_eq_true rfl⟩ w
  replace w := ql_ifn w c9
  have e1 := c9
  clear c9
  by_cases c9 : xp0 = (-3 : Int32)
  · replace w := ql_if w c9
    refine lv_tableIn (tgt := 52) (off := 51) C.1.1 C.1.2.1 dX11_refuse_1 (by rw [c9]; decide) (by rw [c9]; decide) (by rw [c9]; rfl) (by decide) ?_
    exact ql_throw trivial C S qx_RX11_129 gw_572 gw_94 hl htab hlocks hl9 dX11_refuse_52 dX11_refuse_55 dX11_refuse_56 dX11_refuse_59 ⟨Nat.le_of_ble_eq_true rfl, Nat.le_of_ble_eq_true rfl, Nat.le_of_ble_eq_true rfl⟩ (by exact Nat.le_of_ble_eq_true rfl) ⟨Nat.le_of_ble_eq_true rfl, Nat.le_of_ble_eq_true rfl⟩ w
  replace w := ql_ifn w c9
  have e2 := c9
  clear c9
  by_cases c9 : xp0 = (-2 : Int32)
  · replace w := ql_if w c9
    refine lv_tableIn (tgt := 44) (off := 43) C.1.1 C.1.2.1 dX11_refuse_1 (by rw [c9]; decide) (by rw [c9]; decide) (by rw [c9]; rfl) (by decide) ?_
    exact ql_throw trivial C S qx_RX11_126 gw_557 gw_93 hl htab hlocks hl9 dX11_refuse_44 dX11_refuse_47 dX11_refuse_48 dX11_refuse_51 ⟨Nat.le_of_ble_eq_true rfl, Nat.le_of_ble_eq_true rfl, Nat.le_of_ble_eq_true rfl⟩ (by exact Nat.le_of_ble_eq_true rfl) ⟨Nat.le_of_ble_eq_true rfl, Nat.le_of_ble_eq_true rfl⟩ w
  replace w := ql_ifn w c9
  have e3 := c9
  clear c9
  by_cases c9 : xp0 = (-1 : Int32)
  · replace w := ql_if w c9
    refine lv_tableIn (tgt := 36) (off := 35) C.1.1 C.1.2.1 dX11_refuse_1 (by rw [c9]; decide) (by rw [c9]; decide) (by rw [c9]; rfl) (by decide) ?_
    exact ql_throw trivial C S qx_RX11_123 gw_488 gw_92 hl htab hlocks hl9 dX11_refuse_36 dX11_refuse_39 dX11_refuse_40 dX11_refuse_43 ⟨Nat.le_of_ble_eq_true rfl, Nat.le_of_ble_eq_true rfl, Nat.le_of_ble_eq_true rfl⟩ (by exact Nat.le_of_ble_eq_true rfl) ⟨Nat.le_of_ble_eq_true rfl, Nat.le_of_ble_eq_true rfl⟩ w
  replace w := ql_ifn w c9
  have e4 := c9
  clear c9
  refine lv_tableOut (tgt := 76) C.1.1 C.1.2.1 dX11_refuse_1 (ql_sw (n := 5) (by decide) (fun k hk => ?_)) (by decide) ?_
  · rcases (show k = 0 ∨ k = 1 ∨ k = 2 ∨ k = 3 ∨ k = 4 by omega) with rfl | rfl | rfl | rfl | rfl
    · exact e0
    · exact e1
    · exact e2
    · exact e3
    · exact e4
  exact ql_vret C S hr hlocks dX11_refuse_76 ⟨Nat.le_of_ble_eq_true rfl, Nat.le_of_ble_eq_true rfl⟩ w
def qw_X11_settle (a0 : Nat) (xp1 : Int32) (h : ql_H) (Q : Int32 → ql_H → Prop) (X : String → ql_H → Prop) : Prop :=
qw_X11_refuse xp1 h (fun h =>
ql_gR h (some a0) 12 3 fun r1 =>
ql_rv h r1 9 fun b1 => qw_X6_keep b1  h (fun h =>
Q xp1 h)) X
set_option maxHeartbeats 4000000 in
set_option maxRecDepth 100000 in
theorem qm_X11_settle (l : Launch) (hl9 : l.stackTraces = false) (D : ql_D) (h0 : ql_H) (a0 : Nat) (xp1 : Int32) (Q : Int32 → ql_H → Prop) (X : String → ql_H → Prop) (w : qw_X11_settle a0 xp1 h0 Q X) : ql_M D l yX11_settle cX11_settle 2 (some .int) ({ frames := 10, cells := 1, slots := 6, locals := 129 } : Room) h0 [.ref a0, .int xp1] (ql_rI Q) X 1 6 := by
  refine ql_ofW (by decide) (Nat.le_of_ble_eq_true rfl) ?_
  intro p e s m below meth c ls C hr hlocks hnm htab S hl
  have hl : lv_has ls 2 [(0, .ref a0), (1, .int xp1)] := hl
  unfold qw_X11_settle at w
  refine lv_iload_n C.1.1 C.1.2.1 dX11_settle_0 rfl (lv_at hl 1 rfl) ?_
  refine ql_SV (As := [.int xp1]) (rest := []) C S htab hlocks hl qy_X11_refuse qi_X11_refuse gw_485 (qm_X11_refuse l hl9 D _ xp1 _ _ w) rfl ⟨Nat.le_of_ble_eq_true rfl, Nat.le_of_ble_eq_true rfl⟩ ⟨rfl, rfl⟩ (by exact Nat.le_of_ble_eq_true rfl) rfl dX11_settle_1 ⟨Nat.le_of_ble_eq_true rfl, Nat.le_of_ble_eq_true rfl⟩ ⟨Nat.le_of_ble_eq_true rfl, Nat.le_of_ble_eq_true rfl⟩ (fun h H locs S w => ?_)
  refine W.cs (cells' := 1) (slots' := 6) rfl rfl ?_
  refine ql_aload_n (r := (some a0)) C dX11_settle_4 rfl (lv_at hl 0 rfl) ?_
  refine ql_getR C S qf_12_3 gw_351 dX11_settle_5 w (fun r1 w => ?_)
  refine ql_VV (As := []) (rest := []) C S htab hlocks hl qy_X6_keep qi_X6_keep qs_X6_keep gw_617 (ci := 9) rfl w (fun b w => qm_X6_keep l hl9 D _ b _ _ w) rfl ⟨Nat.le_of_ble_eq_true rfl, Nat.le_of_ble_eq_true rfl⟩ ⟨rfl, rfl⟩ (by exact Nat.le_of_ble_eq_true rfl) (fun b e9 => by cases e9; rfl) dX11_settle_8 ⟨Nat.le_of_ble_eq_true rfl, Nat.le_of_ble_eq_true rfl⟩ ⟨Nat.le_of_ble_eq_true rfl, Nat.le_of_ble_eq_true rfl⟩ (fun h H locs S w => ?_)
  refine W.cs (cells' := 1) (slots' := 6) rfl rfl ?_
  refine lv_iload_n C.1.1 C.1.2.1 dX11_settle_11 rfl (lv_at hl 1 rfl) ?_
  exact ql_iret C S hr hlocks dX11_settle_12 ⟨Nat.le_of_ble_eq_true rfl, Nat.le_of_ble_eq_true rfl⟩ w
def qw_X11_addClause (a0 : Nat) (xp1 : Int32) (xp2 : Int32) (h : ql_H) (Q : Int32 → ql_H → Prop) (X : String → ql_H → Prop) : Prop :=
ql_gR h (some a0) 12 3 fun r1 =>
ql_gR h (some a0) 12 0 fun r2 =>
ql_rv h r1 9 fun b2 => qw_X6_open b2 r2 h (fun h =>
ql_gR h (some a0) 12 0 fun r4 =>
ql_rv h r4 4 fun b5 => qw_X1_tryAdd b5 xp1 xp2 h (fun x5 h =>
ql_rv h (some a0) 12 fun b7 => qw_X11_settle b7 x5 h (fun x7 h =>
Q x7 h) X))
set_option maxHeartbeats 4000000 in
set_option maxRecDepth 100000 in
theorem qm_X11_addClause (l : Launch) (hl9 : l.stackTraces = false) (D : ql_D) (h0 : ql_H) (a0 : Nat) (xp1 : Int32) (xp2 : Int32) (Q : Int32 → ql_H → Prop) (X : String → ql_H → Prop) (w : qw_X11_addClause a0 xp1 xp2 h0 Q X) : ql_M D l yX11_addClause cX11_addClause 3 (some .int) ({ frames := 12, cells := 1, slots := 6, locals := 158 } : Room) h0 [.ref a0, .int xp1, .int xp2] (ql_rI Q) X 1 6 := by
  refine ql_ofW (by decide) (Nat.le_of_ble_eq_true rfl) ?_
  intro p e s m below meth c ls C hr hlocks hnm htab S hl
  have hl : lv_has ls 3 [(0, .ref a0), (1, .int xp1), (2, .int xp2)] := hl
  unfold qw_X11_addClause at w
  refine ql_aload_n (r := (some a0)) C dX11_addClause_0 rfl (lv_at hl 0 rfl) ?_
  refine ql_getR C S qf_12_3 gw_351 dX11_addClause_1 w (fun r1 w => ?_)
  refine ql_aload_n (r := (some a0)) C dX11_addClause_4 rfl (lv_at hl 0 rfl) ?_
  refine ql_getR C S qf_12_0 gw_348 dX11_addClause_5 w (fun r2 w => ?_)
  refine ql_VV (As := [va_rf r2]) (rest := []) C S htab hlocks hl qy_X6_open qi_X6_open qs_X6_open gw_386 (ci := 9) rfl w (fun b w => qm_X6_open l hl9 D _ b r2 _ _ w) rfl ⟨Nat.le_of_ble_eq_true rfl, Nat.le_of_ble_eq_true rfl⟩ ⟨rfl, rfl⟩ (by exact Nat.le_of_ble_eq_true rfl) (fun b e9 => by cases e9; rfl) dX11_addClause_8 ⟨Nat.le_of_ble_eq_true rfl, Nat.le_of_ble_eq_true rfl⟩ ⟨Nat.le_of_ble_eq_true rfl, Nat.le_of_ble_eq_true rfl⟩ (fun h H locs S w => ?_)
  refine W.cs (cells' := 0) (slots' := 0) rfl rfl ?_
  refine ql_aload_n (r := (some a0)) C dX11_addClause_11 rfl (lv_at hl 0 rfl) ?_
  refine ql_aload_n (r := (some a0)) C dX11_addClause_12 rfl (lv_at hl 0 rfl) ?_
  refine ql_getR C S qf_12_0 gw_348 dX11_addClause_13 w (fun r4 w => ?_)
  refine lv_iload_n C.1.1 C.1.2.1 dX11_addClause_16 rfl (lv_at hl 1 rfl) ?_
  refine lv_iload_n C.1.1 C.1.2.1 dX11_addClause_17 rfl (lv_at hl 2 rfl) ?_
  refine ql_VI (As := [.int xp1, .int xp2]) (rest := [.ref a0]) C S htab hlocks hl qy_X1_tryAdd qi_X1_tryAdd qs_X1_tryAdd gw_779 (ci := 4) rfl w (fun b w => qm_X1_tryAdd l hl9 D _ b xp1 xp2 _ _ w) rfl ⟨Nat.le_of_ble_eq_true rfl, Nat.le_of_ble_eq_true rfl⟩ ⟨rfl, rfl⟩ (by exact Nat.le_of_ble_eq_true rfl) (fun b e9 => by cases e9; rfl) dX11_addClause_18 ⟨Nat.le_of_ble_eq_true rfl, Nat.le_of_ble_eq_true rfl⟩ ⟨Nat.le_of_ble_eq_true rfl, Nat.le_of_ble_eq_true rfl⟩ (fun x5 h H locs S w => ?_)
  refine W.cs (cells' := 0) (slots' := 0) rfl rfl ?_
  refine ql_VI (As := [.int x5]) (rest := []) C S htab hlocks hl qy_X11_settle qi_X11_settle qs_X11_settle gw_481 (ci := 12) rfl w (fun b w => qm_X11_settle l hl9 D _ b x5 _ _ w) rfl ⟨Nat.le_of_ble_eq_true rfl, Nat.le_of_ble_eq_true rfl⟩ ⟨rfl, rfl⟩ (by exact Nat.le_of_ble_eq_true rfl) (fun b e9 => by cases e9; rfl) dX11_addClause_21 ⟨Nat.le_of_ble_eq_true rfl, Nat.le_of_ble_eq_true rfl⟩ ⟨Nat.le_of_ble_eq_true rfl, Nat.le_of_ble_eq_true rfl⟩ (fun x7 h H locs S w => ?_)
  refine W.cs (cells' := 1) (slots' := 6) rfl rfl ?_
  exact ql_iret C S hr hlocks dX11_addClause_24 ⟨Nat.le_of_ble_eq_true rfl, Nat.le_of_ble_eq_true rfl⟩ w
def qw_X11_insertNote (a0 : Nat) (xp1 : Int32) (xp2 : Int32) (xp3 : Int32) (h : ql_H) (Q : Int32 → ql_H → Prop) (X : String → ql_H → Prop) : Prop :=
ql_gR h (some a0) 12 3 fun r1 =>
ql_gR h (some a0) 12 0 fun r2 =>
ql_rv h r1 9 fun b2 => qw_X6_open b2 r2 h (fun h =>
ql_gR h (some a0) 12 0 fun r4 =>
ql_rv h r4 4 fun b5 => qw_X1_tryInsert b5 xp1 xp2 xp3 h (fun x5 h =>
ql_rv h (some a0) 12 fun b7 => qw_X11_settle b7 x5 h (fun x7 h =>
Q x7 h) X))
set_option maxHeartbeats 4000000 in
set_option maxRecDepth 100000 in
theorem qm_X11_insertNote (l : Launch) (hl9 : l.stackTraces = false) (D : ql_D) (h0 : ql_H) (a0 : Nat) (xp1 : Int32) (xp2 : Int32) (xp3 : Int32) (Q : Int32 → ql_H → Prop) (X : String → ql_H → Prop) (w : qw_X11_insertNote a0 xp1 xp2 xp3 h0 Q X) : ql_M D l yX11_insertNote cX11_insertNote 4 (some .int) ({ frames := 12, cells := 1, slots := 6, locals := 175 } : Room) h0 [.ref a0, .int xp1, .int xp2, .int xp3] (ql_rI Q) X 1 6 := by
  refine ql_ofW (by decide) (Nat.le_of_ble_eq_true rfl) ?_
  intro p e s m below meth c ls C hr hlocks hnm htab S hl
  have hl : lv_has ls 4 [(0, .ref a0), (1, .int xp1), (2, .int xp2), (3, .int xp3)] := hl
  unfold qw_X11_insertNote at w
  refine ql_aload_n (r := (some a0)) C dX11_insertNote_0 rfl (lv_at hl 0 rfl) ?_
  refine ql_getR C S qf_12_3 gw_351 dX11_insertNote_1 w (fun r1 w => ?_)
  refine ql_aload_n (r := (some a0)) C dX11_insertNote_4 rfl (lv_at hl 0 rfl) ?_
  refine ql_getR C S qf_12_0 gw_348 dX11_insertNote_5 w (fun r2 w => ?_)
  refine ql_VV (As := [va_rf r2]) (rest := []) C S htab hlocks hl qy_X6_open qi_X6_open qs_X6_open gw_386 (ci := 9) rfl w (fun b w => qm_X6_open l hl9 D _ b r2 _ _ w) rfl ⟨Nat.le_of_ble_eq_true rfl, Nat.le_of_ble_eq_true rfl⟩ ⟨rfl, rfl⟩ (by exact Nat.le_of_ble_eq_true rfl) (fun b e9 => by cases e9; rfl) dX11_insertNote_8 ⟨Nat.le_of_ble_eq_true rfl, Nat.le_of_ble_eq_true rfl⟩ ⟨Nat.le_of_ble_eq_true rfl, Nat.le_of_ble_eq_true rfl⟩ (fun h H locs S w => ?_)
  refine W.cs (cells' := 0) (slots' := 0) rfl rfl ?_
  refine ql_aload_n (r := (some a0)) C dX11_insertNote_11 rfl (lv_at hl 0 rfl) ?_
  refine ql_aload_n (r := (some a0)) C dX11_insertNote_12 rfl (lv_at hl 0 rfl) ?_
  refine ql_getR C S qf_12_0 gw_348 dX11_insertNote_13 w (fun r4 w => ?_)
  refine lv_iload_n C.1.1 C.1.2.1 dX11_insertNote_16 rfl (lv_at hl 1 rfl) ?_
  refine lv_iload_n C.1.1 C.1.2.1 dX11_insertNote_17 rfl (lv_at hl 2 rfl) ?_
  refine lv_iload_n C.1.1 C.1.2.1 dX11_insertNote_18 rfl (lv_at hl 3 rfl) ?_
  refine ql_VI (As := [.int xp1, .int xp2, .int xp3]) (rest := [.ref a0]) C S htab hlocks hl qy_X1_tryInsert qi_X1_tryInsert qs_X1_tryInsert gw_841 (ci := 4) rfl w (fun b w => qm_X1_tryInsert l hl9 D _ b xp1 xp2 xp3 _ _ w) rfl ⟨Nat.le_of_ble_eq_true rfl, Nat.le_of_ble_eq_true rfl⟩ ⟨rfl, rfl⟩ (by exact Nat.le_of_ble_eq_true rfl) (fun b e9 => by cases e9; rfl) dX11_insertNote_19 ⟨Nat.le_of_ble_eq_true rfl, Nat.le_of_ble_eq_true rfl⟩ ⟨Nat.le_of_ble_eq_true rfl, Nat.le_of_ble_eq_true rfl⟩ (fun x5 h H locs S w => ?_)
  refine W.cs (cells' := 0) (slots' := 0) rfl rfl ?_
  refine ql_VI (As := [.int x5]) (rest := []) C S htab hlocks hl qy_X11_settle qi_X11_settle qs_X11_settle gw_481 (ci := 12) rfl w (fun b w => qm_X11_settle l hl9 D _ b x5 _ _ w) rfl ⟨Nat.le_of_ble_eq_true rfl, Nat.le_of_ble_eq_true rfl⟩ ⟨rfl, rfl⟩ (by exact Nat.le_of_ble_eq_true rfl) (fun b e9 => by cases e9; rfl) dX11_insertNote_22 ⟨Nat.le_of_ble_eq_true rfl, Nat.le_of_ble_eq_true rfl⟩ ⟨Nat.le_of_ble_eq_true rfl, Nat.le_of_ble_eq_true rfl⟩ (fun x7 h H locs S w => ?_)
  refine W.cs (cells' := 1) (slots' := 6) rfl rfl ?_
  exact ql_iret C S hr hlocks dX11_insertNote_25 ⟨Nat.le_of_ble_eq_true rfl, Nat.le_of_ble_eq_true rfl⟩ w
def qw_X11_replaceNote (a0 : Nat) (xp1 : Int32) (xp2 : Int32) (xp3 : Int32) (h : ql_H) (Q : Int32 → ql_H → Prop) (X : String → ql_H → Prop) : Prop :=
ql_gR h (some a0) 12 3 fun r1 =>
ql_gR h (some a0) 12 0 fun r2 =>
ql_rv h r1 9 fun b2 => qw_X6_open b2 r2 h (fun h =>
ql_gR h (some a0) 12 0 fun r4 =>
ql_rv h r4 4 fun b5 => qw_X1_tryReplace b5 xp1 xp2 xp3 h (fun x5 h =>
ql_rv h (some a0) 12 fun b7 => qw_X11_settle b7 x5 h (fun x7 h =>
Q x7 h) X))
set_option maxHeartbeats 4000000 in
set_option maxRecDepth 100000 in
theorem qm_X11_replaceNote (l : Launch) (hl9 : l.stackTraces = false) (D : ql_D) (h0 : ql_H) (a0 : Nat) (xp1 : Int32) (xp2 : Int32) (xp3 : Int32) (Q : Int32 → ql_H → Prop) (X : String → ql_H → Prop) (w : qw_X11_replaceNote a0 xp1 xp2 xp3 h0 Q X) : ql_M D l yX11_replaceNote cX11_replaceNote 4 (some .int) ({ frames := 12, cells := 1, slots := 6, locals := 176 } : Room) h0 [.ref a0, .int xp1, .int xp2, .int xp3] (ql_rI Q) X 1 6 := by
  refine ql_ofW (by decide) (Nat.le_of_ble_eq_true rfl) ?_
  intro p e s m below meth c ls C hr hlocks hnm htab S hl
  have hl : lv_has ls 4 [(0, .ref a0), (1, .int xp1), (2, .int xp2), (3, .int xp3)] := hl
  unfold qw_X11_replaceNote at w
  refine ql_aload_n (r := (some a0)) C dX11_replaceNote_0 rfl (lv_at hl 0 rfl) ?_
  refine ql_getR C S qf_12_3 gw_351 dX11_replaceNote_1 w (fun r1 w => ?_)
  refine ql_aload_n (r := (some a0)) C dX11_replaceNote_4 rfl (lv_at hl 0 rfl) ?_
  refine ql_getR C S qf_12_0 gw_348 dX11_replaceNote_5 w (fun r2 w => ?_)
  refine ql_VV (As := [va_rf r2]) (rest := []) C S htab hlocks hl qy_X6_open qi_X6_open qs_X6_open gw_386 (ci := 9) rfl w (fun b w => qm_X6_open l hl9 D _ b r2 _ _ w) rfl ⟨Nat.le_of_ble_eq_true rfl, Nat.le_of_ble_eq_true rfl⟩ ⟨rfl, rfl⟩ (by exact Nat.le_of_ble_eq_true rfl) (fun b e9 => by cases e9; rfl) dX11_replaceNote_8 ⟨Nat.le_of_ble_eq_true rfl, Nat.le_of_ble_eq_true rfl⟩ ⟨Nat.le_of_ble_eq_true rfl, Nat.le_of_ble_eq_true rfl⟩ (fun h H locs S w => ?_)
  refine W.cs (cells' := 0) (slots' := 0) rfl rfl ?_
  refine ql_aload_n (r := (some a0)) C dX11_replaceNote_11 rfl (lv_at hl 0 rfl) ?_
  refine ql_aload_n (r := (some a0)) C dX11_replaceNote_12 rfl (lv_at hl 0 rfl) ?_
  refine ql_getR C S qf_12_0 gw_348 dX11_replaceNote_13 w (fun r4 w => ?_)
  refine lv_iload_n C.1.1 C.1.2.1 dX11_replaceNote_16 rfl (lv_at hl 1 rfl) ?_
  refine lv_iload_n C.1.1 C.1.2.1 dX11_replaceNote_17 rfl (lv_at hl 2 rfl) ?_
  refine lv_iload_n C.1.1 C.1.2.1 dX11_replaceNote_18 rfl (lv_at hl 3 rfl) ?_
  refine ql_VI (As := [.int xp1, .int xp2, .int xp3]) (rest := [.ref a0]) C S htab hlocks hl qy_X1_tryReplace qi_X1_tryReplace qs_X1_tryReplace gw_878 (ci := 4) rfl w (fun b w => qm_X1_tryReplace l hl9 D _ b xp1 xp2 xp3 _ _ w) rfl ⟨Nat.le_of_ble_eq_true rfl, Nat.le_of_ble_eq_true rfl⟩ ⟨rfl, rfl⟩ (by exact Nat.le_of_ble_eq_true rfl) (fun b e9 => by cases e9; rfl) dX11_replaceNote_19 ⟨Nat.le_of_ble_eq_true rfl, Nat.le_of_ble_eq_true rfl⟩ ⟨Nat.le_of_ble_eq_true rfl, Nat.le_of_ble_eq_true rfl⟩ (fun x5 h H locs S w => ?_)
  refine W.cs (cells' := 0) (slots' := 0) rfl rfl ?_
  refine ql_VI (As := [.int x5]) (rest := []) C S htab hlocks hl qy_X11_settle qi_X11_settle qs_X11_settle gw_481 (ci := 12) rfl w (fun b w => qm_X11_settle l hl9 D _ b x5 _ _ w) rfl ⟨Nat.le_of_ble_eq_true rfl, Nat.le_of_ble_eq_true rfl⟩ ⟨rfl, rfl⟩ (by exact Nat.le_of_ble_eq_true rfl) (fun b e9 => by cases e9; rfl) dX11_replaceNote_22 ⟨Nat.le_of_ble_eq_true rfl, Nat.le_of_ble_eq_true rfl⟩ ⟨Nat.le_of_ble_eq_true rfl, Nat.le_of_ble_eq_true rfl⟩ (fun x7 h H locs S w => ?_)
  refine W.cs (cells' := 1) (slots' := 6) rfl rfl ?_
  exact ql_iret C S hr hlocks dX11_replaceNote_25 ⟨Nat.le_of_ble_eq_true rfl, Nat.le_of_ble_eq_true rfl⟩ w
def qw_X11_deleteNote (a0 : Nat) (xp1 : Int32) (xp2 : Int32) (h : ql_H) (Q : Int32 → ql_H → Prop) (X : String → ql_H → Prop) : Prop :=
ql_gR h (some a0) 12 3 fun r1 =>
ql_gR h (some a0) 12 0 fun r2 =>
ql_rv h r1 9 fun b2 => qw_X6_open b2 r2 h (fun h =>
ql_gR h (some a0) 12 0 fun r4 =>
ql_rv h r4 4 fun b5 => qw_X1_tryDelete b5 xp1 xp2 h (fun x5 h =>
ql_rv h (some a0) 12 fun b7 => qw_X11_settle b7 x5 h (fun x7 h =>
Q x7 h) X))
set_option maxHeartbeats 4000000 in
set_option maxRecDepth 100000 in
theorem qm_X11_deleteNote (l : Launch) (hl9 : l.stackTraces = false) (D : ql_D) (h0 : ql_H) (a0 : Nat) (xp1 : Int32) (xp2 : Int32) (Q : Int32 → ql_H → Prop) (X : String → ql_H → Prop) (w : qw_X11_deleteNote a0 xp1 xp2 h0 Q X) : ql_M D l yX11_deleteNote cX11_deleteNote 3 (some .int) ({ frames := 12, cells := 1, slots := 6, locals := 174 } : Room) h0 [.ref a0, .int xp1, .int xp2] (ql_rI Q) X 1 6 := by
  refine ql_ofW (by decide) (Nat.le_of_ble_eq_true rfl) ?_
  intro p e s m below meth c ls C hr hlocks hnm htab S hl
  have hl : lv_has ls 3 [(0, .ref a0), (1, .int xp1), (2, .int xp2)] := hl
  unfold qw_X11_deleteNote at w
  refine ql_aload_n (r := (some a0)) C dX11_deleteNote_0 rfl (lv_at hl 0 rfl) ?_
  refine ql_getR C S qf_12_3 gw_351 dX11_deleteNote_1 w (fun r1 w => ?_)
  refine ql_aload_n (r := (some a0)) C dX11_deleteNote_4 rfl (lv_at hl 0 rfl) ?_
  refine ql_getR C S qf_12_0 gw_348 dX11_deleteNote_5 w (fun r2 w => ?_)
  refine ql_VV (As := [va_rf r2]) (rest := []) C S htab hlocks hl qy_X6_open qi_X6_open qs_X6_open gw_386 (ci := 9) rfl w (fun b w => qm_X6_open l hl9 D _ b r2 _ _ w) rfl ⟨Nat.le_of_ble_eq_true rfl, Nat.le_of_ble_eq_true rfl⟩ ⟨rfl, rfl⟩ (by exact Nat.le_of_ble_eq_true rfl) (fun b e9 => by cases e9; rfl) dX11_deleteNote_8 ⟨Nat.le_of_ble_eq_true rfl, Nat.le_of_ble_eq_true rfl⟩ ⟨Nat.le_of_ble_eq_true rfl, Nat.le_of_ble_eq_true rfl⟩ (fun h H locs S w => ?_)
  refine W.cs (cells' := 0) (slots' := 0) rfl rfl ?_
  refine ql_aload_n (r := (some a0)) C dX11_deleteNote_11 rfl (lv_at hl 0 rfl) ?_
  refine ql_aload_n (r := (some a0)) C dX11_deleteNote_12 rfl (lv_at hl 0 rfl) ?_
  refine ql_getR C S qf_12_0 gw_348 dX11_deleteNote_13 w (fun r4 w => ?_)
  refine lv_iload_n C.1.1 C.1.2.1 dX11_deleteNote_16 rfl (lv_at hl 1 rfl) ?_
  refine lv_iload_n C.1.1 C.1.2.1 dX11_deleteNote_17 rfl (lv_at hl 2 rfl) ?_
  refine ql_VI (As := [.int xp1, .int xp2]) (rest := [.ref a0]) C S htab hlocks hl qy_X1_tryDelete qi_X1_tryDelete qs_X1_tryDelete gw_896 (ci := 4) rfl w (fun b w => qm_X1_tryDelete l hl9 D _ b xp1 xp2 _ _ w) rfl ⟨Nat.le_of_ble_eq_true rfl, Nat.le_of_ble_eq_true rfl⟩ ⟨rfl, rfl⟩ (by exact Nat.le_of_ble_eq_true rfl) (fun b e9 => by cases e9; rfl) dX11_deleteNote_18 ⟨Nat.le_of_ble_eq_true rfl, Nat.le_of_ble_eq_true rfl⟩ ⟨Nat.le_of_ble_eq_true rfl, Nat.le_of_ble_eq_true rfl⟩ (fun x5 h H locs S w => ?_)
  refine W.cs (cells' := 0) (slots' := 0) rfl rfl ?_
  refine ql_VI (As := [.int x5]) (rest := []) C S htab hlocks hl qy_X11_settle qi_X11_settle qs_X11_settle gw_481 (ci := 12) rfl w (fun b w => qm_X11_settle l hl9 D _ b x5 _ _ w) rfl ⟨Nat.le_of_ble_eq_true rfl, Nat.le_of_ble_eq_true rfl⟩ ⟨rfl, rfl⟩ (by exact Nat.le_of_ble_eq_true rfl) (fun b e9 => by cases e9; rfl) dX11_deleteNote_21 ⟨Nat.le_of_ble_eq_true rfl, Nat.le_of_ble_eq_true rfl⟩ ⟨Nat.le_of_ble_eq_true rfl, Nat.le_of_ble_eq_true rfl⟩ (fun x7 h H locs S w => ?_)
  refine W.cs (cells' := 1) (slots' := 6) rfl rfl ?_
  exact ql_iret C S hr hlocks dX11_deleteNote_24 ⟨Nat.le_of_ble_eq_true rfl, Nat.le_of_ble_eq_true rfl⟩ w
def qw_X11_setSunset (a0 : Nat) (xp1 : Int32) (xp2 : Int32) (h : ql_H) (Q : Int32 → ql_H → Prop) (X : String → ql_H → Prop) : Prop :=
ql_gR h (some a0) 12 3 fun r1 =>
ql_gR h (some a0) 12 0 fun r2 =>
ql_rv h r1 9 fun b2 => qw_X6_open b2 r2 h (fun h =>
ql_gR h (some a0) 12 0 fun r4 =>
ql_rv h r4 4 fun b5 => qw_X1_trySunset b5 xp1 xp2 h (fun x5 h =>
ql_rv h (some a0) 12 fun b7 => qw_X11_settle b7 x5 h (fun x7 h =>
Q x7 h) X))
set_option maxHeartbeats 4000000 in
set_option maxRecDepth 100000 in
theorem qm_X11_setSunset (l : Launch) (hl9 : l.stackTraces = false) (D : ql_D) (h0 : ql_H) (a0 : Nat) (xp1 : Int32) (xp2 : Int32) (Q : Int32 → ql_H → Prop) (X : String → ql_H → Prop) (w : qw_X11_setSunset a0 xp1 xp2 h0 Q X) : ql_M D l yX11_setSunset cX11_setSunset 3 (some .int) ({ frames := 12, cells := 1, slots := 6, locals := 158 } : Room) h0 [.ref a0, .int xp1, .int xp2] (ql_rI Q) X 1 6 := by
  refine ql_ofW (by decide) (Nat.le_of_ble_eq_true rfl) ?_
  intro p e s m below meth c ls C hr hlocks hnm htab S hl
  have hl : lv_has ls 3 [(0, .ref a0), (1, .int xp1), (2, .int xp2)] := hl
  unfold qw_X11_setSunset at w
  refine ql_aload_n (r := (some a0)) C dX11_setSunset_0 rfl (lv_at hl 0 rfl) ?_
  refine ql_getR C S qf_12_3 gw_351 dX11_setSunset_1 w (fun r1 w => ?_)
  refine ql_aload_n (r := (some a0)) C dX11_setSunset_4 rfl (lv_at hl 0 rfl) ?_
  refine ql_getR C S qf_12_0 gw_348 dX11_setSunset_5 w (fun r2 w => ?_)
  refine ql_VV (As := [va_rf r2]) (rest := []) C S htab hlocks hl qy_X6_open qi_X6_open qs_X6_open gw_386 (ci := 9) rfl w (fun b w => qm_X6_open l hl9 D _ b r2 _ _ w) rfl ⟨Nat.le_of_ble_eq_true rfl, Nat.le_of_ble_eq_true rfl⟩ ⟨rfl, rfl⟩ (by exact Nat.le_of_ble_eq_true rfl) (fun b e9 => by cases e9; rfl) dX11_setSunset_8 ⟨Nat.le_of_ble_eq_true rfl, Nat.le_of_ble_eq_true rfl⟩ ⟨Nat.le_of_ble_eq_true rfl, Nat.le_of_ble_eq_true rfl⟩ (fun h H locs S w => ?_)
  refine W.cs (cells' := 0) (slots' := 0) rfl rfl ?_
  refine ql_aload_n (r := (some a0)) C dX11_setSunset_11 rfl (lv_at hl 0 rfl) ?_
  refine ql_aload_n (r := (some a0)) C dX11_setSunset_12 rfl (lv_at hl 0 rfl) ?_
  refine ql_getR C S qf_12_0 gw_348 dX11_setSunset_13 w (fun r4 w => ?_)
  refine lv_iload_n C.1.1 C.1.2.1 dX11_setSunset_16 rfl (lv_at hl 1 rfl) ?_
  refine lv_iload_n C.1.1 C.1.2.1 dX11_setSunset_17 rfl (lv_at hl 2 rfl) ?_
  refine ql_VI (As := [.int xp1, .int xp2]) (rest := [.ref a0]) C S htab hlocks hl qy_X1_trySunset qi_X1_trySunset qs_X1_trySunset gw_908 (ci := 4) rfl w (fun b w => qm_X1_trySunset l hl9 D _ b xp1 xp2 _ _ w) rfl ⟨Nat.le_of_ble_eq_true rfl, Nat.le_of_ble_eq_true rfl⟩ ⟨rfl, rfl⟩ (by exact Nat.le_of_ble_eq_true rfl) (fun b e9 => by cases e9; rfl) dX11_setSunset_18 ⟨Nat.le_of_ble_eq_true rfl, Nat.le_of_ble_eq_true rfl⟩ ⟨Nat.le_of_ble_eq_true rfl, Nat.le_of_ble_eq_true rfl⟩ (fun x5 h H locs S w => ?_)
  refine W.cs (cells' := 0) (slots' := 0) rfl rfl ?_
  refine ql_VI (As := [.int x5]) (rest := []) C S htab hlocks hl qy_X11_settle qi_X11_settle qs_X11_settle gw_481 (ci := 12) rfl w (fun b w => qm_X11_settle l hl9 D _ b x5 _ _ w) rfl ⟨Nat.le_of_ble_eq_true rfl, Nat.le_of_ble_eq_true rfl⟩ ⟨rfl, rfl⟩ (by exact Nat.le_of_ble_eq_true rfl) (fun b e9 => by cases e9; rfl) dX11_setSunset_21 ⟨Nat.le_of_ble_eq_true rfl, Nat.le_of_ble_eq_true rfl⟩ ⟨Nat.le_of_ble_eq_true rfl, Nat.le_of_ble_eq_true rfl⟩ (fun x7 h H locs S w => ?_)
  refine W.cs (cells' := 1) (slots' := 6) rfl rfl ?_
  exact ql_iret C S hr hlocks dX11_setSunset_24 ⟨Nat.le_of_ble_eq_true rfl, Nat.le_of_ble_eq_true rfl⟩ w
def qw_X11_cite (a0 : Nat) (xp1 : Int32) (xp2 : Int32) (h : ql_H) (Q : Int32 → ql_H → Prop) (X : String → ql_H → Prop) : Prop :=
ql_gR h (some a0) 12 3 fun r1 =>
ql_gR h (some a0) 12 0 fun r2 =>
ql_rv h r1 9 fun b2 => qw_X6_open b2 r2 h (fun h =>
ql_gR h (some a0) 12 0 fun r4 =>
ql_rv h r4 4 fun b5 => qw_X1_tryCite b5 xp1 xp2 h (fun x5 h =>
ql_rv h (some a0) 12 fun b7 => qw_X11_settle b7 x5 h (fun x7 h =>
Q x7 h) X))
set_option maxHeartbeats 4000000 in
set_option maxRecDepth 100000 in
theorem qm_X11_cite (l : Launch) (hl9 : l.stackTraces = false) (D : ql_D) (h0 : ql_H) (a0 : Nat) (xp1 : Int32) (xp2 : Int32) (Q : Int32 → ql_H → Prop) (X : String → ql_H → Prop) (w : qw_X11_cite a0 xp1 xp2 h0 Q X) : ql_M D l yX11_cite cX11_cite 3 (some .int) ({ frames := 12, cells := 1, slots := 6, locals := 168 } : Room) h0 [.ref a0, .int xp1, .int xp2] (ql_rI Q) X 1 6 := by
  refine ql_ofW (by decide) (Nat.le_of_ble_eq_true rfl) ?_
  intro p e s m below meth c ls C hr hlocks hnm htab S hl
  have hl : lv_has ls 3 [(0, .ref a0), (1, .int xp1), (2, .int xp2)] := hl
  unfold qw_X11_cite at w
  refine ql_aload_n (r := (some a0)) C dX11_cite_0 rfl (lv_at hl 0 rfl) ?_
  refine ql_getR C S qf_12_3 gw_351 dX11_cite_1 w (fun r1 w => ?_)
  refine ql_aload_n (r := (some a0)) C dX11_cite_4 rfl (lv_at hl 0 rfl) ?_
  refine ql_getR C S qf_12_0 gw_348 dX11_cite_5 w (fun r2 w => ?_)
  refine ql_VV (As := [va_rf r2]) (rest := []) C S htab hlocks hl qy_X6_open qi_X6_open qs_X6_open gw_386 (ci := 9) rfl w (fun b w => qm_X6_open l hl9 D _ b r2 _ _ w) rfl ⟨Nat.le_of_ble_eq_true rfl, Nat.le_of_ble_eq_true rfl⟩ ⟨rfl, rfl⟩ (by exact Nat.le_of_ble_eq_true rfl) (fun b e9 => by cases e9; rfl) dX11_cite_8 ⟨Nat.le_of_ble_eq_true rfl, Nat.le_of_ble_eq_true rfl⟩ ⟨Nat.le_of_ble_eq_true rfl, Nat.le_of_ble_eq_true rfl⟩ (fun h H locs S w => ?_)
  refine W.cs (cells' := 0) (slots' := 0) rfl rfl ?_
  refine ql_aload_n (r := (some a0)) C dX11_cite_11 rfl (lv_at hl 0 rfl) ?_
  refine ql_aload_n (r := (some a0)) C dX11_cite_12 rfl (lv_at hl 0 rfl) ?_
  refine ql_getR C S qf_12_0 gw_348 dX11_cite_13 w (fun r4 w => ?_)
  refine lv_iload_n C.1.1 C.1.2.1 dX11_cite_16 rfl (lv_at hl 1 rfl) ?_
  refine lv_iload_n C.1.1 C.1.2.1 dX11_cite_17 rfl (lv_at hl 2 rfl) ?_
  refine ql_VI (As := [.int xp1, .int xp2]) (rest := [.ref a0]) C S htab hlocks hl qy_X1_tryCite qi_X1_tryCite qs_X1_tryCite gw_919 (ci := 4) rfl w (fun b w => qm_X1_tryCite l hl9 D _ b xp1 xp2 _ _ w) rfl ⟨Nat.le_of_ble_eq_true rfl, Nat.le_of_ble_eq_true rfl⟩ ⟨rfl, rfl⟩ (by exact Nat.le_of_ble_eq_true rfl) (fun b e9 => by cases e9; rfl) dX11_cite_18 ⟨Nat.le_of_ble_eq_true rfl, Nat.le_of_ble_eq_true rfl⟩ ⟨Nat.le_of_ble_eq_true rfl, Nat.le_of_ble_eq_true rfl⟩ (fun x5 h H locs S w => ?_)
  refine W.cs (cells' := 0) (slots' := 0) rfl rfl ?_
  refine ql_VI (As := [.int x5]) (rest := []) C S htab hlocks hl qy_X11_settle qi_X11_settle qs_X11_settle gw_481 (ci := 12) rfl w (fun b w => qm_X11_settle l hl9 D _ b x5 _ _ w) rfl ⟨Nat.le_of_ble_eq_true rfl, Nat.le_of_ble_eq_true rfl⟩ ⟨rfl, rfl⟩ (by exact Nat.le_of_ble_eq_true rfl) (fun b e9 => by cases e9; rfl) dX11_cite_21 ⟨Nat.le_of_ble_eq_true rfl, Nat.le_of_ble_eq_true rfl⟩ ⟨Nat.le_of_ble_eq_true rfl, Nat.le_of_ble_eq_true rfl⟩ (fun x7 h H locs S w => ?_)
  refine W.cs (cells' := 1) (slots' := 6) rfl rfl ?_
  exact ql_iret C S hr hlocks dX11_cite_24 ⟨Nat.le_of_ble_eq_true rfl, Nat.le_of_ble_eq_true rfl⟩ w
def qw_X11_uncite (a0 : Nat) (xp1 : Int32) (xp2 : Int32) (h : ql_H) (Q : Int32 → ql_H → Prop) (X : String → ql_H → Prop) : Prop :=
ql_gR h (some a0) 12 3 fun r1 =>
ql_gR h (some a0) 12 0 fun r2 =>
ql_rv h r1 9 fun b2 => qw_X6_open b2 r2 h (fun h =>
ql_gR h (some a0) 12 0 fun r4 =>
ql_rv h r4 4 fun b5 => qw_X1_tryUncite b5 xp1 xp2 h (fun x5 h =>
ql_rv h (some a0) 12 fun b7 => qw_X11_settle b7 x5 h (fun x7 h =>
Q x7 h) X))
set_option maxHeartbeats 4000000 in
set_option maxRecDepth 100000 in
theorem qm_X11_uncite (l : Launch) (hl9 : l.stackTraces = false) (D : ql_D) (h0 : ql_H) (a0 : Nat) (xp1 : Int32) (xp2 : Int32) (Q : Int32 → ql_H → Prop) (X : String → ql_H → Prop) (w : qw_X11_uncite a0 xp1 xp2 h0 Q X) : ql_M D l yX11_uncite cX11_uncite 3 (some .int) ({ frames := 12, cells := 1, slots := 6, locals := 170 } : Room) h0 [.ref a0, .int xp1, .int xp2] (ql_rI Q) X 1 6 := by
  refine ql_ofW (by decide) (Nat.le_of_ble_eq_true rfl) ?_
  intro p e s m below meth c ls C hr hlocks hnm htab S hl
  have hl : lv_has ls 3 [(0, .ref a0), (1, .int xp1), (2, .int xp2)] := hl
  unfold qw_X11_uncite at w
  refine ql_aload_n (r := (some a0)) C dX11_uncite_0 rfl (lv_at hl 0 rfl) ?_
  refine ql_getR C S qf_12_3 gw_351 dX11_uncite_1 w (fun r1 w => ?_)
  refine ql_aload_n (r := (some a0)) C dX11_uncite_4 rfl (lv_at hl 0 rfl) ?_
  refine ql_getR C S qf_12_0 gw_348 dX11_uncite_5 w (fun r2 w => ?_)
  refine ql_VV (As := [va_rf r2]) (rest := []) C S htab hlocks hl qy_X6_open qi_X6_open qs_X6_open gw_386 (ci := 9) rfl w (fun b w => qm_X6_open l hl9 D _ b r2 _ _ w) rfl ⟨Nat.le_of_ble_eq_true rfl, Nat.le_of_ble_eq_true rfl⟩ ⟨rfl, rfl⟩ (by exact Nat.le_of_ble_eq_true rfl) (fun b e9 => by cases e9; rfl) dX11_uncite_8 ⟨Nat.le_of_ble_eq_true rfl, Nat.le_of_ble_eq_true rfl⟩ ⟨Nat.le_of_ble_eq_true rfl, Nat.le_of_ble_eq_true rfl⟩ (fun h H locs S w => ?_)
  refine W.cs (cells' := 0) (slots' := 0) rfl rfl ?_
  refine ql_aload_n (r := (some a0)) C dX11_uncite_11 rfl (lv_at hl 0 rfl) ?_
  refine ql_aload_n (r := (some a0)) C dX11_uncite_12 rfl (lv_at hl 0 rfl) ?_
  refine ql_getR C S qf_12_0 gw_348 dX11_uncite_13 w (fun r4 w => ?_)
  refine lv_iload_n C.1.1 C.1.2.1 dX11_uncite_16 rfl (lv_at hl 1 rfl) ?_
  refine lv_iload_n C.1.1 C.1.2.1 dX11_uncite_17 rfl (lv_at hl 2 rfl) ?_
  refine ql_VI (As := [.int xp1, .int xp2]) (rest := [.ref a0]) C S htab hlocks hl qy_X1_tryUncite qi_X1_tryUncite qs_X1_tryUncite gw_938 (ci := 4) rfl w (fun b w => qm_X1_tryUncite l hl9 D _ b xp1 xp2 _ _ w) rfl ⟨Nat.le_of_ble_eq_true rfl, Nat.le_of_ble_eq_true rfl⟩ ⟨rfl, rfl⟩ (by exact Nat.le_of_ble_eq_true rfl) (fun b e9 => by cases e9; rfl) dX11_uncite_18 ⟨Nat.le_of_ble_eq_true rfl, Nat.le_of_ble_eq_true rfl⟩ ⟨Nat.le_of_ble_eq_true rfl, Nat.le_of_ble_eq_true rfl⟩ (fun x5 h H locs S w => ?_)
  refine W.cs (cells' := 0) (slots' := 0) rfl rfl ?_
  refine ql_VI (As := [.int x5]) (rest := []) C S htab hlocks hl qy_X11_settle qi_X11_settle qs_X11_settle gw_481 (ci := 12) rfl w (fun b w => qm_X11_settle l hl9 D _ b x5 _ _ w) rfl ⟨Nat.le_of_ble_eq_true rfl, Nat.le_of_ble_eq_true rfl⟩ ⟨rfl, rfl⟩ (by exact Nat.le_of_ble_eq_true rfl) (fun b e9 => by cases e9; rfl) dX11_uncite_21 ⟨Nat.le_of_ble_eq_true rfl, Nat.le_of_ble_eq_true rfl⟩ ⟨Nat.le_of_ble_eq_true rfl, Nat.le_of_ble_eq_true rfl⟩ (fun x7 h H locs S w => ?_)
  refine W.cs (cells' := 1) (slots' := 6) rfl rfl ?_
  exact ql_iret C S hr hlocks dX11_uncite_24 ⟨Nat.le_of_ble_eq_true rfl, Nat.le_of_ble_eq_true rfl⟩ w
def qw_X11_repeal (a0 : Nat) (xp1 : Int32) (h : ql_H) (Q : Int32 → ql_H → Prop) (X : String → ql_H → Prop) : Prop :=
ql_gR h (some a0) 12 3 fun r1 =>
ql_gR h (some a0) 12 0 fun r2 =>
ql_rv h r1 9 fun b2 => qw_X6_open b2 r2 h (fun h =>
ql_gR h (some a0) 12 0 fun r4 =>
ql_rv h r4 4 fun b5 => qw_X1_tryRepeal b5 xp1 h (fun x5 h =>
ql_rv h (some a0) 12 fun b7 => qw_X11_settle b7 x5 h (fun x7 h =>
Q x7 h) X))
set_option maxHeartbeats 4000000 in
set_option maxRecDepth 100000 in
theorem qm_X11_repeal (l : Launch) (hl9 : l.stackTraces = false) (D : ql_D) (h0 : ql_H) (a0 : Nat) (xp1 : Int32) (Q : Int32 → ql_H → Prop) (X : String → ql_H → Prop) (w : qw_X11_repeal a0 xp1 h0 Q X) : ql_M D l yX11_repeal cX11_repeal 2 (some .int) ({ frames := 12, cells := 1, slots := 6, locals := 158 } : Room) h0 [.ref a0, .int xp1] (ql_rI Q) X 1 6 := by
  refine ql_ofW (by decide) (Nat.le_of_ble_eq_true rfl) ?_
  intro p e s m below meth c ls C hr hlocks hnm htab S hl
  have hl : lv_has ls 2 [(0, .ref a0), (1, .int xp1)] := hl
  unfold qw_X11_repeal at w
  refine ql_aload_n (r := (some a0)) C dX11_repeal_0 rfl (lv_at hl 0 rfl) ?_
  refine ql_getR C S qf_12_3 gw_351 dX11_repeal_1 w (fun r1 w => ?_)
  refine ql_aload_n (r := (some a0)) C dX11_repeal_4 rfl (lv_at hl 0 rfl) ?_
  refine ql_getR C S qf_12_0 gw_348 dX11_repeal_5 w (fun r2 w => ?_)
  refine ql_VV (As := [va_rf r2]) (rest := []) C S htab hlocks hl qy_X6_open qi_X6_open qs_X6_open gw_386 (ci := 9) rfl w (fun b w => qm_X6_open l hl9 D _ b r2 _ _ w) rfl ⟨Nat.le_of_ble_eq_true rfl, Nat.le_of_ble_eq_true rfl⟩ ⟨rfl, rfl⟩ (by exact Nat.le_of_ble_eq_true rfl) (fun b e9 => by cases e9; rfl) dX11_repeal_8 ⟨Nat.le_of_ble_eq_true rfl, Nat.le_of_ble_eq_true rfl⟩ ⟨Nat.le_of_ble_eq_true rfl, Nat.le_of_ble_eq_true rfl⟩ (fun h H locs S w => ?_)
  refine W.cs (cells' := 0) (slots' := 0) rfl rfl ?_
  refine ql_aload_n (r := (some a0)) C dX11_repeal_11 rfl (lv_at hl 0 rfl) ?_
  refine ql_aload_n (r := (some a0)) C dX11_repeal_12 rfl (lv_at hl 0 rfl) ?_
  refine ql_getR C S qf_12_0 gw_348 dX11_repeal_13 w (fun r4 w => ?_)
  refine lv_iload_n C.1.1 C.1.2.1 dX11_repeal_16 rfl (lv_at hl 1 rfl) ?_
  refine ql_VI (As := [.int xp1]) (rest := [.ref a0]) C S htab hlocks hl qy_X1_tryRepeal qi_X1_tryRepeal qs_X1_tryRepeal gw_949 (ci := 4) rfl w (fun b w => qm_X1_tryRepeal l hl9 D _ b xp1 _ _ w) rfl ⟨Nat.le_of_ble_eq_true rfl, Nat.le_of_ble_eq_true rfl⟩ ⟨rfl, rfl⟩ (by exact Nat.le_of_ble_eq_true rfl) (fun b e9 => by cases e9; rfl) dX11_repeal_17 ⟨Nat.le_of_ble_eq_true rfl, Nat.le_of_ble_eq_true rfl⟩ ⟨Nat.le_of_ble_eq_true rfl, Nat.le_of_ble_eq_true rfl⟩ (fun x5 h H locs S w => ?_)
  refine W.cs (cells' := 0) (slots' := 0) rfl rfl ?_
  refine ql_VI (As := [.int x5]) (rest := []) C S htab hlocks hl qy_X11_settle qi_X11_settle qs_X11_settle gw_481 (ci := 12) rfl w (fun b w => qm_X11_settle l hl9 D _ b x5 _ _ w) rfl ⟨Nat.le_of_ble_eq_true rfl, Nat.le_of_ble_eq_true rfl⟩ ⟨rfl, rfl⟩ (by exact Nat.le_of_ble_eq_true rfl) (fun b e9 => by cases e9; rfl) dX11_repeal_20 ⟨Nat.le_of_ble_eq_true rfl, Nat.le_of_ble_eq_true rfl⟩ ⟨Nat.le_of_ble_eq_true rfl, Nat.le_of_ble_eq_true rfl⟩ (fun x7 h H locs S w => ?_)
  refine W.cs (cells' := 1) (slots' := 6) rfl rfl ?_
  exact ql_iret C S hr hlocks dX11_repeal_23 ⟨Nat.le_of_ble_eq_true rfl, Nat.le_of_ble_eq_true rfl⟩ w
def qw_X11_consolidate (a0 : Nat) (h : ql_H) (Q : Int32 → ql_H → Prop) (X : String → ql_H → Prop) : Prop :=
ql_gR h (some a0) 12 3 fun r1 =>
ql_gR h (some a0) 12 0 fun r2 =>
ql_rv h r1 9 fun b2 => qw_X6_open b2 r2 h (fun h =>
ql_gR h (some a0) 12 0 fun r4 =>
ql_rv h r4 4 fun b5 => qw_X1_makeEdition b5  h (fun x5 h =>
ql_rv h (some a0) 12 fun b7 => qw_X11_settle b7 x5 h (fun x7 h =>
Q x7 h) X))
set_option maxHeartbeats 4000000 in
set_option maxRecDepth 100000 in
theorem qm_X11_consolidate (l : Launch) (hl9 : l.stackTraces = false) (D : ql_D) (h0 : ql_H) (a0 : Nat) (Q : Int32 → ql_H → Prop) (X : String → ql_H → Prop) (w : qw_X11_consolidate a0 h0 Q X) : ql_M D l yX11_consolidate cX11_consolidate 1 (some .int) ({ frames := 12, cells := 1, slots := 6, locals := 202 } : Room) h0 [.ref a0] (ql_rI Q) X 1 6 := by
  refine ql_ofW (by decide) (Nat.le_of_ble_eq_true rfl) ?_
  intro p e s m below meth c ls C hr hlocks hnm htab S hl
  have hl : lv_has ls 1 [(0, .ref a0)] := hl
  unfold qw_X11_consolidate at w
  refine ql_aload_n (r := (some a0)) C dX11_consolidate_0 rfl (lv_at hl 0 rfl) ?_
  refine ql_getR C S qf_12_3 gw_351 dX11_consolidate_1 w (fun r1 w => ?_)
  refine ql_aload_n (r := (some a0)) C dX11_consolidate_4 rfl (lv_at hl 0 rfl) ?_
  refine ql_getR C S qf_12_0 gw_348 dX11_consolidate_5 w (fun r2 w => ?_)
  refine ql_VV (As := [va_rf r2]) (rest := []) C S htab hlocks hl qy_X6_open qi_X6_open qs_X6_open gw_386 (ci := 9) rfl w (fun b w => qm_X6_open l hl9 D _ b r2 _ _ w) rfl ⟨Nat.le_of_ble_eq_true rfl, Nat.le_of_ble_eq_true rfl⟩ ⟨rfl, rfl⟩ (by exact Nat.le_of_ble_eq_true rfl) (fun b e9 => by cases e9; rfl) dX11_consolidate_8 ⟨Nat.le_of_ble_eq_true rfl, Nat.le_of_ble_eq_true rfl⟩ ⟨Nat.le_of_ble_eq_true rfl, Nat.le_of_ble_eq_true rfl⟩ (fun h H locs S w => ?_)
  refine W.cs (cells' := 0) (slots' := 0) rfl rfl ?_
  refine ql_aload_n (r := (some a0)) C dX11_consolidate_11 rfl (lv_at hl 0 rfl) ?_
  refine ql_aload_n (r := (some a0)) C dX11_consolidate_12 rfl (lv_at hl 0 rfl) ?_
  refine ql_getR C S qf_12_0 gw_348 dX11_consolidate_13 w (fun r4 w => ?_)
  refine ql_VI (As := []) (rest := [.ref a0]) C S htab hlocks hl qy_X1_makeEdition qi_X1_makeEdition qs_X1_makeEdition gw_402 (ci := 4) rfl w (fun b w => qm_X1_makeEdition l hl9 D _ b _ _ w) rfl ⟨Nat.le_of_ble_eq_true rfl, Nat.le_of_ble_eq_true rfl⟩ ⟨rfl, rfl⟩ (by exact Nat.le_of_ble_eq_true rfl) (fun b e9 => by cases e9; rfl) dX11_consolidate_16 ⟨Nat.le_of_ble_eq_true rfl, Nat.le_of_ble_eq_true rfl⟩ ⟨Nat.le_of_ble_eq_true rfl, Nat.le_of_ble_eq_true rfl⟩ (fun x5 h H locs S w => ?_)
  refine W.cs (cells' := 0) (slots' := 0) rfl rfl ?_
  refine ql_VI (As := [.int x5]) (rest := []) C S htab hlocks hl qy_X11_settle qi_X11_settle qs_X11_settle gw_481 (ci := 12) rfl w (fun b w => qm_X11_settle l hl9 D _ b x5 _ _ w) rfl ⟨Nat.le_of_ble_eq_true rfl, Nat.le_of_ble_eq_true rfl⟩ ⟨rfl, rfl⟩ (by exact Nat.le_of_ble_eq_true rfl) (fun b e9 => by cases e9; rfl) dX11_consolidate_19 ⟨Nat.le_of_ble_eq_true rfl, Nat.le_of_ble_eq_true rfl⟩ ⟨Nat.le_of_ble_eq_true rfl, Nat.le_of_ble_eq_true rfl⟩ (fun x7 h H locs S w => ?_)
  refine W.cs (cells' := 1) (slots' := 6) rfl rfl ?_
  exact ql_iret C S hr hlocks dX11_consolidate_22 ⟨Nat.le_of_ble_eq_true rfl, Nat.le_of_ble_eq_true rfl⟩ w
def qw_X11_advance (a0 : Nat) (xp1 : Int32) (h : ql_H) (Q : Int32 → ql_H → Prop) (X : String → ql_H → Prop) : Prop :=
ql_gR h (some a0) 12 3 fun r1 =>
ql_gR h (some a0) 12 0 fun r2 =>
ql_rv h r1 9 fun b2 => qw_X6_open b2 r2 h (fun h =>
ql_gR h (some a0) 12 0 fun r4 =>
ql_rv h r4 4 fun b5 => qw_X1_tryAdvance b5 xp1 h (fun x5 h =>
ql_rv h (some a0) 12 fun b7 => qw_X11_settle b7 x5 h (fun x7 h =>
Q x7 h) X))
set_option maxHeartbeats 4000000 in
set_option maxRecDepth 100000 in
theorem qm_X11_advance (l : Launch) (hl9 : l.stackTraces = false) (D : ql_D) (h0 : ql_H) (a0 : Nat) (xp1 : Int32) (Q : Int32 → ql_H → Prop) (X : String → ql_H → Prop) (w : qw_X11_advance a0 xp1 h0 Q X) : ql_M D l yX11_advance cX11_advance 2 (some .int) ({ frames := 12, cells := 1, slots := 6, locals := 168 } : Room) h0 [.ref a0, .int xp1] (ql_rI Q) X 1 6 := by
  refine ql_ofW (by decide) (Nat.le_of_ble_eq_true rfl) ?_
  intro p e s m below meth c ls C hr hlocks hnm htab S hl
  have hl : lv_has ls 2 [(0, .ref a0), (1, .int xp1)] := hl
  unfold qw_X11_advance at w
  refine ql_aload_n (r := (some a0)) C dX11_advance_0 rfl (lv_at hl 0 rfl) ?_
  refine ql_getR C S qf_12_3 gw_351 dX11_advance_1 w (fun r1 w => ?_)
  refine ql_aload_n (r := (some a0)) C dX11_advance_4 rfl (lv_at hl 0 rfl) ?_
  refine ql_getR C S qf_12_0 gw_348 dX11_advance_5 w (fun r2 w => ?_)
  refine ql_VV (As := [va_rf r2]) (rest := []) C S htab hlocks hl qy_X6_open qi_X6_open qs_X6_open gw_386 (ci := 9) rfl w (fun b w => qm_X6_open l hl9 D _ b r2 _ _ w) rfl ⟨Nat.le_of_ble_eq_true rfl, Nat.le_of_ble_eq_true rfl⟩ ⟨rfl, rfl⟩ (by exact Nat.le_of_ble_eq_true rfl) (fun b e9 => by cases e9; rfl) dX11_advance_8 ⟨Nat.le_of_ble_eq_true rfl, Nat.le_of_ble_eq_true rfl⟩ ⟨Nat.le_of_ble_eq_true rfl, Nat.le_of_ble_eq_true rfl⟩ (fun h H locs S w => ?_)
  refine W.cs (cells' := 0) (slots' := 0) rfl rfl ?_
  refine ql_aload_n (r := (some a0)) C dX11_advance_11 rfl (lv_at hl 0 rfl) ?_
  refine ql_aload_n (r := (some a0)) C dX11_advance_12 rfl (lv_at hl 0 rfl) ?_
  refine ql_getR C S qf_12_0 gw_348 dX11_advance_13 w (fun r4 w => ?_)
  refine lv_iload_n C.1.1 C.1.2.1 dX11_advance_16 rfl (lv_at hl 1 rfl) ?_
  refine ql_VI (As := [.int xp1]) (rest := [.ref a0]) C S htab hlocks hl qy_X1_tryAdvance qi_X1_tryAdvance qs_X1_tryAdvance gw_961 (ci := 4) rfl w (fun b w => qm_X1_tryAdvance l hl9 D _ b xp1 _ _ w) rfl ⟨Nat.le_of_ble_eq_true rfl, Nat.le_of_ble_eq_true rfl⟩ ⟨rfl, rfl⟩ (by exact Nat.le_of_ble_eq_true rfl) (fun b e9 => by cases e9; rfl) dX11_advance_17 ⟨Nat.le_of_ble_eq_true rfl, Nat.le_of_ble_eq_true rfl⟩ ⟨Nat.le_of_ble_eq_true rfl, Nat.le_of_ble_eq_true rfl⟩ (fun x5 h H locs S w => ?_)
  refine W.cs (cells' := 0) (slots' := 0) rfl rfl ?_
  refine ql_VI (As := [.int x5]) (rest := []) C S htab hlocks hl qy_X11_settle qi_X11_settle qs_X11_settle gw_481 (ci := 12) rfl w (fun b w => qm_X11_settle l hl9 D _ b x5 _ _ w) rfl ⟨Nat.le_of_ble_eq_true rfl, Nat.le_of_ble_eq_true rfl⟩ ⟨rfl, rfl⟩ (by exact Nat.le_of_ble_eq_true rfl) (fun b e9 => by cases e9; rfl) dX11_advance_20 ⟨Nat.le_of_ble_eq_true rfl, Nat.le_of_ble_eq_true rfl⟩ ⟨Nat.le_of_ble_eq_true rfl, Nat.le_of_ble_eq_true rfl⟩ (fun x7 h H locs S w => ?_)
  refine W.cs (cells' := 1) (slots' := 6) rfl rfl ?_
  exact ql_iret C S hr hlocks dX11_advance_23 ⟨Nat.le_of_ble_eq_true rfl, Nat.le_of_ble_eq_true rfl⟩ w
def qw_X11_day (a0 : Nat) (h : ql_H) (Q : Int32 → ql_H → Prop) : Prop :=
ql_gR h (some a0) 12 0 fun r1 =>
ql_gI h r1 4 2 fun x2 =>
Q x2 h
set_option maxHeartbeats 4000000 in
set_option maxRecDepth 100000 in
theorem qm_X11_day (l : Launch) (hl9 : l.stackTraces = false) (D : ql_D) (h0 : ql_H) (a0 : Nat) (Q : Int32 → ql_H → Prop) (X : String → ql_H → Prop) (w : qw_X11_day a0 h0 Q) : ql_M D l yX11_day cX11_day 1 (some .int) ({ frames := 2, cells := 0, slots := 0, locals := 48 } : Room) h0 [.ref a0] (ql_rI Q) X 0 0 := by
  refine ql_ofW (by decide) (Nat.le_of_ble_eq_true rfl) ?_
  intro p e s m below meth c ls C hr hlocks hnm htab S hl
  have hl : lv_has ls 1 [(0, .ref a0)] := hl
  unfold qw_X11_day at w
  refine ql_aload_n (r := (some a0)) C dX11_day_0 rfl (lv_at hl 0 rfl) ?_
  refine ql_getR C S qf_12_0 gw_348 dX11_day_1 w (fun r1 w => ?_)
  refine ql_getIN C S qf_4_2 (qn_RX11_136) dX11_day_4 w (fun x2 w => ?_)
  exact ql_iret C S hr hlocks dX11_day_7 ⟨Nat.le_of_ble_eq_true rfl, Nat.le_of_ble_eq_true rfl⟩ w
def qw_X11_clauseCount (a0 : Nat) (h : ql_H) (Q : Int32 → ql_H → Prop) : Prop :=
ql_gR h (some a0) 12 0 fun r1 =>
ql_rv h r1 4 fun b2 => qw_X1_countClauses b2  h (fun x2 h =>
Q x2 h)
set_option maxHeartbeats 4000000 in
set_option maxRecDepth 100000 in
theorem qm_X11_clauseCount (l : Launch) (hl9 : l.stackTraces = false) (D : ql_D) (h0 : ql_H) (a0 : Nat) (Q : Int32 → ql_H → Prop) (X : String → ql_H → Prop) (w : qw_X11_clauseCount a0 h0 Q) : ql_M D l yX11_clauseCount cX11_clauseCount 1 (some .int) ({ frames := 4, cells := 0, slots := 0, locals := 81 } : Room) h0 [.ref a0] (ql_rI Q) X 0 0 := by
  refine ql_ofW (by decide) (Nat.le_of_ble_eq_true rfl) ?_
  intro p e s m below meth c ls C hr hlocks hnm htab S hl
  have hl : lv_has ls 1 [(0, .ref a0)] := hl
  unfold qw_X11_clauseCount at w
  refine ql_aload_n (r := (some a0)) C dX11_clauseCount_0 rfl (lv_at hl 0 rfl) ?_
  refine ql_getR C S qf_12_0 gw_348 dX11_clauseCount_1 w (fun r1 w => ?_)
  refine ql_VI (As := []) (rest := []) C S htab hlocks hl qy_X1_countClauses qi_X1_countClauses qs_X1_countClauses gw_633 (ci := 4) rfl w (fun b w => qm_X1_countClauses l hl9 D _ b _ _ w) rfl ⟨Nat.le_of_ble_eq_true rfl, Nat.le_of_ble_eq_true rfl⟩ ⟨rfl, rfl⟩ (by exact Nat.le_of_ble_eq_true rfl) (fun b e9 => by cases e9; rfl) dX11_clauseCount_4 ⟨Nat.le_of_ble_eq_true rfl, Nat.le_of_ble_eq_true rfl⟩ ⟨Nat.le_of_ble_eq_true rfl, Nat.le_of_ble_eq_true rfl⟩ (fun x2 h H locs S w => ?_)
  refine W.cs (cells' := 0) (slots' := 0) rfl rfl ?_
  exact ql_iret C S hr hlocks dX11_clauseCount_7 ⟨Nat.le_of_ble_eq_true rfl, Nat.le_of_ble_eq_true rfl⟩ w
def qw_X11_existing (rp0 : Option Nat) (h : ql_H) (Q : Option Nat → ql_H → Prop) (X : String → ql_H → Prop) : Prop :=
if rp0 = none then (∀ n9 : Nat, h.1 ≤ n9 → X "java/util/NoSuchElementException" (n9, h.2)) else (Q rp0 h)
set_option maxHeartbeats 4000000 in
set_option maxRecDepth 100000 in
theorem qm_X11_existing (l : Launch) (hl9 : l.stackTraces = false) (D : ql_D) (h0 : ql_H) (rp0 : Option Nat) (Q : Option Nat → ql_H → Prop) (X : String → ql_H → Prop) (w : qw_X11_existing rp0 h0 Q X) : ql_M D l yX11_existing cX11_existing 1 (some (.object "ClauseLedger$Clause")) ({ frames := 8, cells := 1, slots := 6, locals := 101 } : Room) h0 [va_rf rp0] (ql_rR Q) X 1 6 := by
  refine ql_ofW (by decide) (by cases rp0 <;> exact Nat.le_of_ble_eq_true rfl) ?_
  intro p e s m below meth c ls C hr hlocks hnm htab S hl
  rw [show lv_args 0 [va_rf rp0] = [(0, va_rf rp0)] from by cases rp0 <;> rfl] at hl
  unfold qw_X11_existing at w
  refine ql_aload_n (r := rp0) C dX11_existing_0 rfl (lv_at hl 0 rfl) ?_
  refine ql_ifnonnull (tgt := 12) C dX11_existing_1 (by decide) (fun c9 => ?_) (fun c9 => ?_)
  · replace w := ql_ifn w c9
    refine ql_aload_n (r := rp0) C dX11_existing_12 rfl (lv_at hl 0 rfl) ?_
    exact ql_aret C S hr hlocks dX11_existing_13 ⟨Nat.le_of_ble_eq_true rfl, Nat.le_of_ble_eq_true rfl⟩ w
  · replace w := ql_if w c9
    exact ql_throw trivial C S qx_RX11_123 gw_488 gw_92 hl htab hlocks hl9 dX11_existing_4 dX11_existing_7 dX11_existing_8 dX11_existing_11 ⟨Nat.le_of_ble_eq_true rfl, Nat.le_of_ble_eq_true rfl, Nat.le_of_ble_eq_true rfl⟩ (by exact Nat.le_of_ble_eq_true rfl) ⟨Nat.le_of_ble_eq_true rfl, Nat.le_of_ble_eq_true rfl⟩ w
def qw_X11_clauseAt (a0 : Nat) (xp1 : Int32) (h : ql_H) (Q : Int32 → ql_H → Prop) (X : String → ql_H → Prop) : Prop :=
ql_gR h (some a0) 12 0 fun r1 =>
ql_rv h r1 4 fun b2 => qw_X1_clauseAtRank b2 xp1 h (fun r2 h =>
qw_X11_existing r2 h (fun r4 h =>
ql_gI h r4 6 1 fun x5 =>
Q x5 h) X)
set_option maxHeartbeats 4000000 in
set_option maxRecDepth 100000 in
theorem qm_X11_clauseAt (l : Launch) (hl9 : l.stackTraces = false) (D : ql_D) (h0 : ql_H) (a0 : Nat) (xp1 : Int32) (Q : Int32 → ql_H → Prop) (X : String → ql_H → Prop) (w : qw_X11_clauseAt a0 xp1 h0 Q X) : ql_M D l yX11_clauseAt cX11_clauseAt 2 (some .int) ({ frames := 10, cells := 1, slots := 6, locals := 129 } : Room) h0 [.ref a0, .int xp1] (ql_rI Q) X 1 6 := by
  refine ql_ofW (by decide) (Nat.le_of_ble_eq_true rfl) ?_
  intro p e s m below meth c ls C hr hlocks hnm htab S hl
  have hl : lv_has ls 2 [(0, .ref a0), (1, .int xp1)] := hl
  unfold qw_X11_clauseAt at w
  refine ql_aload_n (r := (some a0)) C dX11_clauseAt_0 rfl (lv_at hl 0 rfl) ?_
  refine ql_getR C S qf_12_0 gw_348 dX11_clauseAt_1 w (fun r1 w => ?_)
  refine lv_iload_n C.1.1 C.1.2.1 dX11_clauseAt_4 rfl (lv_at hl 1 rfl) ?_
  refine ql_VR (As := [.int xp1]) (rest := []) C S htab hlocks hl qy_X1_clauseAtRank qi_X1_clauseAtRank qs_X1_clauseAtRank gw_976 (ci := 4) rfl w (fun b w => qm_X1_clauseAtRank l hl9 D _ b xp1 _ _ w) rfl ⟨Nat.le_of_ble_eq_true rfl, Nat.le_of_ble_eq_true rfl⟩ ⟨rfl, rfl⟩ (by exact Nat.le_of_ble_eq_true rfl) (fun b e9 => by cases e9; rfl) dX11_clauseAt_5 ⟨Nat.le_of_ble_eq_true rfl, Nat.le_of_ble_eq_true rfl⟩ ⟨Nat.le_of_ble_eq_true rfl, Nat.le_of_ble_eq_true rfl⟩ (fun r2 h H locs S w => ?_)
  refine W.cs (cells' := 0) (slots' := 0) rfl rfl ?_
  refine ql_SR (As := [va_rf r2]) (rest := []) C S htab hlocks hl qy_X11_existing qi_X11_existing gw_977 (qm_X11_existing l hl9 D _ r2 _ _ w) rfl ⟨Nat.le_of_ble_eq_true rfl, Nat.le_of_ble_eq_true rfl⟩ ⟨rfl, rfl⟩ (by exact Nat.le_of_ble_eq_true rfl) rfl dX11_clauseAt_8 ⟨Nat.le_of_ble_eq_true rfl, Nat.le_of_ble_eq_true rfl⟩ ⟨Nat.le_of_ble_eq_true rfl, Nat.le_of_ble_eq_true rfl⟩ (fun r4 h H locs S w => ?_)
  refine W.cs (cells' := 1) (slots' := 6) rfl rfl ?_
  refine ql_getIN C S qf_6_1 (qn_RX11_150) dX11_clauseAt_11 w (fun x5 w => ?_)
  exact ql_iret C S hr hlocks dX11_clauseAt_14 ⟨Nat.le_of_ble_eq_true rfl, Nat.le_of_ble_eq_true rfl⟩ w
def qw_X11_clauseOfSection (a0 : Nat) (xp1 : Int32) (h : ql_H) (Q : Int32 → ql_H → Prop) (X : String → ql_H → Prop) : Prop :=
ql_gR h (some a0) 12 0 fun r1 =>
ql_rv h r1 4 fun b2 => qw_X1_clauseWithSection b2 xp1 h (fun r2 h =>
qw_X11_existing r2 h (fun r4 h =>
ql_gI h r4 6 1 fun x5 =>
Q x5 h) X)
set_option maxHeartbeats 4000000 in
set_option maxRecDepth 100000 in
theorem qm_X11_clauseOfSection (l : Launch) (hl9 : l.stackTraces = false) (D : ql_D) (h0 : ql_H) (a0 : Nat) (xp1 : Int32) (Q : Int32 → ql_H → Prop) (X : String → ql_H → Prop) (w : qw_X11_clauseOfSection a0 xp1 h0 Q X) : ql_M D l yX11_clauseOfSection cX11_clauseOfSection 2 (some .int) ({ frames := 10, cells := 1, slots := 6, locals := 129 } : Room) h0 [.ref a0, .int xp1] (ql_rI Q) X 1 6 := by
  refine ql_ofW (by decide) (Nat.le_of_ble_eq_true rfl) ?_
  intro p e s m below meth c ls C hr hlocks hnm htab S hl
  have hl : lv_has ls 2 [(0, .ref a0), (1, .int xp1)] := hl
  unfold qw_X11_clauseOfSection at w
  refine ql_aload_n (r := (some a0)) C dX11_clauseOfSection_0 rfl (lv_at hl 0 rfl) ?_
  refine ql_getR C S qf_12_0 gw_348 dX11_clauseOfSection_1 w (fun r1 w => ?_)
  refine lv_iload_n C.1.1 C.1.2.1 dX11_clauseOfSection_4 rfl (lv_at hl 1 rfl) ?_
  refine ql_VR (As := [.int xp1]) (rest := []) C S htab hlocks hl qy_X1_clauseWithSection qi_X1_clauseWithSection qs_X1_clauseWithSection gw_987 (ci := 4) rfl w (fun b w => qm_X1_clauseWithSection l hl9 D _ b xp1 _ _ w) rfl ⟨Nat.le_of_ble_eq_true rfl, Nat.le_of_ble_eq_true rfl⟩ ⟨rfl, rfl⟩ (by exact Nat.le_of_ble_eq_true rfl) (fun b e9 => by cases e9; rfl) dX11_clauseOfSection_5 ⟨Nat.le_of_ble_eq_true rfl, Nat.le_of_ble_eq_true rfl⟩ ⟨Nat.le_of_ble_eq_true rfl, Nat.le_of_ble_eq_true rfl⟩ (fun r2 h H locs S w => ?_)
  refine W.cs (cells' := 0) (slots' := 0) rfl rfl ?_
  refine ql_SR (As := [va_rf r2]) (rest := []) C S htab hlocks hl qy_X11_existing qi_X11_existing gw_977 (qm_X11_existing l hl9 D _ r2 _ _ w) rfl ⟨Nat.le_of_ble_eq_true rfl, Nat.le_of_ble_eq_true rfl⟩ ⟨rfl, rfl⟩ (by exact Nat.le_of_ble_eq_true rfl) rfl dX11_clauseOfSection_8 ⟨Nat.le_of_ble_eq_true rfl, Nat.le_of_ble_eq_true rfl⟩ ⟨Nat.le_of_ble_eq_true rfl, Nat.le_of_ble_eq_true rfl⟩ (fun r4 h H locs S w => ?_)
  refine W.cs (cells' := 1) (slots' := 6) rfl rfl ?_
  refine ql_getIN C S qf_6_1 (qn_RX11_150) dX11_clauseOfSection_11 w (fun x5 w => ?_)
  exact ql_iret C S hr hlocks dX11_clauseOfSection_14 ⟨Nat.le_of_ble_eq_true rfl, Nat.le_of_ble_eq_true rfl⟩ w
def qw_X11_clauseOf (a0 : Nat) (xp1 : Int32) (h : ql_H) (Q : Option Nat → ql_H → Prop) (X : String → ql_H → Prop) : Prop :=
ql_gR h (some a0) 12 0 fun r1 =>
ql_rv h r1 4 fun b2 => qw_X1_clauseWithId b2 xp1 h (fun r2 h =>
qw_X11_existing r2 h (fun r4 h =>
Q r4 h) X)
set_option maxHeartbeats 4000000 in
set_option maxRecDepth 100000 in
theorem qm_X11_clauseOf (l : Launch) (hl9 : l.stackTraces = false) (D : ql_D) (h0 : ql_H) (a0 : Nat) (xp1 : Int32) (Q : Option Nat → ql_H → Prop) (X : String → ql_H → Prop) (w : qw_X11_clauseOf a0 xp1 h0 Q X) : ql_M D l yX11_clauseOf cX11_clauseOf 2 (some (.object "ClauseLedger$Clause")) ({ frames := 10, cells := 1, slots := 6, locals := 129 } : Room) h0 [.ref a0, .int xp1] (ql_rR Q) X 1 6 := by
  refine ql_ofW (by decide) (Nat.le_of_ble_eq_true rfl) ?_
  intro p e s m below meth c ls C hr hlocks hnm htab S hl
  have hl : lv_has ls 2 [(0, .ref a0), (1, .int xp1)] := hl
  unfold qw_X11_clauseOf at w
  refine ql_aload_n (r := (some a0)) C dX11_clauseOf_0 rfl (lv_at hl 0 rfl) ?_
  refine ql_getR C S qf_12_0 gw_348 dX11_clauseOf_1 w (fun r1 w => ?_)
  refine lv_iload_n C.1.1 C.1.2.1 dX11_clauseOf_4 rfl (lv_at hl 1 rfl) ?_
  refine ql_VR (As := [.int xp1]) (rest := []) C S htab hlocks hl qy_X1_clauseWithId qi_X1_clauseWithId qs_X1_clauseWithId gw_999 (ci := 4) rfl w (fun b w => qm_X1_clauseWithId l hl9 D _ b xp1 _ _ w) rfl ⟨Nat.le_of_ble_eq_true rfl, Nat.le_of_ble_eq_true rfl⟩ ⟨rfl, rfl⟩ (by exact Nat.le_of_ble_eq_true rfl) (fun b e9 => by cases e9; rfl) dX11_clauseOf_5 ⟨Nat.le_of_ble_eq_true rfl, Nat.le_of_ble_eq_true rfl⟩ ⟨Nat.le_of_ble_eq_true rfl, Nat.le_of_ble_eq_true rfl⟩ (fun r2 h H locs S w => ?_)
  refine W.cs (cells' := 0) (slots' := 0) rfl rfl ?_
  refine ql_SR (As := [va_rf r2]) (rest := []) C S htab hlocks hl qy_X11_existing qi_X11_existing gw_977 (qm_X11_existing l hl9 D _ r2 _ _ w) rfl ⟨Nat.le_of_ble_eq_true rfl, Nat.le_of_ble_eq_true rfl⟩ ⟨rfl, rfl⟩ (by exact Nat.le_of_ble_eq_true rfl) rfl dX11_clauseOf_8 ⟨Nat.le_of_ble_eq_true rfl, Nat.le_of_ble_eq_true rfl⟩ ⟨Nat.le_of_ble_eq_true rfl, Nat.le_of_ble_eq_true rfl⟩ (fun r4 h H locs S w => ?_)
  refine W.cs (cells' := 1) (slots' := 6) rfl rfl ?_
  exact ql_aret C S hr hlocks dX11_clauseOf_11 ⟨Nat.le_of_ble_eq_true rfl, Nat.le_of_ble_eq_true rfl⟩ w
def qw_X11_section (a0 : Nat) (xp1 : Int32) (h : ql_H) (Q : Int32 → ql_H → Prop) (X : String → ql_H → Prop) : Prop :=
ql_rv h (some a0) 12 fun b1 => qw_X11_clauseOf b1 xp1 h (fun r1 h =>
ql_gI h r1 6 2 fun x3 =>
Q x3 h) X
set_option maxHeartbeats 4000000 in
set_option maxRecDepth 100000 in
theorem qm_X11_section (l : Launch) (hl9 : l.stackTraces = false) (D : ql_D) (h0 : ql_H) (a0 : Nat) (xp1 : Int32) (Q : Int32 → ql_H → Prop) (X : String → ql_H → Prop) (w : qw_X11_section a0 xp1 h0 Q X) : ql_M D l yX11_section cX11_section 2 (some .int) ({ frames := 12, cells := 1, slots := 6, locals := 158 } : Room) h0 [.ref a0, .int xp1] (ql_rI Q) X 1 6 := by
  refine ql_ofW (by decide) (Nat.le_of_ble_eq_true rfl) ?_
  intro p e s m below meth c ls C hr hlocks hnm htab S hl
  have hl : lv_has ls 2 [(0, .ref a0), (1, .int xp1)] := hl
  unfold qw_X11_section at w
  refine ql_aload_n (r := (some a0)) C dX11_section_0 rfl (lv_at hl 0 rfl) ?_
  refine lv_iload_n C.1.1 C.1.2.1 dX11_section_1 rfl (lv_at hl 1 rfl) ?_
  refine ql_VR (As := [.int xp1]) (rest := []) C S htab hlocks hl qy_X11_clauseOf qi_X11_clauseOf qs_X11_clauseOf gw_995 (ci := 12) rfl w (fun b w => qm_X11_clauseOf l hl9 D _ b xp1 _ _ w) rfl ⟨Nat.le_of_ble_eq_true rfl, Nat.le_of_ble_eq_true rfl⟩ ⟨rfl, rfl⟩ (by exact Nat.le_of_ble_eq_true rfl) (fun b e9 => by cases e9; rfl) dX11_section_2 ⟨Nat.le_of_ble_eq_true rfl, Nat.le_of_ble_eq_true rfl⟩ ⟨Nat.le_of_ble_eq_true rfl, Nat.le_of_ble_eq_true rfl⟩ (fun r1 h H locs S w => ?_)
  refine W.cs (cells' := 1) (slots' := 6) rfl rfl ?_
  refine ql_getIN C S qf_6_2 (qn_RX11_161) dX11_section_5 w (fun x3 w => ?_)
  exact ql_iret C S hr hlocks dX11_section_8 ⟨Nat.le_of_ble_eq_true rfl, Nat.le_of_ble_eq_true rfl⟩ w
def qw_X11_enactedOn (a0 : Nat) (xp1 : Int32) (h : ql_H) (Q : Int32 → ql_H → Prop) (X : String → ql_H → Prop) : Prop :=
ql_rv h (some a0) 12 fun b1 => qw_X11_clauseOf b1 xp1 h (fun r1 h =>
ql_gI h r1 6 3 fun x3 =>
Q x3 h) X
set_option maxHeartbeats 4000000 in
set_option maxRecDepth 100000 in
theorem qm_X11_enactedOn (l : Launch) (hl9 : l.stackTraces = false) (D : ql_D) (h0 : ql_H) (a0 : Nat) (xp1 : Int32) (Q : Int32 → ql_H → Prop) (X : String → ql_H → Prop) (w : qw_X11_enactedOn a0 xp1 h0 Q X) : ql_M D l yX11_enactedOn cX11_enactedOn 2 (some .int) ({ frames := 12, cells := 1, slots := 6, locals := 158 } : Room) h0 [.ref a0, .int xp1] (ql_rI Q) X 1 6 := by
  refine ql_ofW (by decide) (Nat.le_of_ble_eq_true rfl) ?_
  intro p e s m below meth c ls C hr hlocks hnm htab S hl
  have hl : lv_has ls 2 [(0, .ref a0), (1, .int xp1)] := hl
  unfold qw_X11_enactedOn at w
  refine ql_aload_n (r := (some a0)) C dX11_enactedOn_0 rfl (lv_at hl 0 rfl) ?_
  refine lv_iload_n C.1.1 C.1.2.1 dX11_enactedOn_1 rfl (lv_at hl 1 rfl) ?_
  refine ql_VR (As := [.int xp1]) (rest := []) C S htab hlocks hl qy_X11_clauseOf qi_X11_clauseOf qs_X11_clauseOf gw_995 (ci := 12) rfl w (fun b w => qm_X11_clauseOf l hl9 D _ b xp1 _ _ w) rfl ⟨Nat.le_of_ble_eq_true rfl, Nat.le_of_ble_eq_true rfl⟩ ⟨rfl, rfl⟩ (by exact Nat.le_of_ble_eq_true rfl) (fun b e9 => by cases e9; rfl) dX11_enactedOn_2 ⟨Nat.le_of_ble_eq_true rfl, Nat.le_of_ble_eq_true rfl⟩ ⟨Nat.le_of_ble_eq_true rfl, Nat.le_of_ble_eq_true rfl⟩ (fun r1 h H locs S w => ?_)
  refine W.cs (cells' := 1) (slots' := 6) rfl rfl ?_
  refine ql_getIN C S qf_6_3 (qn_RX11_164) dX11_enactedOn_5 w (fun x3 w => ?_)
  exact ql_iret C S hr hlocks dX11_enactedOn_8 ⟨Nat.le_of_ble_eq_true rfl, Nat.le_of_ble_eq_true rfl⟩ w
def qw_X11_clauseWithSunset (a0 : Nat) (xp1 : Int32) (h : ql_H) (Q : Option Nat → ql_H → Prop) (X : String → ql_H → Prop) : Prop :=
ql_rv h (some a0) 12 fun b1 => qw_X11_clauseOf b1 xp1 h (fun r1 h =>
ql_rv h r1 6 fun b3 => qw_X3_hasSunset b3  h (fun x3 h =>
if x3 = 0 then (∀ n9 : Nat, h.1 ≤ n9 → X "java/util/NoSuchElementException" (n9, h.2)) else (Q r1 h))) X
set_option maxHeartbeats 4000000 in
set_option maxRecDepth 100000 in
theorem qm_X11_clauseWithSunset (l : Launch) (hl9 : l.stackTraces = false) (D : ql_D) (h0 : ql_H) (a0 : Nat) (xp1 : Int32) (Q : Option Nat → ql_H → Prop) (X : String → ql_H → Prop) (w : qw_X11_clauseWithSunset a0 xp1 h0 Q X) : ql_M D l yX11_clauseWithSunset cX11_clauseWithSunset 3 (some (.object "ClauseLedger$Clause")) ({ frames := 12, cells := 2, slots := 12, locals := 158 } : Room) h0 [.ref a0, .int xp1] (ql_rR Q) X 2 12 := by
  refine ql_ofW (by decide) (Nat.le_of_ble_eq_true rfl) ?_
  intro p e s m below meth c ls C hr hlocks hnm htab S hl
  have hl : lv_has ls 3 [(0, .ref a0), (1, .int xp1)] := hl
  unfold qw_X11_clauseWithSunset at w
  refine ql_aload_n (r := (some a0)) C dX11_clauseWithSunset_0 rfl (lv_at hl 0 rfl) ?_
  refine lv_iload_n C.1.1 C.1.2.1 dX11_clauseWithSunset_1 rfl (lv_at hl 1 rfl) ?_
  refine ql_VR (As := [.int xp1]) (rest := []) C S htab hlocks hl qy_X11_clauseOf qi_X11_clauseOf qs_X11_clauseOf gw_995 (ci := 12) rfl w (fun b w => qm_X11_clauseOf l hl9 D _ b xp1 _ _ w) rfl ⟨Nat.le_of_ble_eq_true rfl, Nat.le_of_ble_eq_true rfl⟩ ⟨rfl, rfl⟩ (by exact Nat.le_of_ble_eq_true rfl) (fun b e9 => by cases e9; rfl) dX11_clauseWithSunset_2 ⟨Nat.le_of_ble_eq_true rfl, Nat.le_of_ble_eq_true rfl⟩ ⟨Nat.le_of_ble_eq_true rfl, Nat.le_of_ble_eq_true rfl⟩ (fun r1 h H locs S w => ?_)
  refine W.cs (cells' := 1) (slots' := 6) rfl rfl ?_
  refine ql_astore_n (lv' := [(2, va_rf r1), (0, .ref a0), (1, .int xp1)]) C dX11_clauseWithSunset_5 rfl hl (by decide) rfl (fun ls hl => ?_)
  refine ql_aload_n (r := r1) C dX11_clauseWithSunset_6 rfl (lv_at hl 0 rfl) ?_
  refine ql_VI (As := []) (rest := []) C S htab hlocks hl qy_X3_hasSunset qi_X3_hasSunset qs_X3_hasSunset gw_1018 (ci := 6) rfl w (fun b w => qm_X3_hasSunset l hl9 D _ b _ _ w) rfl ⟨Nat.le_of_ble_eq_true rfl, Nat.le_of_ble_eq_true rfl⟩ ⟨rfl, rfl⟩ (by exact Nat.le_of_ble_eq_true rfl) (fun b e9 => by cases e9; rfl) dX11_clauseWithSunset_7 ⟨Nat.le_of_ble_eq_true rfl, Nat.le_of_ble_eq_true rfl⟩ ⟨Nat.le_of_ble_eq_true rfl, Nat.le_of_ble_eq_true rfl⟩ (fun x3 h H locs S w => ?_)
  refine W.cs (cells' := 1) (slots' := 6) rfl rfl ?_
  refine lv_if_ne (tgt := 21) C.1.1 C.1.2.1 dX11_clauseWithSunset_10 (by decide) (fun c9 => ?_) (fun c9 => ?_)
  · replace w := ql_ifn w c9
    refine ql_aload_n (r := r1) C dX11_clauseWithSunset_21 rfl (lv_at hl 0 rfl) ?_
    exact ql_aret C S hr hlocks dX11_clauseWithSunset_22 ⟨Nat.le_of_ble_eq_true rfl, Nat.le_of_ble_eq_true rfl⟩ w
  · replace w := ql_if w c9
    exact ql_throw trivial C S qx_RX11_123 gw_488 gw_92 hl htab hlocks hl9 dX11_clauseWithSunset_13 dX11_clauseWithSunset_16 dX11_clauseWithSunset_17 dX11_clauseWithSunset_20 ⟨Nat.le_of_ble_eq_true rfl, Nat.le_of_ble_eq_true rfl, Nat.le_of_ble_eq_true rfl⟩ (by exact Nat.le_of_ble_eq_true rfl) ⟨Nat.le_of_ble_eq_true rfl, Nat.le_of_ble_eq_true rfl⟩ w
def qw_X11_sunset (a0 : Nat) (xp1 : Int32) (h : ql_H) (Q : Int32 → ql_H → Prop) (X : String → ql_H → Prop) : Prop :=
ql_rv h (some a0) 12 fun b1 => qw_X11_clauseWithSunset b1 xp1 h (fun r1 h =>
ql_gI h r1 6 4 fun x3 =>
Q x3 h) X
set_option maxHeartbeats 4000000 in
set_option maxRecDepth 100000 in
theorem qm_X11_sunset (l : Launch) (hl9 : l.stackTraces = false) (D : ql_D) (h0 : ql_H) (a0 : Nat) (xp1 : Int32) (Q : Int32 → ql_H → Prop) (X : String → ql_H → Prop) (w : qw_X11_sunset a0 xp1 h0 Q X) : ql_M D l yX11_sunset cX11_sunset 2 (some .int) ({ frames := 14, cells := 2, slots := 12, locals := 188 } : Room) h0 [.ref a0, .int xp1] (ql_rI Q) X 2 12 := by
  refine ql_ofW (by decide) (Nat.le_of_ble_eq_true rfl) ?_
  intro p e s m below meth c ls C hr hlocks hnm htab S hl
  have hl : lv_has ls 2 [(0, .ref a0), (1, .int xp1)] := hl
  unfold qw_X11_sunset at w
  refine ql_aload_n (r := (some a0)) C dX11_sunset_0 rfl (lv_at hl 0 rfl) ?_
  refine lv_iload_n C.1.1 C.1.2.1 dX11_sunset_1 rfl (lv_at hl 1 rfl) ?_
  refine ql_VR (As := [.int xp1]) (rest := []) C S htab hlocks hl qy_X11_clauseWithSunset qi_X11_clauseWithSunset qs_X11_clauseWithSunset gw_1014 (ci := 12) rfl w (fun b w => qm_X11_clauseWithSunset l hl9 D _ b xp1 _ _ w) rfl ⟨Nat.le_of_ble_eq_true rfl, Nat.le_of_ble_eq_true rfl⟩ ⟨rfl, rfl⟩ (by exact Nat.le_of_ble_eq_true rfl) (fun b e9 => by cases e9; rfl) dX11_sunset_2 ⟨Nat.le_of_ble_eq_true rfl, Nat.le_of_ble_eq_true rfl⟩ ⟨Nat.le_of_ble_eq_true rfl, Nat.le_of_ble_eq_true rfl⟩ (fun r1 h H locs S w => ?_)
  refine W.cs (cells' := 2) (slots' := 12) rfl rfl ?_
  refine ql_getIN C S qf_6_4 (qn_RX11_170) dX11_sunset_5 w (fun x3 w => ?_)
  exact ql_iret C S hr hlocks dX11_sunset_8 ⟨Nat.le_of_ble_eq_true rfl, Nat.le_of_ble_eq_true rfl⟩ w
def qw_X11_isInForce (a0 : Nat) (xp1 : Int32) (xp2 : Int32) (h : ql_H) (Q : Int32 → ql_H → Prop) (X : String → ql_H → Prop) : Prop :=
ql_rv h (some a0) 12 fun b1 => qw_X11_clauseOf b1 xp1 h (fun r1 h =>
ql_rv h r1 6 fun b3 => qw_X3_holdsOn b3 xp2 h (fun x3 h =>
ql_nz .boolean x3 ∧ Q x3 h)) X
set_option maxHeartbeats 4000000 in
set_option maxRecDepth 100000 in
theorem qm_X11_isInForce (l : Launch) (hl9 : l.stackTraces = false) (D : ql_D) (h0 : ql_H) (a0 : Nat) (xp1 : Int32) (xp2 : Int32) (Q : Int32 → ql_H → Prop) (X : String → ql_H → Prop) (w : qw_X11_isInForce a0 xp1 xp2 h0 Q X) : ql_M D l yX11_isInForce cX11_isInForce 3 (some .boolean) ({ frames := 12, cells := 1, slots := 6, locals := 158 } : Room) h0 [.ref a0, .int xp1, .int xp2] (ql_rI Q) X 1 6 := by
  refine ql_ofW (by decide) (Nat.le_of_ble_eq_true rfl) ?_
  intro p e s m below meth c ls C hr hlocks hnm htab S hl
  have hl : lv_has ls 3 [(0, .ref a0), (1, .int xp1), (2, .int xp2)] := hl
  unfold qw_X11_isInForce at w
  refine ql_aload_n (r := (some a0)) C dX11_isInForce_0 rfl (lv_at hl 0 rfl) ?_
  refine lv_iload_n C.1.1 C.1.2.1 dX11_isInForce_1 rfl (lv_at hl 1 rfl) ?_
  refine ql_VR (As := [.int xp1]) (rest := []) C S htab hlocks hl qy_X11_clauseOf qi_X11_clauseOf qs_X11_clauseOf gw_995 (ci := 12) rfl w (fun b w => qm_X11_clauseOf l hl9 D _ b xp1 _ _ w) rfl ⟨Nat.le_of_ble_eq_true rfl, Nat.le_of_ble_eq_true rfl⟩ ⟨rfl, rfl⟩ (by exact Nat.le_of_ble_eq_true rfl) (fun b e9 => by cases e9; rfl) dX11_isInForce_2 ⟨Nat.le_of_ble_eq_true rfl, Nat.le_of_ble_eq_true rfl⟩ ⟨Nat.le_of_ble_eq_true rfl, Nat.le_of_ble_eq_true rfl⟩ (fun r1 h H locs S w => ?_)
  refine W.cs (cells' := 1) (slots' := 6) rfl rfl ?_
  refine lv_iload_n C.1.1 C.1.2.1 dX11_isInForce_5 rfl (lv_at hl 2 rfl) ?_
  refine ql_VI (As := [.int xp2]) (rest := []) C S htab hlocks hl qy_X3_holdsOn qi_X3_holdsOn qs_X3_holdsOn gw_1026 (ci := 6) rfl w (fun b w => qm_X3_holdsOn l hl9 D _ b xp2 _ _ w) rfl ⟨Nat.le_of_ble_eq_true rfl, Nat.le_of_ble_eq_true rfl⟩ ⟨rfl, rfl⟩ (by exact Nat.le_of_ble_eq_true rfl) (fun b e9 => by cases e9; rfl) dX11_isInForce_6 ⟨Nat.le_of_ble_eq_true rfl, Nat.le_of_ble_eq_true rfl⟩ ⟨Nat.le_of_ble_eq_true rfl, Nat.le_of_ble_eq_true rfl⟩ (fun x3 h H locs S w => ?_)
  refine W.cs (cells' := 1) (slots' := 6) rfl rfl ?_
  exact ql_zret C S hr hlocks dX11_isInForce_9 ⟨Nat.le_of_ble_eq_true rfl, Nat.le_of_ble_eq_true rfl⟩ w
def qw_X11_hasLapsed (a0 : Nat) (xp1 : Int32) (h : ql_H) (Q : Int32 → ql_H → Prop) (X : String → ql_H → Prop) : Prop :=
ql_rv h (some a0) 12 fun b1 => qw_X11_clauseOf b1 xp1 h (fun r1 h =>
ql_gR h (some a0) 12 0 fun r3 =>
ql_gI h r3 4 2 fun x4 =>
ql_rv h r1 6 fun b5 => qw_X3_lapsedBy b5 x4 h (fun x5 h =>
ql_nz .boolean x5 ∧ Q x5 h)) X
set_option maxHeartbeats 4000000 in
set_option maxRecDepth 100000 in
theorem qm_X11_hasLapsed (l : Launch) (hl9 : l.stackTraces = false) (D : ql_D) (h0 : ql_H) (a0 : Nat) (xp1 : Int32) (Q : Int32 → ql_H → Prop) (X : String → ql_H → Prop) (w : qw_X11_hasLapsed a0 xp1 h0 Q X) : ql_M D l yX11_hasLapsed cX11_hasLapsed 2 (some .boolean) ({ frames := 12, cells := 1, slots := 6, locals := 158 } : Room) h0 [.ref a0, .int xp1] (ql_rI Q) X 1 6 := by
  refine ql_ofW (by decide) (Nat.le_of_ble_eq_true rfl) ?_
  intro p e s m below meth c ls C hr hlocks hnm htab S hl
  have hl : lv_has ls 2 [(0, .ref a0), (1, .int xp1)] := hl
  unfold qw_X11_hasLapsed at w
  refine ql_aload_n (r := (some a0)) C dX11_hasLapsed_0 rfl (lv_at hl 0 rfl) ?_
  refine lv_iload_n C.1.1 C.1.2.1 dX11_hasLapsed_1 rfl (lv_at hl 1 rfl) ?_
  refine ql_VR (As := [.int xp1]) (rest := []) C S htab hlocks hl qy_X11_clauseOf qi_X11_clauseOf qs_X11_clauseOf gw_995 (ci := 12) rfl w (fun b w => qm_X11_clauseOf l hl9 D _ b xp1 _ _ w) rfl ⟨Nat.le_of_ble_eq_true rfl, Nat.le_of_ble_eq_true rfl⟩ ⟨rfl, rfl⟩ (by exact Nat.le_of_ble_eq_true rfl) (fun b e9 => by cases e9; rfl) dX11_hasLapsed_2 ⟨Nat.le_of_ble_eq_true rfl, Nat.le_of_ble_eq_true rfl⟩ ⟨Nat.le_of_ble_eq_true rfl, Nat.le_of_ble_eq_true rfl⟩ (fun r1 h H locs S w => ?_)
  refine W.cs (cells' := 1) (slots' := 6) rfl rfl ?_
  refine ql_aload_n (r := (some a0)) C dX11_hasLapsed_5 rfl (lv_at hl 0 rfl) ?_
  refine ql_getR C S qf_12_0 gw_348 dX11_hasLapsed_6 w (fun r3 w => ?_)
  refine ql_getIN C S qf_4_2 (qn_RX11_136) dX11_hasLapsed_9 w (fun x4 w => ?_)
  refine ql_VI (As := [.int x4]) (rest := []) C S htab hlocks hl qy_X3_lapsedBy qi_X3_lapsedBy qs_X3_lapsedBy gw_1034 (ci := 6) rfl w (fun b w => qm_X3_lapsedBy l hl9 D _ b x4 _ _ w) rfl ⟨Nat.le_of_ble_eq_true rfl, Nat.le_of_ble_eq_true rfl⟩ ⟨rfl, rfl⟩ (by exact Nat.le_of_ble_eq_true rfl) (fun b e9 => by cases e9; rfl) dX11_hasLapsed_12 ⟨Nat.le_of_ble_eq_true rfl, Nat.le_of_ble_eq_true rfl⟩ ⟨Nat.le_of_ble_eq_true rfl, Nat.le_of_ble_eq_true rfl⟩ (fun x5 h H locs S w => ?_)
  refine W.cs (cells' := 1) (slots' := 6) rfl rfl ?_
  exact ql_zret C S hr hlocks dX11_hasLapsed_15 ⟨Nat.le_of_ble_eq_true rfl, Nat.le_of_ble_eq_true rfl⟩ w
def qw_X11_inForceOn (a0 : Nat) (xp1 : Int32) (h : ql_H) (Q : Int32 → ql_H → Prop) : Prop :=
ql_gR h (some a0) 12 0 fun r1 =>
ql_rv h r1 4 fun b2 => qw_X1_countHoldingOn b2 xp1 h (fun x2 h =>
Q x2 h)
set_option maxHeartbeats 4000000 in
set_option maxRecDepth 100000 in
theorem qm_X11_inForceOn (l : Launch) (hl9 : l.stackTraces = false) (D : ql_D) (h0 : ql_H) (a0 : Nat) (xp1 : Int32) (Q : Int32 → ql_H → Prop) (X : String → ql_H → Prop) (w : qw_X11_inForceOn a0 xp1 h0 Q) : ql_M D l yX11_inForceOn cX11_inForceOn 2 (some .int) ({ frames := 8, cells := 0, slots := 0, locals := 139 } : Room) h0 [.ref a0, .int xp1] (ql_rI Q) X 0 0 := by
  refine ql_ofW (by decide) (Nat.le_of_ble_eq_true rfl) ?_
  intro p e s m below meth c ls C hr hlocks hnm htab S hl
  have hl : lv_has ls 2 [(0, .ref a0), (1, .int xp1)] := hl
  unfold qw_X11_inForceOn at w
  refine ql_aload_n (r := (some a0)) C dX11_inForceOn_0 rfl (lv_at hl 0 rfl) ?_
  refine ql_getR C S qf_12_0 gw_348 dX11_inForceOn_1 w (fun r1 w => ?_)
  refine lv_iload_n C.1.1 C.1.2.1 dX11_inForceOn_4 rfl (lv_at hl 1 rfl) ?_
  refine ql_VI (As := [.int xp1]) (rest := []) C S htab hlocks hl qy_X1_countHoldingOn qi_X1_countHoldingOn qs_X1_countHoldingOn gw_641 (ci := 4) rfl w (fun b w => qm_X1_countHoldingOn l hl9 D _ b xp1 _ _ w) rfl ⟨Nat.le_of_ble_eq_true rfl, Nat.le_of_ble_eq_true rfl⟩ ⟨rfl, rfl⟩ (by exact Nat.le_of_ble_eq_true rfl) (fun b e9 => by cases e9; rfl) dX11_inForceOn_5 ⟨Nat.le_of_ble_eq_true rfl, Nat.le_of_ble_eq_true rfl⟩ ⟨Nat.le_of_ble_eq_true rfl, Nat.le_of_ble_eq_true rfl⟩ (fun x2 h H locs S w => ?_)
  refine W.cs (cells' := 0) (slots' := 0) rfl rfl ?_
  exact ql_iret C S hr hlocks dX11_inForceOn_8 ⟨Nat.le_of_ble_eq_true rfl, Nat.le_of_ble_eq_true rfl⟩ w
def qw_X11_daysUntilLapsed (a0 : Nat) (xp1 : Int32) (h : ql_H) (Q : Int32 → ql_H → Prop) (X : String → ql_H → Prop) : Prop :=
ql_rv h (some a0) 12 fun b1 => qw_X11_clauseWithSunset b1 xp1 h (fun r1 h =>
ql_gR h (some a0) 12 0 fun r3 =>
ql_gI h r3 4 2 fun x4 =>
ql_rv h r1 6 fun b5 => qw_X3_lapsedBy b5 x4 h (fun x5 h =>
if x5 = 0 then (ql_gI h r1 6 4 fun x7 =>
ql_gR h (some a0) 12 0 fun r8 =>
ql_gI h r8 4 2 fun x9 =>
Q ((x7 - x9) + (1 : Int32)) h) else (Q (0 : Int32) h))) X
set_option maxHeartbeats 4000000 in
set_option maxRecDepth 100000 in
theorem qm_X11_daysUntilLapsed (l : Launch) (hl9 : l.stackTraces = false) (D : ql_D) (h0 : ql_H) (a0 : Nat) (xp1 : Int32) (Q : Int32 → ql_H → Prop) (X : String → ql_H → Prop) (w : qw_X11_daysUntilLapsed a0 xp1 h0 Q X) : ql_M D l yX11_daysUntilLapsed cX11_daysUntilLapsed 3 (some .int) ({ frames := 14, cells := 2, slots := 12, locals := 188 } : Room) h0 [.ref a0, .int xp1] (ql_rI Q) X 2 12 := by
  refine ql_ofW (by decide) (Nat.le_of_ble_eq_true rfl) ?_
  intro p e s m below meth c ls C hr hlocks hnm htab S hl
  have hl : lv_has ls 3 [(0, .ref a0), (1, .int xp1)] := hl
  unfold qw_X11_daysUntilLapsed at w
  refine ql_aload_n (r := (some a0)) C dX11_daysUntilLapsed_0 rfl (lv_at hl 0 rfl) ?_
  refine lv_iload_n C.1.1 C.1.2.1 dX11_daysUntilLapsed_1 rfl (lv_at hl 1 rfl) ?_
  refine ql_VR (As := [.int xp1]) (rest := []) C S htab hlocks hl qy_X11_clauseWithSunset qi_X11_clauseWithSunset qs_X11_clauseWithSunset gw_1014 (ci := 12) rfl w (fun b w => qm_X11_clauseWithSunset l hl9 D _ b xp1 _ _ w) rfl ⟨Nat.le_of_ble_eq_true rfl, Nat.le_of_ble_eq_true rfl⟩ ⟨rfl, rfl⟩ (by exact Nat.le_of_ble_eq_true rfl) (fun b e9 => by cases e9; rfl) dX11_daysUntilLapsed_2 ⟨Nat.le_of_ble_eq_true rfl, Nat.le_of_ble_eq_true rfl⟩ ⟨Nat.le_of_ble_eq_true rfl, Nat.le_of_ble_eq_true rfl⟩ (fun r1 h H locs S w => ?_)
  refine W.cs (cells' := 2) (slots' := 12) rfl rfl ?_
  refine ql_astore_n (lv' := [(2, va_rf r1), (0, .ref a0), (1, .int xp1)]) C dX11_daysUntilLapsed_5 rfl hl (by decide) rfl (fun ls hl => ?_)
  refine ql_aload_n (r := r1) C dX11_daysUntilLapsed_6 rfl (lv_at hl 0 rfl) ?_
  refine ql_aload_n (r := (some a0)) C dX11_daysUntilLapsed_7 rfl (lv_at hl 1 rfl) ?_
  refine ql_getR C S qf_12_0 gw_348 dX11_daysUntilLapsed_8 w (fun r3 w => ?_)
  refine ql_getIN C S qf_4_2 (qn_RX11_136) dX11_daysUntilLapsed_11 w (fun x4 w => ?_)
  refine ql_VI (As := [.int x4]) (rest := []) C S htab hlocks hl qy_X3_lapsedBy qi_X3_lapsedBy qs_X3_lapsedBy gw_1034 (ci := 6) rfl w (fun b w => qm_X3_lapsedBy l hl9 D _ b x4 _ _ w) rfl ⟨Nat.le_of_ble_eq_true rfl, Nat.le_of_ble_eq_true rfl⟩ ⟨rfl, rfl⟩ (by exact Nat.le_of_ble_eq_true rfl) (fun b e9 => by cases e9; rfl) dX11_daysUntilLapsed_14 ⟨Nat.le_of_ble_eq_true rfl, Nat.le_of_ble_eq_true rfl⟩ ⟨Nat.le_of_ble_eq_true rfl, Nat.le_of_ble_eq_true rfl⟩ (fun x5 h H locs S w => ?_)
  refine W.cs (cells' := 2) (slots' := 12) rfl rfl ?_
  refine lv_if_eq (tgt := 24) C.1.1 C.1.2.1 dX11_daysUntilLapsed_17 (by decide) (fun c9 => ?_) (fun c9 => ?_)
  · replace w := ql_if w c9
    refine ql_aload_n (r := r1) C dX11_daysUntilLapsed_24 rfl (lv_at hl 0 rfl) ?_
    refine ql_getIN C S qf_6_4 (qn_RX11_170) dX11_daysUntilLapsed_25 w (fun x7 w => ?_)
    refine ql_aload_n (r := (some a0)) C dX11_daysUntilLapsed_28 rfl (lv_at hl 1 rfl) ?_
    refine ql_getR C S qf_12_0 gw_348 dX11_daysUntilLapsed_29 w (fun r8 w => ?_)
    refine ql_getIN C S qf_4_2 (qn_RX11_136) dX11_daysUntilLapsed_32 w (fun x9 w => ?_)
    refine lv_isub C.1.1 C.1.2.1 dX11_daysUntilLapsed_35 ?_
    refine lv_iconst (v := (1 : Int32)) C.1.1 C.1.2.1 dX11_daysUntilLapsed_36 (by decide) ?_
    refine lv_iadd C.1.1 C.1.2.1 dX11_daysUntilLapsed_37 ?_
    exact ql_iret C S hr hlocks dX11_daysUntilLapsed_38 ⟨Nat.le_of_ble_eq_true rfl, Nat.le_of_ble_eq_true rfl⟩ w
  · replace w := ql_ifn w c9
    refine lv_iconst (v := (0 : Int32)) C.1.1 C.1.2.1 dX11_daysUntilLapsed_20 (by decide) ?_
    refine lv_goto (tgt := 38) C.1.1 C.1.2.1 dX11_daysUntilLapsed_21 (by decide) ?_
    exact ql_iret C S hr hlocks dX11_daysUntilLapsed_38 ⟨Nat.le_of_ble_eq_true rfl, Nat.le_of_ble_eq_true rfl⟩ w
def qw_X11_length (a0 : Nat) (xp1 : Int32) (h : ql_H) (Q : Int32 → ql_H → Prop) (X : String → ql_H → Prop) : Prop :=
ql_rv h (some a0) 12 fun b1 => qw_X11_clauseOf b1 xp1 h (fun r1 h =>
ql_rv h r1 6 fun b3 => qw_X3_latestText b3  h (fun j3 h =>
qw_X9_lengthOf j3 h (fun x5 h =>
Q x5 h))) X
set_option maxHeartbeats 4000000 in
set_option maxRecDepth 100000 in
theorem qm_X11_length (l : Launch) (hl9 : l.stackTraces = false) (D : ql_D) (h0 : ql_H) (a0 : Nat) (xp1 : Int32) (Q : Int32 → ql_H → Prop) (X : String → ql_H → Prop) (w : qw_X11_length a0 xp1 h0 Q X) : ql_M D l yX11_length cX11_length 2 (some .int) ({ frames := 12, cells := 1, slots := 6, locals := 158 } : Room) h0 [.ref a0, .int xp1] (ql_rI Q) X 1 6 := by
  refine ql_ofW (by decide) (Nat.le_of_ble_eq_true rfl) ?_
  intro p e s m below meth c ls C hr hlocks hnm htab S hl
  have hl : lv_has ls 2 [(0, .ref a0), (1, .int xp1)] := hl
  unfold qw_X11_length at w
  refine ql_aload_n (r := (some a0)) C dX11_length_0 rfl (lv_at hl 0 rfl) ?_
  refine lv_iload_n C.1.1 C.1.2.1 dX11_length_1 rfl (lv_at hl 1 rfl) ?_
  refine ql_VR (As := [.int xp1]) (rest := []) C S htab hlocks hl qy_X11_clauseOf qi_X11_clauseOf qs_X11_clauseOf gw_995 (ci := 12) rfl w (fun b w => qm_X11_clauseOf l hl9 D _ b xp1 _ _ w) rfl ⟨Nat.le_of_ble_eq_true rfl, Nat.le_of_ble_eq_true rfl⟩ ⟨rfl, rfl⟩ (by exact Nat.le_of_ble_eq_true rfl) (fun b e9 => by cases e9; rfl) dX11_length_2 ⟨Nat.le_of_ble_eq_true rfl, Nat.le_of_ble_eq_true rfl⟩ ⟨Nat.le_of_ble_eq_true rfl, Nat.le_of_ble_eq_true rfl⟩ (fun r1 h H locs S w => ?_)
  refine W.cs (cells' := 1) (slots' := 6) rfl rfl ?_
  refine ql_VJ (As := []) (rest := []) C S htab hlocks hl qy_X3_latestText qi_X3_latestText qs_X3_latestText gw_657 (ci := 6) rfl w (fun b w => qm_X3_latestText l hl9 D _ b _ _ w) rfl ⟨Nat.le_of_ble_eq_true rfl, Nat.le_of_ble_eq_true rfl⟩ ⟨rfl, rfl⟩ (by exact Nat.le_of_ble_eq_true rfl) (fun b e9 => by cases e9; rfl) dX11_length_5 ⟨Nat.le_of_ble_eq_true rfl, Nat.le_of_ble_eq_true rfl⟩ ⟨Nat.le_of_ble_eq_true rfl, Nat.le_of_ble_eq_true rfl⟩ (fun j3 h H locs S w => ?_)
  refine W.cs (cells' := 1) (slots' := 6) rfl rfl ?_
  refine ql_SI (As := [.long j3]) (rest := []) C S htab hlocks hl qy_X9_lengthOf qi_X9_lengthOf gw_1049 (qm_X9_lengthOf l hl9 D _ j3 _ _ w) rfl ⟨Nat.le_of_ble_eq_true rfl, Nat.le_of_ble_eq_true rfl⟩ ⟨rfl, rfl⟩ (by exact Nat.le_of_ble_eq_true rfl) rfl dX11_length_8 ⟨Nat.le_of_ble_eq_true rfl, Nat.le_of_ble_eq_true rfl⟩ ⟨Nat.le_of_ble_eq_true rfl, Nat.le_of_ble_eq_true rfl⟩ (fun x5 h H locs S w => ?_)
  refine W.cs (cells' := 1) (slots' := 6) rfl rfl ?_
  exact ql_iret C S hr hlocks dX11_length_11 ⟨Nat.le_of_ble_eq_true rfl, Nat.le_of_ble_eq_true rfl⟩ w
def qw_X11_noteOfText (jp0 : Int64) (xp2 : Int32) (h : ql_H) (Q : Int32 → ql_H → Prop) (X : String → ql_H → Prop) : Prop :=
if xp2 < 0 then (∀ n9 : Nat, h.1 ≤ n9 → X "java/lang/IndexOutOfBoundsException" (n9, h.2)) else (qw_X9_lengthOf jp0 h (fun x1 h =>
if xp2 < x1 then (qw_X9_noteOf jp0 xp2 h (fun x2 h =>
ql_nz .char x2 ∧ Q x2 h)) else (∀ n9 : Nat, h.1 ≤ n9 → X "java/lang/IndexOutOfBoundsException" (n9, h.2))))
set_option maxHeartbeats 4000000 in
set_option maxRecDepth 100000 in
theorem qm_X11_noteOfText (l : Launch) (hl9 : l.stackTraces = false) (D : ql_D) (h0 : ql_H) (jp0 : Int64) (xp2 : Int32) (Q : Int32 → ql_H → Prop) (X : String → ql_H → Prop) (w : qw_X11_noteOfText jp0 xp2 h0 Q X) : ql_M D l yX11_noteOfText cX11_noteOfText 3 (some .char) ({ frames := 8, cells := 1, slots := 6, locals := 108 } : Room) h0 [.long jp0, .int xp2] (ql_rI Q) X 1 6 := by
  refine ql_ofW (by decide) (Nat.le_of_ble_eq_true rfl) ?_
  intro p e s m below meth c ls C hr hlocks hnm htab S hl
  have hl : lv_has ls 3 [(0, .long jp0), (2, .int xp2)] := hl
  unfold qw_X11_noteOfText at w
  refine lv_iload_n C.1.1 C.1.2.1 dX11_noteOfText_0 rfl (lv_at hl 1 rfl) ?_
  refine lv_if_lt (tgt := 12) C.1.1 C.1.2.1 dX11_noteOfText_1 (by decide) (fun c9 => ?_) (fun c9 => ?_)
  · replace w := ql_if w c9
    exact ql_throw trivial C S qx_RX11_126 gw_557 gw_93 hl htab hlocks hl9 dX11_noteOfText_12 dX11_noteOfText_15 dX11_noteOfText_16 dX11_noteOfText_19 ⟨Nat.le_of_ble_eq_true rfl, Nat.le_of_ble_eq_true rfl, Nat.le_of_ble_eq_true rfl⟩ (by exact Nat.le_of_ble_eq_true rfl) ⟨Nat.le_of_ble_eq_true rfl, Nat.le_of_ble_eq_true rfl⟩ w
  · replace w := ql_ifn w c9
    refine lv_iload_n C.1.1 C.1.2.1 dX11_noteOfText_4 rfl (lv_at hl 1 rfl) ?_
    refine lv_lload_n C.1.1 C.1.2.1 dX11_noteOfText_5 rfl (lv_at hl 0 rfl) ?_
    refine ql_SI (As := [.long jp0]) (rest := [.int xp2]) C S htab hlocks hl qy_X9_lengthOf qi_X9_lengthOf gw_1049 (qm_X9_lengthOf l hl9 D _ jp0 _ _ w) rfl ⟨Nat.le_of_ble_eq_true rfl, Nat.le_of_ble_eq_true rfl⟩ ⟨rfl, rfl⟩ (by exact Nat.le_of_ble_eq_true rfl) rfl dX11_noteOfText_6 ⟨Nat.le_of_ble_eq_true rfl, Nat.le_of_ble_eq_true rfl⟩ ⟨Nat.le_of_ble_eq_true rfl, Nat.le_of_ble_eq_true rfl⟩ (fun x1 h H locs S w => ?_)
    refine W.cs (cells' := 0) (slots' := 0) rfl rfl ?_
    refine lv_icmp_lt (tgt := 20) C.1.1 C.1.2.1 dX11_noteOfText_9 (by decide) (fun c9 => ?_) (fun c9 => ?_)
    · replace w := ql_if w c9
      refine lv_lload_n C.1.1 C.1.2.1 dX11_noteOfText_20 rfl (lv_at hl 0 rfl) ?_
      refine lv_iload_n C.1.1 C.1.2.1 dX11_noteOfText_21 rfl (lv_at hl 1 rfl) ?_
      refine ql_SI (As := [.long jp0, .int xp2]) (rest := []) C S htab hlocks hl qy_X9_noteOf qi_X9_noteOf gw_1060 (qm_X9_noteOf l hl9 D _ jp0 xp2 _ _ w) rfl ⟨Nat.le_of_ble_eq_true rfl, Nat.le_of_ble_eq_true rfl⟩ ⟨rfl, rfl⟩ (by exact Nat.le_of_ble_eq_true rfl) rfl dX11_noteOfText_22 ⟨Nat.le_of_ble_eq_true rfl, Nat.le_of_ble_eq_true rfl⟩ ⟨Nat.le_of_ble_eq_true rfl, Nat.le_of_ble_eq_true rfl⟩ (fun x2 h H locs S w => ?_)
      refine W.cs (cells' := 0) (slots' := 0) rfl rfl ?_
      exact ql_zret C S hr hlocks dX11_noteOfText_25 ⟨Nat.le_of_ble_eq_true rfl, Nat.le_of_ble_eq_true rfl⟩ w
    · replace w := ql_ifn w c9
      exact ql_throw trivial C S qx_RX11_126 gw_557 gw_93 hl htab hlocks hl9 dX11_noteOfText_12 dX11_noteOfText_15 dX11_noteOfText_16 dX11_noteOfText_19 ⟨Nat.le_of_ble_eq_true rfl, Nat.le_of_ble_eq_true rfl, Nat.le_of_ble_eq_true rfl⟩ (by exact Nat.le_of_ble_eq_true rfl) ⟨Nat.le_of_ble_eq_true rfl, Nat.le_of_ble_eq_true rfl⟩ w
def qw_X11_noteAt (a0 : Nat) (xp1 : Int32) (xp2 : Int32) (h : ql_H) (Q : Int32 → ql_H → Prop) (X : String → ql_H → Prop) : Prop :=
ql_rv h (some a0) 12 fun b1 => qw_X11_clauseOf b1 xp1 h (fun r1 h =>
ql_rv h r1 6 fun b3 => qw_X3_latestText b3  h (fun j3 h =>
qw_X11_noteOfText j3 xp2 h (fun x5 h =>
ql_nz .char x5 ∧ Q x5 h) X)) X
set_option maxHeartbeats 4000000 in
set_option maxRecDepth 100000 in
theorem qm_X11_noteAt (l : Launch) (hl9 : l.stackTraces = false) (D : ql_D) (h0 : ql_H) (a0 : Nat) (xp1 : Int32) (xp2 : Int32) (Q : Int32 → ql_H → Prop) (X : String → ql_H → Prop) (w : qw_X11_noteAt a0 xp1 xp2 h0 Q X) : ql_M D l yX11_noteAt cX11_noteAt 3 (some .char) ({ frames := 12, cells := 2, slots := 12, locals := 158 } : Room) h0 [.ref a0, .int xp1, .int xp2] (ql_rI Q) X 2 12 := by
  refine ql_ofW (by decide) (Nat.le_of_ble_eq_true rfl) ?_
  intro p e s m below meth c ls C hr hlocks hnm htab S hl
  have hl : lv_has ls 3 [(0, .ref a0), (1, .int xp1), (2, .int xp2)] := hl
  unfold qw_X11_noteAt at w
  refine ql_aload_n (r := (some a0)) C dX11_noteAt_0 rfl (lv_at hl 0 rfl) ?_
  refine lv_iload_n C.1.1 C.1.2.1 dX11_noteAt_1 rfl (lv_at hl 1 rfl) ?_
  refine ql_VR (As := [.int xp1]) (rest := []) C S htab hlocks hl qy_X11_clauseOf qi_X11_clauseOf qs_X11_clauseOf gw_995 (ci := 12) rfl w (fun b w => qm_X11_clauseOf l hl9 D _ b xp1 _ _ w) rfl ⟨Nat.le_of_ble_eq_true rfl, Nat.le_of_ble_eq_true rfl⟩ ⟨rfl, rfl⟩ (by exact Nat.le_of_ble_eq_true rfl) (fun b e9 => by cases e9; rfl) dX11_noteAt_2 ⟨Nat.le_of_ble_eq_true rfl, Nat.le_of_ble_eq_true rfl⟩ ⟨Nat.le_of_ble_eq_true rfl, Nat.le_of_ble_eq_true rfl⟩ (fun r1 h H locs S w => ?_)
  refine W.cs (cells' := 1) (slots' := 6) rfl rfl ?_
  refine ql_VJ (As := []) (rest := []) C S htab hlocks hl qy_X3_latestText qi_X3_latestText qs_X3_latestText gw_657 (ci := 6) rfl w (fun b w => qm_X3_latestText l hl9 D _ b _ _ w) rfl ⟨Nat.le_of_ble_eq_true rfl, Nat.le_of_ble_eq_true rfl⟩ ⟨rfl, rfl⟩ (by exact Nat.le_of_ble_eq_true rfl) (fun b e9 => by cases e9; rfl) dX11_noteAt_5 ⟨Nat.le_of_ble_eq_true rfl, Nat.le_of_ble_eq_true rfl⟩ ⟨Nat.le_of_ble_eq_true rfl, Nat.le_of_ble_eq_true rfl⟩ (fun j3 h H locs S w => ?_)
  refine W.cs (cells' := 1) (slots' := 6) rfl rfl ?_
  refine lv_iload_n C.1.1 C.1.2.1 dX11_noteAt_8 rfl (lv_at hl 2 rfl) ?_
  refine ql_SI (As := [.long j3, .int xp2]) (rest := []) C S htab hlocks hl qy_X11_noteOfText qi_X11_noteOfText gw_1057 (qm_X11_noteOfText l hl9 D _ j3 xp2 _ _ w) rfl ⟨Nat.le_of_ble_eq_true rfl, Nat.le_of_ble_eq_true rfl⟩ ⟨rfl, rfl⟩ (by exact Nat.le_of_ble_eq_true rfl) rfl dX11_noteAt_9 ⟨Nat.le_of_ble_eq_true rfl, Nat.le_of_ble_eq_true rfl⟩ ⟨Nat.le_of_ble_eq_true rfl, Nat.le_of_ble_eq_true rfl⟩ (fun x5 h H locs S w => ?_)
  refine W.cs (cells' := 2) (slots' := 12) rfl rfl ?_
  exact ql_zret C S hr hlocks dX11_noteAt_12 ⟨Nat.le_of_ble_eq_true rfl, Nat.le_of_ble_eq_true rfl⟩ w
def qw_X11_versionCount (a0 : Nat) (xp1 : Int32) (h : ql_H) (Q : Int32 → ql_H → Prop) (X : String → ql_H → Prop) : Prop :=
ql_rv h (some a0) 12 fun b1 => qw_X11_clauseOf b1 xp1 h (fun r1 h =>
ql_rv h r1 6 fun b3 => qw_X3_countVersions b3  h (fun x3 h =>
Q x3 h)) X
set_option maxHeartbeats 4000000 in
set_option maxRecDepth 100000 in
theorem qm_X11_versionCount (l : Launch) (hl9 : l.stackTraces = false) (D : ql_D) (h0 : ql_H) (a0 : Nat) (xp1 : Int32) (Q : Int32 → ql_H → Prop) (X : String → ql_H → Prop) (w : qw_X11_versionCount a0 xp1 h0 Q X) : ql_M D l yX11_versionCount cX11_versionCount 2 (some .int) ({ frames := 12, cells := 1, slots := 6, locals := 158 } : Room) h0 [.ref a0, .int xp1] (ql_rI Q) X 1 6 := by
  refine ql_ofW (by decide) (Nat.le_of_ble_eq_true rfl) ?_
  intro p e s m below meth c ls C hr hlocks hnm htab S hl
  have hl : lv_has ls 2 [(0, .ref a0), (1, .int xp1)] := hl
  unfold qw_X11_versionCount at w
  refine ql_aload_n (r := (some a0)) C dX11_versionCount_0 rfl (lv_at hl 0 rfl) ?_
  refine lv_iload_n C.1.1 C.1.2.1 dX11_versionCount_1 rfl (lv_at hl 1 rfl) ?_
  refine ql_VR (As := [.int xp1]) (rest := []) C S htab hlocks hl qy_X11_clauseOf qi_X11_clauseOf qs_X11_clauseOf gw_995 (ci := 12) rfl w (fun b w => qm_X11_clauseOf l hl9 D _ b xp1 _ _ w) rfl ⟨Nat.le_of_ble_eq_true rfl, Nat.le_of_ble_eq_true rfl⟩ ⟨rfl, rfl⟩ (by exact Nat.le_of_ble_eq_true rfl) (fun b e9 => by cases e9; rfl) dX11_versionCount_2 ⟨Nat.le_of_ble_eq_true rfl, Nat.le_of_ble_eq_true rfl⟩ ⟨Nat.le_of_ble_eq_true rfl, Nat.le_of_ble_eq_true rfl⟩ (fun r1 h H locs S w => ?_)
  refine W.cs (cells' := 1) (slots' := 6) rfl rfl ?_
  refine ql_VI (As := []) (rest := []) C S htab hlocks hl qy_X3_countVersions qi_X3_countVersions qs_X3_countVersions gw_1068 (ci := 6) rfl w (fun b w => qm_X3_countVersions l hl9 D _ b _ _ w) rfl ⟨Nat.le_of_ble_eq_true rfl, Nat.le_of_ble_eq_true rfl⟩ ⟨rfl, rfl⟩ (by exact Nat.le_of_ble_eq_true rfl) (fun b e9 => by cases e9; rfl) dX11_versionCount_5 ⟨Nat.le_of_ble_eq_true rfl, Nat.le_of_ble_eq_true rfl⟩ ⟨Nat.le_of_ble_eq_true rfl, Nat.le_of_ble_eq_true rfl⟩ (fun x3 h H locs S w => ?_)
  refine W.cs (cells' := 1) (slots' := 6) rfl rfl ?_
  exact ql_iret C S hr hlocks dX11_versionCount_8 ⟨Nat.le_of_ble_eq_true rfl, Nat.le_of_ble_eq_true rfl⟩ w
def qw_X11_textOn (rp0 : Option Nat) (xp1 : Int32) (h : ql_H) (Q : Int64 → ql_H → Prop) (X : String → ql_H → Prop) : Prop :=
ql_rv h rp0 6 fun b1 => qw_X3_textOnDay b1 xp1 h (fun j1 h =>
if (lg_cmp j1 (0 : Int64)) = 0 then (∀ n9 : Nat, h.1 ≤ n9 → X "java/util/NoSuchElementException" (n9, h.2)) else (Q j1 h))
set_option maxHeartbeats 4000000 in
set_option maxRecDepth 100000 in
theorem qm_X11_textOn (l : Launch) (hl9 : l.stackTraces = false) (D : ql_D) (h0 : ql_H) (rp0 : Option Nat) (xp1 : Int32) (Q : Int64 → ql_H → Prop) (X : String → ql_H → Prop) (w : qw_X11_textOn rp0 xp1 h0 Q X) : ql_M D l yX11_textOn cX11_textOn 4 (some .long) ({ frames := 8, cells := 1, slots := 6, locals := 110 } : Room) h0 [va_rf rp0, .int xp1] (ql_rJ Q) X 1 6 := by
  refine ql_ofW (by decide) (by cases rp0 <;> exact Nat.le_of_ble_eq_true rfl) ?_
  intro p e s m below meth c ls C hr hlocks hnm htab S hl
  rw [show lv_args 0 [va_rf rp0, .int xp1] = [(0, va_rf rp0), (1, .int xp1)] from by cases rp0 <;> rfl] at hl
  unfold qw_X11_textOn at w
  refine ql_aload_n (r := rp0) C dX11_textOn_0 rfl (lv_at hl 0 rfl) ?_
  refine lv_iload_n C.1.1 C.1.2.1 dX11_textOn_1 rfl (lv_at hl 1 rfl) ?_
  refine ql_VJ (As := [.int xp1]) (rest := []) C S htab hlocks hl qy_X3_textOnDay qi_X3_textOnDay qs_X3_textOnDay gw_710 (ci := 6) rfl w (fun b w => qm_X3_textOnDay l hl9 D _ b xp1 _ _ w) rfl ⟨Nat.le_of_ble_eq_true rfl, Nat.le_of_ble_eq_true rfl⟩ ⟨rfl, rfl⟩ (by exact Nat.le_of_ble_eq_true rfl) (fun b e9 => by cases e9; rfl) dX11_textOn_2 ⟨Nat.le_of_ble_eq_true rfl, Nat.le_of_ble_eq_true rfl⟩ ⟨Nat.le_of_ble_eq_true rfl, Nat.le_of_ble_eq_true rfl⟩ (fun j1 h H locs S w => ?_)
  refine W.cs (cells' := 0) (slots' := 0) rfl rfl ?_
  refine lv_lstore_n (lv' := [(2, .long j1), (0, va_rf rp0), (1, .int xp1)]) C.1.1 C.1.2.1 dX11_textOn_5 rfl hl (by decide) rfl (fun ls hl => ?_)
  refine lv_lload_n C.1.1 C.1.2.1 dX11_textOn_6 rfl (lv_at hl 0 rfl) ?_
  refine lv_lconst (v := (0 : Int64)) C.1.1 C.1.2.1 dX11_textOn_7 (by decide) ?_
  refine W.lcmp C.1.1 C.1.2.1 dX11_textOn_8 ?_
  refine lv_if_ne (tgt := 20) C.1.1 C.1.2.1 dX11_textOn_9 (by decide) (fun c9 => ?_) (fun c9 => ?_)
  · replace w := ql_ifn w c9
    refine lv_lload_n C.1.1 C.1.2.1 dX11_textOn_20 rfl (lv_at hl 0 rfl) ?_
    exact ql_lret C S hr hlocks dX11_textOn_21 ⟨Nat.le_of_ble_eq_true rfl, Nat.le_of_ble_eq_true rfl⟩ w
  · replace w := ql_if w c9
    exact ql_throw trivial C S qx_RX11_123 gw_488 gw_92 hl htab hlocks hl9 dX11_textOn_12 dX11_textOn_15 dX11_textOn_16 dX11_textOn_19 ⟨Nat.le_of_ble_eq_true rfl, Nat.le_of_ble_eq_true rfl, Nat.le_of_ble_eq_true rfl⟩ (by exact Nat.le_of_ble_eq_true rfl) ⟨Nat.le_of_ble_eq_true rfl, Nat.le_of_ble_eq_true rfl⟩ w
def qw_X11_lengthOn (a0 : Nat) (xp1 : Int32) (xp2 : Int32) (h : ql_H) (Q : Int32 → ql_H → Prop) (X : String → ql_H → Prop) : Prop :=
ql_rv h (some a0) 12 fun b1 => qw_X11_clauseOf b1 xp1 h (fun r1 h =>
qw_X11_textOn r1 xp2 h (fun j3 h =>
qw_X9_lengthOf j3 h (fun x4 h =>
Q x4 h)) X) X
set_option maxHeartbeats 4000000 in
set_option maxRecDepth 100000 in
theorem qm_X11_lengthOn (l : Launch) (hl9 : l.stackTraces = false) (D : ql_D) (h0 : ql_H) (a0 : Nat) (xp1 : Int32) (xp2 : Int32) (Q : Int32 → ql_H → Prop) (X : String → ql_H → Prop) (w : qw_X11_lengthOn a0 xp1 xp2 h0 Q X) : ql_M D l yX11_lengthOn cX11_lengthOn 3 (some .int) ({ frames := 12, cells := 2, slots := 12, locals := 158 } : Room) h0 [.ref a0, .int xp1, .int xp2] (ql_rI Q) X 2 12 := by
  refine ql_ofW (by decide) (Nat.le_of_ble_eq_true rfl) ?_
  intro p e s m below meth c ls C hr hlocks hnm htab S hl
  have hl : lv_has ls 3 [(0, .ref a0), (1, .int xp1), (2, .int xp2)] := hl
  unfold qw_X11_lengthOn at w
  refine ql_aload_n (r := (some a0)) C dX11_lengthOn_0 rfl (lv_at hl 0 rfl) ?_
  refine lv_iload_n C.1.1 C.1.2.1 dX11_lengthOn_1 rfl (lv_at hl 1 rfl) ?_
  refine ql_VR (As := [.int xp1]) (rest := []) C S htab hlocks hl qy_X11_clauseOf qi_X11_clauseOf qs_X11_clauseOf gw_995 (ci := 12) rfl w (fun b w => qm_X11_clauseOf l hl9 D _ b xp1 _ _ w) rfl ⟨Nat.le_of_ble_eq_true rfl, Nat.le_of_ble_eq_true rfl⟩ ⟨rfl, rfl⟩ (by exact Nat.le_of_ble_eq_true rfl) (fun b e9 => by cases e9; rfl) dX11_lengthOn_2 ⟨Nat.le_of_ble_eq_true rfl, Nat.le_of_ble_eq_true rfl⟩ ⟨Nat.le_of_ble_eq_true rfl, Nat.le_of_ble_eq_true rfl⟩ (fun r1 h H locs S w => ?_)
  refine W.cs (cells' := 1) (slots' := 6) rfl rfl ?_
  refine lv_iload_n C.1.1 C.1.2.1 dX11_lengthOn_5 rfl (lv_at hl 2 rfl) ?_
  refine ql_SJ (As := [va_rf r1, .int xp2]) (rest := []) C S htab hlocks hl qy_X11_textOn qi_X11_textOn gw_1076 (qm_X11_textOn l hl9 D _ r1 xp2 _ _ w) rfl ⟨Nat.le_of_ble_eq_true rfl, Nat.le_of_ble_eq_true rfl⟩ ⟨rfl, rfl⟩ (by exact Nat.le_of_ble_eq_true rfl) rfl dX11_lengthOn_6 ⟨Nat.le_of_ble_eq_true rfl, Nat.le_of_ble_eq_true rfl⟩ ⟨Nat.le_of_ble_eq_true rfl, Nat.le_of_ble_eq_true rfl⟩ (fun j3 h H locs S w => ?_)
  refine W.cs (cells' := 2) (slots' := 12) rfl rfl ?_
  refine ql_SI (As := [.long j3]) (rest := []) C S htab hlocks hl qy_X9_lengthOf qi_X9_lengthOf gw_1049 (qm_X9_lengthOf l hl9 D _ j3 _ _ w) rfl ⟨Nat.le_of_ble_eq_true rfl, Nat.le_of_ble_eq_true rfl⟩ ⟨rfl, rfl⟩ (by exact Nat.le_of_ble_eq_true rfl) rfl dX11_lengthOn_9 ⟨Nat.le_of_ble_eq_true rfl, Nat.le_of_ble_eq_true rfl⟩ ⟨Nat.le_of_ble_eq_true rfl, Nat.le_of_ble_eq_true rfl⟩ (fun x4 h H locs S w => ?_)
  refine W.cs (cells' := 2) (slots' := 12) rfl rfl ?_
  exact ql_iret C S hr hlocks dX11_lengthOn_12 ⟨Nat.le_of_ble_eq_true rfl, Nat.le_of_ble_eq_true rfl⟩ w
def qw_X11_noteOn (a0 : Nat) (xp1 : Int32) (xp2 : Int32) (xp3 : Int32) (h : ql_H) (Q : Int32 → ql_H → Prop) (X : String → ql_H → Prop) : Prop :=
ql_rv h (some a0) 12 fun b1 => qw_X11_clauseOf b1 xp1 h (fun r1 h =>
qw_X11_textOn r1 xp2 h (fun j3 h =>
qw_X11_noteOfText j3 xp3 h (fun x4 h =>
ql_nz .char x4 ∧ Q x4 h) X) X) X
set_option maxHeartbeats 4000000 in
set_option maxRecDepth 100000 in
theorem qm_X11_noteOn (l : Launch) (hl9 : l.stackTraces = false) (D : ql_D) (h0 : ql_H) (a0 : Nat) (xp1 : Int32) (xp2 : Int32) (xp3 : Int32) (Q : Int32 → ql_H → Prop) (X : String → ql_H → Prop) (w : qw_X11_noteOn a0 xp1 xp2 xp3 h0 Q X) : ql_M D l yX11_noteOn cX11_noteOn 4 (some .char) ({ frames := 12, cells := 3, slots := 18, locals := 158 } : Room) h0 [.ref a0, .int xp1, .int xp2, .int xp3] (ql_rI Q) X 3 18 := by
  refine ql_ofW (by decide) (Nat.le_of_ble_eq_true rfl) ?_
  intro p e s m below meth c ls C hr hlocks hnm htab S hl
  have hl : lv_has ls 4 [(0, .ref a0), (1, .int xp1), (2, .int xp2), (3, .int xp3)] := hl
  unfold qw_X11_noteOn at w
  refine ql_aload_n (r := (some a0)) C dX11_noteOn_0 rfl (lv_at hl 0 rfl) ?_
  refine lv_iload_n C.1.1 C.1.2.1 dX11_noteOn_1 rfl (lv_at hl 1 rfl) ?_
  refine ql_VR (As := [.int xp1]) (rest := []) C S htab hlocks hl qy_X11_clauseOf qi_X11_clauseOf qs_X11_clauseOf gw_995 (ci := 12) rfl w (fun b w => qm_X11_clauseOf l hl9 D _ b xp1 _ _ w) rfl ⟨Nat.le_of_ble_eq_true rfl, Nat.le_of_ble_eq_true rfl⟩ ⟨rfl, rfl⟩ (by exact Nat.le_of_ble_eq_true rfl) (fun b e9 => by cases e9; rfl) dX11_noteOn_2 ⟨Nat.le_of_ble_eq_true rfl, Nat.le_of_ble_eq_true rfl⟩ ⟨Nat.le_of_ble_eq_true rfl, Nat.le_of_ble_eq_true rfl⟩ (fun r1 h H locs S w => ?_)
  refine W.cs (cells' := 1) (slots' := 6) rfl rfl ?_
  refine lv_iload_n C.1.1 C.1.2.1 dX11_noteOn_5 rfl (lv_at hl 2 rfl) ?_
  refine ql_SJ (As := [va_rf r1, .int xp2]) (rest := []) C S htab hlocks hl qy_X11_textOn qi_X11_textOn gw_1076 (qm_X11_textOn l hl9 D _ r1 xp2 _ _ w) rfl ⟨Nat.le_of_ble_eq_true rfl, Nat.le_of_ble_eq_true rfl⟩ ⟨rfl, rfl⟩ (by exact Nat.le_of_ble_eq_true rfl) rfl dX11_noteOn_6 ⟨Nat.le_of_ble_eq_true rfl, Nat.le_of_ble_eq_true rfl⟩ ⟨Nat.le_of_ble_eq_true rfl, Nat.le_of_ble_eq_true rfl⟩ (fun j3 h H locs S w => ?_)
  refine W.cs (cells' := 2) (slots' := 12) rfl rfl ?_
  refine lv_iload_n C.1.1 C.1.2.1 dX11_noteOn_9 rfl (lv_at hl 3 rfl) ?_
  refine ql_SI (As := [.long j3, .int xp3]) (rest := []) C S htab hlocks hl qy_X11_noteOfText qi_X11_noteOfText gw_1057 (qm_X11_noteOfText l hl9 D _ j3 xp3 _ _ w) rfl ⟨Nat.le_of_ble_eq_true rfl, Nat.le_of_ble_eq_true rfl⟩ ⟨rfl, rfl⟩ (by exact Nat.le_of_ble_eq_true rfl) rfl dX11_noteOn_10 ⟨Nat.le_of_ble_eq_true rfl, Nat.le_of_ble_eq_true rfl⟩ ⟨Nat.le_of_ble_eq_true rfl, Nat.le_of_ble_eq_true rfl⟩ (fun x4 h H locs S w => ?_)
  refine W.cs (cells' := 3) (slots' := 18) rfl rfl ?_
  exact ql_zret C S hr hlocks dX11_noteOn_13 ⟨Nat.le_of_ble_eq_true rfl, Nat.le_of_ble_eq_true rfl⟩ w
def qw_X11_difference (a0 : Nat) (xp1 : Int32) (xp2 : Int32) (xp3 : Int32) (h : ql_H) (Q : Int32 → ql_H → Prop) (X : String → ql_H → Prop) : Prop :=
ql_rv h (some a0) 12 fun b1 => qw_X11_clauseOf b1 xp1 h (fun r1 h =>
ql_gR h (some a0) 12 8 fun r3 =>
qw_X11_textOn r1 xp2 h (fun j4 h =>
qw_X11_textOn r1 xp3 h (fun j5 h =>
ql_rv h r3 8 fun b6 => qw_X5_byBeginnings b6 j4 j5 h (fun x6 h =>
Q x6 h)) X) X) X
set_option maxHeartbeats 4000000 in
set_option maxRecDepth 100000 in
theorem qm_X11_difference (l : Launch) (hl9 : l.stackTraces = false) (D : ql_D) (h0 : ql_H) (a0 : Nat) (xp1 : Int32) (xp2 : Int32) (xp3 : Int32) (Q : Int32 → ql_H → Prop) (X : String → ql_H → Prop) (w : qw_X11_difference a0 xp1 xp2 xp3 h0 Q X) : ql_M D l yX11_difference cX11_difference 5 (some .int) ({ frames := 12, cells := 3, slots := 18, locals := 158 } : Room) h0 [.ref a0, .int xp1, .int xp2, .int xp3] (ql_rI Q) X 3 18 := by
  refine ql_ofW (by decide) (Nat.le_of_ble_eq_true rfl) ?_
  intro p e s m below meth c ls C hr hlocks hnm htab S hl
  have hl : lv_has ls 5 [(0, .ref a0), (1, .int xp1), (2, .int xp2), (3, .int xp3)] := hl
  unfold qw_X11_difference at w
  refine ql_aload_n (r := (some a0)) C dX11_difference_0 rfl (lv_at hl 0 rfl) ?_
  refine lv_iload_n C.1.1 C.1.2.1 dX11_difference_1 rfl (lv_at hl 1 rfl) ?_
  refine ql_VR (As := [.int xp1]) (rest := []) C S htab hlocks hl qy_X11_clauseOf qi_X11_clauseOf qs_X11_clauseOf gw_995 (ci := 12) rfl w (fun b w => qm_X11_clauseOf l hl9 D _ b xp1 _ _ w) rfl ⟨Nat.le_of_ble_eq_true rfl, Nat.le_of_ble_eq_true rfl⟩ ⟨rfl, rfl⟩ (by exact Nat.le_of_ble_eq_true rfl) (fun b e9 => by cases e9; rfl) dX11_difference_2 ⟨Nat.le_of_ble_eq_true rfl, Nat.le_of_ble_eq_true rfl⟩ ⟨Nat.le_of_ble_eq_true rfl, Nat.le_of_ble_eq_true rfl⟩ (fun r1 h H locs S w => ?_)
  refine W.cs (cells' := 1) (slots' := 6) rfl rfl ?_
  refine ql_astore (lv' := [(4, va_rf r1), (0, .ref a0), (1, .int xp1), (2, .int xp2), (3, .int xp3)]) C dX11_difference_5 hl (by decide) rfl (fun ls hl => ?_)
  refine ql_aload_n (r := (some a0)) C dX11_difference_7 rfl (lv_at hl 1 rfl) ?_
  refine ql_getR C S qf_12_8 gw_356 dX11_difference_8 w (fun r3 w => ?_)
  refine ql_aload (r := r1) C dX11_difference_11 (lv_at hl 0 rfl) ?_
  refine lv_iload_n C.1.1 C.1.2.1 dX11_difference_13 rfl (lv_at hl 3 rfl) ?_
  refine ql_SJ (As := [va_rf r1, .int xp2]) (rest := [va_rf r3]) C S htab hlocks hl qy_X11_textOn qi_X11_textOn gw_1076 (qm_X11_textOn l hl9 D _ r1 xp2 _ _ w) rfl ⟨Nat.le_of_ble_eq_true rfl, Nat.le_of_ble_eq_true rfl⟩ ⟨rfl, rfl⟩ (by generalize r3 = z0; cases z0 <;> exact Nat.le_of_ble_eq_true rfl) rfl dX11_difference_14 ⟨Nat.le_of_ble_eq_true rfl, Nat.le_of_ble_eq_true rfl⟩ ⟨Nat.le_of_ble_eq_true rfl, Nat.le_of_ble_eq_true rfl⟩ (fun j4 h H locs S w => ?_)
  refine W.cs (cells' := 2) (slots' := 12) rfl rfl ?_
  refine ql_aload (r := r1) C dX11_difference_17 (lv_at hl 0 rfl) ?_
  refine lv_iload_n C.1.1 C.1.2.1 dX11_difference_19 rfl (lv_at hl 4 rfl) ?_
  refine ql_SJ (As := [va_rf r1, .int xp3]) (rest := [.long j4, va_rf r3]) C S htab hlocks hl qy_X11_textOn qi_X11_textOn gw_1076 (qm_X11_textOn l hl9 D _ r1 xp3 _ _ w) rfl ⟨Nat.le_of_ble_eq_true rfl, Nat.le_of_ble_eq_true rfl⟩ ⟨rfl, rfl⟩ (by generalize r3 = z0; cases z0 <;> exact Nat.le_of_ble_eq_true rfl) rfl dX11_difference_20 ⟨Nat.le_of_ble_eq_true rfl, Nat.le_of_ble_eq_true rfl⟩ ⟨Nat.le_of_ble_eq_true rfl, Nat.le_of_ble_eq_true rfl⟩ (fun j5 h H locs S w => ?_)
  refine W.cs (cells' := 3) (slots' := 18) rfl rfl ?_
  refine ql_VI (As := [.long j4, .long j5]) (rest := []) C S htab hlocks hl qy_X5_byBeginnings qi_X5_byBeginnings qs_X5_byBeginnings gw_714 (ci := 8) rfl w (fun b w => qm_X5_byBeginnings l hl9 D _ b j4 j5 _ _ w) rfl ⟨Nat.le_of_ble_eq_true rfl, Nat.le_of_ble_eq_true rfl⟩ ⟨rfl, rfl⟩ (by exact Nat.le_of_ble_eq_true rfl) (fun b e9 => by cases e9; rfl) dX11_difference_23 ⟨Nat.le_of_ble_eq_true rfl, Nat.le_of_ble_eq_true rfl⟩ ⟨Nat.le_of_ble_eq_true rfl, Nat.le_of_ble_eq_true rfl⟩ (fun x6 h H locs S w => ?_)
  refine W.cs (cells' := 3) (slots' := 18) rfl rfl ?_
  exact ql_iret C S hr hlocks dX11_difference_26 ⟨Nat.le_of_ble_eq_true rfl, Nat.le_of_ble_eq_true rfl⟩ w
def qw_X11_differenceByEnds (a0 : Nat) (xp1 : Int32) (xp2 : Int32) (xp3 : Int32) (h : ql_H) (Q : Int32 → ql_H → Prop) (X : String → ql_H → Prop) : Prop :=
ql_rv h (some a0) 12 fun b1 => qw_X11_clauseOf b1 xp1 h (fun r1 h =>
ql_gR h (some a0) 12 8 fun r3 =>
qw_X11_textOn r1 xp2 h (fun j4 h =>
qw_X11_textOn r1 xp3 h (fun j5 h =>
ql_rv h r3 8 fun b6 => qw_X5_byEnds b6 j4 j5 h (fun x6 h =>
Q x6 h)) X) X) X
set_option maxHeartbeats 4000000 in
set_option maxRecDepth 100000 in
theorem qm_X11_differenceByEnds (l : Launch) (hl9 : l.stackTraces = false) (D : ql_D) (h0 : ql_H) (a0 : Nat) (xp1 : Int32) (xp2 : Int32) (xp3 : Int32) (Q : Int32 → ql_H → Prop) (X : String → ql_H → Prop) (w : qw_X11_differenceByEnds a0 xp1 xp2 xp3 h0 Q X) : ql_M D l yX11_differenceByEnds cX11_differenceByEnds 5 (some .int) ({ frames := 12, cells := 3, slots := 18, locals := 158 } : Room) h0 [.ref a0, .int xp1, .int xp2, .int xp3] (ql_rI Q) X 3 18 := by
  refine ql_ofW (by decide) (Nat.le_of_ble_eq_true rfl) ?_
  intro p e s m below meth c ls C hr hlocks hnm htab S hl
  have hl : lv_has ls 5 [(0, .ref a0), (1, .int xp1), (2, .int xp2), (3, .int xp3)] := hl
  unfold qw_X11_differenceByEnds at w
  refine ql_aload_n (r := (some a0)) C dX11_differenceByEnds_0 rfl (lv_at hl 0 rfl) ?_
  refine lv_iload_n C.1.1 C.1.2.1 dX11_differenceByEnds_1 rfl (lv_at hl 1 rfl) ?_
  refine ql_VR (As := [.int xp1]) (rest := []) C S htab hlocks hl qy_X11_clauseOf qi_X11_clauseOf qs_X11_clauseOf gw_995 (ci := 12) rfl w (fun b w => qm_X11_clauseOf l hl9 D _ b xp1 _ _ w) rfl ⟨Nat.le_of_ble_eq_true rfl, Nat.le_of_ble_eq_true rfl⟩ ⟨rfl, rfl⟩ (by exact Nat.le_of_ble_eq_true rfl) (fun b e9 => by cases e9; rfl) dX11_differenceByEnds_2 ⟨Nat.le_of_ble_eq_true rfl, Nat.le_of_ble_eq_true rfl⟩ ⟨Nat.le_of_ble_eq_true rfl, Nat.le_of_ble_eq_true rfl⟩ (fun r1 h H locs S w => ?_)
  refine W.cs (cells' := 1) (slots' := 6) rfl rfl ?_
  refine ql_astore (lv' := [(4, va_rf r1), (0, .ref a0), (1, .int xp1), (2, .int xp2), (3, .int xp3)]) C dX11_differenceByEnds_5 hl (by decide) rfl (fun ls hl => ?_)
  refine ql_aload_n (r := (some a0)) C dX11_differenceByEnds_7 rfl (lv_at hl 1 rfl) ?_
  refine ql_getR C S qf_12_8 gw_356 dX11_differenceByEnds_8 w (fun r3 w => ?_)
  refine ql_aload (r := r1) C dX11_differenceByEnds_11 (lv_at hl 0 rfl) ?_
  refine lv_iload_n C.1.1 C.1.2.1 dX11_differenceByEnds_13 rfl (lv_at hl 3 rfl) ?_
  refine ql_SJ (As := [va_rf r1, .int xp2]) (rest := [va_rf r3]) C S htab hlocks hl qy_X11_textOn qi_X11_textOn gw_1076 (qm_X11_textOn l hl9 D _ r1 xp2 _ _ w) rfl ⟨Nat.le_of_ble_eq_true rfl, Nat.le_of_ble_eq_true rfl⟩ ⟨rfl, rfl⟩ (by generalize r3 = z0; cases z0 <;> exact Nat.le_of_ble_eq_true rfl) rfl dX11_differenceByEnds_14 ⟨Nat.le_of_ble_eq_true rfl, Nat.le_of_ble_eq_true rfl⟩ ⟨Nat.le_of_ble_eq_true rfl, Nat.le_of_ble_eq_true rfl⟩ (fun j4 h H locs S w => ?_)
  refine W.cs (cells' := 2) (slots' := 12) rfl rfl ?_
  refine ql_aload (r := r1) C dX11_differenceByEnds_17 (lv_at hl 0 rfl) ?_
  refine lv_iload_n C.1.1 C.1.2.1 dX11_differenceByEnds_19 rfl (lv_at hl 4 rfl) ?_
  refine ql_SJ (As := [va_rf r1, .int xp3]) (rest := [.long j4, va_rf r3]) C S htab hlocks hl qy_X11_textOn qi_X11_textOn gw_1076 (qm_X11_textOn l hl9 D _ r1 xp3 _ _ w) rfl ⟨Nat.le_of_ble_eq_true rfl, Nat.le_of_ble_eq_true rfl⟩ ⟨rfl, rfl⟩ (by generalize r3 = z0; cases z0 <;> exact Nat.le_of_ble_eq_true rfl) rfl dX11_differenceByEnds_20 ⟨Nat.le_of_ble_eq_true rfl, Nat.le_of_ble_eq_true rfl⟩ ⟨Nat.le_of_ble_eq_true rfl, Nat.le_of_ble_eq_true rfl⟩ (fun j5 h H locs S w => ?_)
  refine W.cs (cells' := 3) (slots' := 18) rfl rfl ?_
  refine ql_VI (As := [.long j4, .long j5]) (rest := []) C S htab hlocks hl qy_X5_byEnds qi_X5_byEnds qs_X5_byEnds gw_728 (ci := 8) rfl w (fun b w => qm_X5_byEnds l hl9 D _ b j4 j5 _ _ w) rfl ⟨Nat.le_of_ble_eq_true rfl, Nat.le_of_ble_eq_true rfl⟩ ⟨rfl, rfl⟩ (by exact Nat.le_of_ble_eq_true rfl) (fun b e9 => by cases e9; rfl) dX11_differenceByEnds_23 ⟨Nat.le_of_ble_eq_true rfl, Nat.le_of_ble_eq_true rfl⟩ ⟨Nat.le_of_ble_eq_true rfl, Nat.le_of_ble_eq_true rfl⟩ (fun x6 h H locs S w => ?_)
  refine W.cs (cells' := 3) (slots' := 18) rfl rfl ?_
  exact ql_iret C S hr hlocks dX11_differenceByEnds_26 ⟨Nat.le_of_ble_eq_true rfl, Nat.le_of_ble_eq_true rfl⟩ w
def qw_X11_duplicatePairs_58 (a0 : Nat) (Q : Int32 → ql_H → Prop) (k23 : Int32 → Option Nat → Int32 → Int32 → ql_H → Prop) (xl1 : Int32) (rl2 : Option Nat) (xl3 : Int32) (xl4 : Int32) (h : ql_H) : Prop :=
k23 xl1 rl2 xl3 (xl4 + (1 : Int32)) h
def qw_X11_duplicatePairs_23 (a0 : Nat) (Q : Int32 → ql_H → Prop) : Nat → Int32 → Option Nat → Int32 → Int32 → ql_H → Prop
  | 0, _, _, _, _, _ => False
  | n + 1, xl1, rl2, xl3, xl4, h =>
    if xl3 ≤ xl4 then (Q xl1 h) else (ql_lR h rl2 5 xl4 fun r1 =>
    ql_gI h r1 6 0 fun x2 =>
    if x2 = 0 then (qw_X11_duplicatePairs_58 a0 Q (qw_X11_duplicatePairs_23 a0 Q n) xl1 rl2 xl3 xl4 h) else (ql_gR h (some a0) 12 9 fun r3 =>
    ql_rv h r1 6 fun b4 => qw_X3_latestText b4  h (fun j4 h =>
    ql_rv h r3 11 fun b6 => qw_X10_countBeforeAdding b6 j4 h (fun x6 h =>
    qw_X11_duplicatePairs_58 a0 Q (qw_X11_duplicatePairs_23 a0 Q n) (xl1 + x6) rl2 xl3 xl4 h))))
def qw_X11_duplicatePairs (a0 : Nat) (h : ql_H) (Q : Int32 → ql_H → Prop) : Prop :=
ql_gR h (some a0) 12 9 fun r8 =>
ql_rv h r8 11 fun b8 => qw_X10_clear b8  h (fun h =>
ql_gR h (some a0) 12 0 fun r10 =>
ql_gR h r10 4 0 fun r11 =>
ql_len h r11 5 fun x12 =>
qw_X11_duplicatePairs_23 a0 Q ql_FU (0 : Int32) r11 x12 (0 : Int32) h)
set_option maxHeartbeats 4000000 in
set_option maxRecDepth 100000 in
theorem qm_X11_duplicatePairs (l : Launch) (hl9 : l.stackTraces = false) (D : ql_D) (h0 : ql_H) (a0 : Nat) (Q : Int32 → ql_H → Prop) (X : String → ql_H → Prop) (w : qw_X11_duplicatePairs a0 h0 Q) : ql_M D l yX11_duplicatePairs cX11_duplicatePairs 6 (some .int) ({ frames := 6, cells := 0, slots := 0, locals := 106 } : Room) h0 [.ref a0] (ql_rI Q) X 0 0 := by
  refine ql_ofW (by decide) (Nat.le_of_ble_eq_true rfl) ?_
  intro p e s m below meth c ls C hr hlocks hnm htab S hl
  have hl : lv_has ls 6 [(0, .ref a0)] := hl
  have hB58 : ∀ (k23 : Int32 → Option Nat → Int32 → Int32 → ql_H → Prop) (hk23 : ∀ (xl1 : Int32) (rl2 : Option Nat) (xl3 : Int32) (xl4 : Int32) (h : ql_H) (H : Heap) (locs : List Loc) (ls : Array Slot), ql_S D h0 s H locs h → lv_has ls 6 [(0, .ref a0), (1, .int xl1), (2, va_rf rl2), (3, .int xl3), (4, .int xl4)] → k23 xl1 rl2 xl3 xl4 h → W p l e ({ frames := 6, cells := 0, slots := 0, locals := 106 } : Room) s m ([.ref a0] : List Value).toArray below meth c H locs 0 0 (vx_MQ below (ql_Q D h0 (ql_rI Q)) (ql_X D h0 X) ([.ref a0] : List Value).toArray s 0 0 (ql_A h0)) (F0 m 23 ls [])) , ∀ (xl1 : Int32) (rl2 : Option Nat) (xl3 : Int32) (xl4 : Int32) (h : ql_H) (H : Heap) (locs : List Loc) (ls : Array Slot), ql_S D h0 s H locs h → lv_has ls 6 [(0, .ref a0), (1, .int xl1), (2, va_rf rl2), (3, .int xl3), (4, .int xl4)] → qw_X11_duplicatePairs_58 a0 Q k23 xl1 rl2 xl3 xl4 h → W p l e ({ frames := 6, cells := 0, slots := 0, locals := 106 } : Room) s m ([.ref a0] : List Value).toArray below meth c H locs 0 0 (vx_MQ below (ql_Q D h0 (ql_rI Q)) (ql_X D h0 X) ([.ref a0] : List Value).toArray s 0 0 (ql_A h0)) (F0 m 58 ls []) := by
    intro k23 hk23 xl1 rl2 xl3 xl4 h H locs ls S hl w
    unfold qw_X11_duplicatePairs_58 at w
    refine lv_iinc (v := (xl4 + (1 : Int32))) (lv' := [(4, .int (xl4 + (1 : Int32))), (0, .ref a0), (1, .int xl1), (2, va_rf rl2), (3, .int xl3)]) C.1.1 C.1.2.1 dX11_duplicatePairs_58 hl (k := 4) rfl rfl (by decide) rfl (fun ls hl => ?_)
    refine lv_goto (tgt := 23) C.1.1 C.1.2.1 dX11_duplicatePairs_61 (by decide) ?_
    exact hk23 xl1 rl2 xl3 (xl4 + (1 : Int32)) _ _ _ _ S (lv_sub hl [1, 2, 3, 4, 0] rfl) w
  have hB23 : ∀ n : Nat, ∀ (xl1 : Int32) (rl2 : Option Nat) (xl3 : Int32) (xl4 : Int32) (h : ql_H) (H : Heap) (locs : List Loc) (ls : Array Slot), ql_S D h0 s H locs h → lv_has ls 6 [(0, .ref a0), (1, .int xl1), (2, va_rf rl2), (3, .int xl3), (4, .int xl4)] → qw_X11_duplicatePairs_23 a0 Q n xl1 rl2 xl3 xl4 h → W p l e ({ frames := 6, cells := 0, slots := 0, locals := 106 } : Room) s m ([.ref a0] : List Value).toArray below meth c H locs 0 0 (vx_MQ below (ql_Q D h0 (ql_rI Q)) (ql_X D h0 X) ([.ref a0] : List Value).toArray s 0 0 (ql_A h0)) (F0 m 23 ls []) := by
    intro n
    induction n with
    | zero => intro xl1 rl2 xl3 xl4 h H locs ls S hl w; rw [qw_X11_duplicatePairs_23] at w; exact w.elim
    | succ n ih =>
      intro xl1 rl2 xl3 xl4 h H locs ls S hl w
      rw [qw_X11_duplicatePairs_23] at w
      refine lv_iload C.1.1 C.1.2.1 dX11_duplicatePairs_23 (lv_at hl 4 rfl) ?_
      refine lv_iload_n C.1.1 C.1.2.1 dX11_duplicatePairs_25 rfl (lv_at hl 3 rfl) ?_
      refine lv_icmp_ge (tgt := 64) C.1.1 C.1.2.1 dX11_duplicatePairs_26 (by decide) (fun c9 => ?_) (fun c9 => ?_)
      · replace w := ql_if w c9
        refine lv_iload_n C.1.1 C.1.2.1 dX11_duplicatePairs_64 rfl (lv_at hl 1 rfl) ?_
        exact ql_iret C S hr hlocks dX11_duplicatePairs_65 ⟨Nat.le_of_ble_eq_true rfl, Nat.le_of_ble_eq_true rfl⟩ w
      · replace w := ql_ifn w c9
        refine ql_aload_n (r := rl2) C dX11_duplicatePairs_29 rfl (lv_at hl 2 rfl) ?_
        refine lv_iload C.1.1 C.1.2.1 dX11_duplicatePairs_30 (lv_at hl 4 rfl) ?_
        refine ql_aald (kd := 5) C S rfl rfl dX11_duplicatePairs_32 w (fun r1 w => ?_)
        refine ql_astore (lv' := [(5, va_rf r1), (0, .ref a0), (1, .int xl1), (2, va_rf rl2), (3, .int xl3), (4, .int xl4)]) C dX11_duplicatePairs_33 hl (by decide) rfl (fun ls hl => ?_)
        refine ql_aload (r := r1) C dX11_duplicatePairs_35 (lv_at hl 0 rfl) ?_
        refine ql_getIN C S qf_6_0 (qn_RX11_225) dX11_duplicatePairs_37 w (fun x2 w => ?_)
        refine lv_if_eq (tgt := 58) C.1.1 C.1.2.1 dX11_duplicatePairs_40 (by decide) (fun c9 => ?_) (fun c9 => ?_)
        · replace w := ql_if w c9
          exact hB58 (qw_X11_duplicatePairs_23 a0 Q n) ih xl1 rl2 xl3 xl4 _ _ _ _ S (lv_sub hl [1, 2, 3, 4, 5] rfl) w
        · replace w := ql_ifn w c9
          refine lv_iload_n C.1.1 C.1.2.1 dX11_duplicatePairs_43 rfl (lv_at hl 2 rfl) ?_
          refine ql_aload_n (r := (some a0)) C dX11_duplicatePairs_44 rfl (lv_at hl 1 rfl) ?_
          refine ql_getR C S qf_12_9 gw_357 dX11_duplicatePairs_45 w (fun r3 w => ?_)
          refine ql_aload (r := r1) C dX11_duplicatePairs_48 (lv_at hl 0 rfl) ?_
          refine ql_VJ (As := []) (rest := [va_rf r3, .int xl1]) C S htab hlocks hl qy_X3_latestText qi_X3_latestText qs_X3_latestText gw_657 (ci := 6) rfl w (fun b w => qm_X3_latestText l hl9 D _ b _ _ w) rfl ⟨Nat.le_of_ble_eq_true rfl, Nat.le_of_ble_eq_true rfl⟩ ⟨rfl, rfl⟩ (by generalize r3 = z0; cases z0 <;> exact Nat.le_of_ble_eq_true rfl) (fun b e9 => by cases e9; rfl) dX11_duplicatePairs_50 ⟨Nat.le_of_ble_eq_true rfl, Nat.le_of_ble_eq_true rfl⟩ ⟨Nat.le_of_ble_eq_true rfl, Nat.le_of_ble_eq_true rfl⟩ (fun j4 h H locs S w => ?_)
          refine W.cs (cells' := 0) (slots' := 0) rfl rfl ?_
          refine ql_VI (As := [.long j4]) (rest := [.int xl1]) C S htab hlocks hl qy_X10_countBeforeAdding qi_X10_countBeforeAdding qs_X10_countBeforeAdding gw_661 (ci := 11) rfl w (fun b w => qm_X10_countBeforeAdding l hl9 D _ b j4 _ _ w) rfl ⟨Nat.le_of_ble_eq_true rfl, Nat.le_of_ble_eq_true rfl⟩ ⟨rfl, rfl⟩ (by exact Nat.le_of_ble_eq_true rfl) (fun b e9 => by cases e9; rfl) dX11_duplicatePairs_53 ⟨Nat.le_of_ble_eq_true rfl, Nat.le_of_ble_eq_true rfl⟩ ⟨Nat.le_of_ble_eq_true rfl, Nat.le_of_ble_eq_true rfl⟩ (fun x6 h H locs S w => ?_)
          refine W.cs (cells' := 0) (slots' := 0) rfl rfl ?_
          refine lv_iadd C.1.1 C.1.2.1 dX11_duplicatePairs_56 ?_
          refine lv_istore_n (lv' := [(1, .int (xl1 + x6)), (5, va_rf r1), (0, .ref a0), (2, va_rf rl2), (3, .int xl3), (4, .int xl4)]) C.1.1 C.1.2.1 dX11_duplicatePairs_57 rfl hl (by decide) rfl (fun ls hl => ?_)
          exact hB58 (qw_X11_duplicatePairs_23 a0 Q n) ih (xl1 + x6) rl2 xl3 xl4 _ _ _ _ S (lv_sub hl [2, 0, 3, 4, 5] rfl) w
  unfold qw_X11_duplicatePairs at w
  refine ql_aload_n (r := (some a0)) C dX11_duplicatePairs_0 rfl (lv_at hl 0 rfl) ?_
  refine ql_getR C S qf_12_9 gw_357 dX11_duplicatePairs_1 w (fun r8 w => ?_)
  refine ql_VV (As := []) (rest := []) C S htab hlocks hl qy_X10_clear qi_X10_clear qs_X10_clear gw_653 (ci := 11) rfl w (fun b w => qm_X10_clear l hl9 D _ b _ _ w) rfl ⟨Nat.le_of_ble_eq_true rfl, Nat.le_of_ble_eq_true rfl⟩ ⟨rfl, rfl⟩ (by exact Nat.le_of_ble_eq_true rfl) (fun b e9 => by cases e9; rfl) dX11_duplicatePairs_4 ⟨Nat.le_of_ble_eq_true rfl, Nat.le_of_ble_eq_true rfl⟩ ⟨Nat.le_of_ble_eq_true rfl, Nat.le_of_ble_eq_true rfl⟩ (fun h H locs S w => ?_)
  refine W.cs (cells' := 0) (slots' := 0) rfl rfl ?_
  refine lv_iconst (v := (0 : Int32)) C.1.1 C.1.2.1 dX11_duplicatePairs_7 (by decide) ?_
  refine lv_istore_n (lv' := [(1, .int (0 : Int32)), (0, .ref a0)]) C.1.1 C.1.2.1 dX11_duplicatePairs_8 rfl hl (by decide) rfl (fun ls hl => ?_)
  refine ql_aload_n (r := (some a0)) C dX11_duplicatePairs_9 rfl (lv_at hl 1 rfl) ?_
  refine ql_getR C S qf_12_0 gw_348 dX11_duplicatePairs_10 w (fun r10 w => ?_)
  refine ql_getRN C S qf_4_0 (qn_RX11_221) dX11_duplicatePairs_13 w (fun r11 w => ?_)
  refine ql_astore_n (lv' := [(2, va_rf r11), (1, .int (0 : Int32)), (0, .ref a0)]) C dX11_duplicatePairs_16 rfl hl (by decide) rfl (fun ls hl => ?_)
  refine ql_aload_n (r := r11) C dX11_duplicatePairs_17 rfl (lv_at hl 0 rfl) ?_
  refine ql_alen (kd := 5) C S rfl dX11_duplicatePairs_18 w (fun x12 w => ?_)
  refine lv_istore_n (lv' := [(3, .int x12), (2, va_rf r11), (1, .int (0 : Int32)), (0, .ref a0)]) C.1.1 C.1.2.1 dX11_duplicatePairs_19 rfl hl (by decide) (by generalize r11 = z9; cases z9 <;> rfl) (fun ls hl => ?_)
  refine lv_iconst (v := (0 : Int32)) C.1.1 C.1.2.1 dX11_duplicatePairs_20 (by decide) ?_
  refine lv_istore (lv' := [(4, .int (0 : Int32)), (3, .int x12), (2, va_rf r11), (1, .int (0 : Int32)), (0, .ref a0)]) C.1.1 C.1.2.1 dX11_duplicatePairs_21 hl (by decide) rfl (fun ls hl => ?_)
  exact hB23 ql_FU (0 : Int32) r11 x12 (0 : Int32) _ _ _ _ S (lv_sub hl [4, 3, 2, 1, 0] rfl) w
def qw_X11_duplicatePairsByComparing_105 (a0 : Nat) (Q : Int32 → ql_H → Prop) (k45 : Int32 → Option Nat → Int32 → Int32 → Option Nat → Option Nat → Int32 → Int32 → ql_H → Prop) (xl1 : Int32) (rl2 : Option Nat) (xl3 : Int32) (xl4 : Int32) (rl5 : Option Nat) (rl6 : Option Nat) (xl7 : Int32) (xl8 : Int32) (h : ql_H) : Prop :=
k45 xl1 rl2 xl3 xl4 rl5 rl6 xl7 (xl8 + (1 : Int32)) h
def qw_X11_duplicatePairsByComparing_45 (a0 : Nat) (Q : Int32 → ql_H → Prop) (k16 : Int32 → Option Nat → Int32 → Int32 → ql_H → Prop) : Nat → Int32 → Option Nat → Int32 → Int32 → Option Nat → Option Nat → Int32 → Int32 → ql_H → Prop
  | 0, _, _, _, _, _, _, _, _, _ => False
  | n + 1, xl1, rl2, xl3, xl4, rl5, rl6, xl7, xl8, h =>
    if xl7 ≤ xl8 then (k16 xl1 rl2 xl3 (xl4 + (1 : Int32)) h) else (ql_lR h rl6 5 xl8 fun r1 =>
    ql_gI h rl5 6 0 fun x2 =>
    if x2 = 0 then (qw_X11_duplicatePairsByComparing_105 a0 Q (qw_X11_duplicatePairsByComparing_45 a0 Q k16 n) xl1 rl2 xl3 xl4 rl5 rl6 xl7 xl8 h) else (ql_gI h r1 6 0 fun x3 =>
    if x3 = 0 then (qw_X11_duplicatePairsByComparing_105 a0 Q (qw_X11_duplicatePairsByComparing_45 a0 Q k16 n) xl1 rl2 xl3 xl4 rl5 rl6 xl7 xl8 h) else (ql_gI h rl5 6 1 fun x4 =>
    ql_gI h r1 6 1 fun x5 =>
    if x5 ≤ x4 then (qw_X11_duplicatePairsByComparing_105 a0 Q (qw_X11_duplicatePairsByComparing_45 a0 Q k16 n) xl1 rl2 xl3 xl4 rl5 rl6 xl7 xl8 h) else (ql_rv h rl5 6 fun b6 => qw_X3_latestText b6  h (fun j6 h =>
    ql_rv h r1 6 fun b8 => qw_X3_latestText b8  h (fun j8 h =>
    if (lg_cmp j6 j8) = 0 then (qw_X11_duplicatePairsByComparing_105 a0 Q (qw_X11_duplicatePairsByComparing_45 a0 Q k16 n) (xl1 + (1 : Int32)) rl2 xl3 xl4 rl5 rl6 xl7 xl8 h) else (qw_X11_duplicatePairsByComparing_105 a0 Q (qw_X11_duplicatePairsByComparing_45 a0 Q k16 n) xl1 rl2 xl3 xl4 rl5 rl6 xl7 xl8 h)))))))
def qw_X11_duplicatePairsByComparing_16 (a0 : Nat) (Q : Int32 → ql_H → Prop) : Nat → Int32 → Option Nat → Int32 → Int32 → ql_H → Prop
  | 0, _, _, _, _, _ => False
  | n + 1, xl1, rl2, xl3, xl4, h =>
    if xl3 ≤ xl4 then (Q xl1 h) else (ql_lR h rl2 5 xl4 fun r10 =>
    ql_gR h (some a0) 12 0 fun r11 =>
    ql_gR h r11 4 0 fun r12 =>
    ql_len h r12 5 fun x13 =>
    qw_X11_duplicatePairsByComparing_45 a0 Q (qw_X11_duplicatePairsByComparing_16 a0 Q n) ql_FU xl1 rl2 xl3 xl4 r10 r12 x13 (0 : Int32) h)
def qw_X11_duplicatePairsByComparing (a0 : Nat) (h : ql_H) (Q : Int32 → ql_H → Prop) : Prop :=
ql_gR h (some a0) 12 0 fun r14 =>
ql_gR h r14 4 0 fun r15 =>
ql_len h r15 5 fun x16 =>
qw_X11_duplicatePairsByComparing_16 a0 Q ql_FU (0 : Int32) r15 x16 (0 : Int32) h
set_option maxHeartbeats 4000000 in
set_option maxRecDepth 100000 in
theorem qm_X11_duplicatePairsByComparing (l : Launch) (hl9 : l.stackTraces = false) (D : ql_D) (h0 : ql_H) (a0 : Nat) (Q : Int32 → ql_H → Prop) (X : String → ql_H → Prop) (w : qw_X11_duplicatePairsByComparing a0 h0 Q) : ql_M D l yX11_duplicatePairsByComparing cX11_duplicatePairsByComparing 10 (some .int) ({ frames := 6, cells := 0, slots := 0, locals := 106 } : Room) h0 [.ref a0] (ql_rI Q) X 0 0 := by
  refine ql_ofW (by decide) (Nat.le_of_ble_eq_true rfl) ?_
  intro p e s m below meth c ls C hr hlocks hnm htab S hl
  have hl : lv_has ls 10 [(0, .ref a0)] := hl
  have hB105 : ∀ (k45 : Int32 → Option Nat → Int32 → Int32 → Option Nat → Option Nat → Int32 → Int32 → ql_H → Prop) (hk45 : ∀ (xl1 : Int32) (rl2 : Option Nat) (xl3 : Int32) (xl4 : Int32) (rl5 : Option Nat) (rl6 : Option Nat) (xl7 : Int32) (xl8 : Int32) (h : ql_H) (H : Heap) (locs : List Loc) (ls : Array Slot), ql_S D h0 s H locs h → lv_has ls 10 [(0, .ref a0), (1, .int xl1), (2, va_rf rl2), (3, .int xl3), (4, .int xl4), (5, va_rf rl5), (6, va_rf rl6), (7, .int xl7), (8, .int xl8)] → k45 xl1 rl2 xl3 xl4 rl5 rl6 xl7 xl8 h → W p l e ({ frames := 6, cells := 0, slots := 0, locals := 106 } : Room) s m ([.ref a0] : List Value).toArray below meth c H locs 0 0 (vx_MQ below (ql_Q D h0 (ql_rI Q)) (ql_X D h0 X) ([.ref a0] : List Value).toArray s 0 0 (ql_A h0)) (F0 m 45 ls [])) , ∀ (xl1 : Int32) (rl2 : Option Nat) (xl3 : Int32) (xl4 : Int32) (rl5 : Option Nat) (rl6 : Option Nat) (xl7 : Int32) (xl8 : Int32) (h : ql_H) (H : Heap) (locs : List Loc) (ls : Array Slot), ql_S D h0 s H locs h → lv_has ls 10 [(0, .ref a0), (1, .int xl1), (2, va_rf rl2), (3, .int xl3), (4, .int xl4), (5, va_rf rl5), (6, va_rf rl6), (7, .int xl7), (8, .int xl8)] → qw_X11_duplicatePairsByComparing_105 a0 Q k45 xl1 rl2 xl3 xl4 rl5 rl6 xl7 xl8 h → W p l e ({ frames := 6, cells := 0, slots := 0, locals := 106 } : Room) s m ([.ref a0] : List Value).toArray below meth c H locs 0 0 (vx_MQ below (ql_Q D h0 (ql_rI Q)) (ql_X D h0 X) ([.ref a0] : List Value).toArray s 0 0 (ql_A h0)) (F0 m 105 ls []) := by
    intro k45 hk45 xl1 rl2 xl3 xl4 rl5 rl6 xl7 xl8 h H locs ls S hl w
    unfold qw_X11_duplicatePairsByComparing_105 at w
    refine lv_iinc (v := (xl8 + (1 : Int32))) (lv' := [(8, .int (xl8 + (1 : Int32))), (0, .ref a0), (1, .int xl1), (2, va_rf rl2), (3, .int xl3), (4, .int xl4), (5, va_rf rl5), (6, va_rf rl6), (7, .int xl7)]) C.1.1 C.1.2.1 dX11_duplicatePairsByComparing_105 hl (k := 8) rfl rfl (by decide) rfl (fun ls hl => ?_)
    refine lv_goto (tgt := 45) C.1.1 C.1.2.1 dX11_duplicatePairsByComparing_108 (by decide) ?_
    exact hk45 xl1 rl2 xl3 xl4 rl5 rl6 xl7 (xl8 + (1 : Int32)) _ _ _ _ S (lv_sub hl [1, 2, 3, 4, 5, 6, 7, 8, 0] rfl) w
  have hB45 : ∀ (k16 : Int32 → Option Nat → Int32 → Int32 → ql_H → Prop) (hk16 : ∀ (xl1 : Int32) (rl2 : Option Nat) (xl3 : Int32) (xl4 : Int32) (h : ql_H) (H : Heap) (locs : List Loc) (ls : Array Slot), ql_S D h0 s H locs h → lv_has ls 10 [(0, .ref a0), (1, .int xl1), (2, va_rf rl2), (3, .int xl3), (4, .int xl4)] → k16 xl1 rl2 xl3 xl4 h → W p l e ({ frames := 6, cells := 0, slots := 0, locals := 106 } : Room) s m ([.ref a0] : List Value).toArray below meth c H locs 0 0 (vx_MQ below (ql_Q D h0 (ql_rI Q)) (ql_X D h0 X) ([.ref a0] : List Value).toArray s 0 0 (ql_A h0)) (F0 m 16 ls [])) , ∀ n : Nat, ∀ (xl1 : Int32) (rl2 : Option Nat) (xl3 : Int32) (xl4 : Int32) (rl5 : Option Nat) (rl6 : Option Nat) (xl7 : Int32) (xl8 : Int32) (h : ql_H) (H : Heap) (locs : List Loc) (ls : Array Slot), ql_S D h0 s H locs h → lv_has ls 10 [(0, .ref a0), (1, .int xl1), (2, va_rf rl2), (3, .int xl3), (4, .int xl4), (5, va_rf rl5), (6, va_rf rl6), (7, .int xl7), (8, .int xl8)] → qw_X11_duplicatePairsByComparing_45 a0 Q k16 n xl1 rl2 xl3 xl4 rl5 rl6 xl7 xl8 h → W p l e ({ frames := 6, cells := 0, slots := 0, locals := 106 } : Room) s m ([.ref a0] : List Value).toArray below meth c H locs 0 0 (vx_MQ below (ql_Q D h0 (ql_rI Q)) (ql_X D h0 X) ([.ref a0] : List Value).toArray s 0 0 (ql_A h0)) (F0 m 45 ls []) := by
    intro k16 hk16 n
    induction n with
    | zero => intro xl1 rl2 xl3 xl4 rl5 rl6 xl7 xl8 h H locs ls S hl w; rw [qw_X11_duplicatePairsByComparing_45] at w; exact w.elim
    | succ n ih =>
      intro xl1 rl2 xl3 xl4 rl5 rl6 xl7 xl8 h H locs ls S hl w
      rw [qw_X11_duplicatePairsByComparing_45] at w
      refine lv_iload C.1.1 C.1.2.1 dX11_duplicatePairsByComparing_45 (lv_at hl 8 rfl) ?_
      refine lv_iload C.1.1 C.1.2.1 dX11_duplicatePairsByComparing_47 (lv_at hl 7 rfl) ?_
      refine lv_icmp_ge (tgt := 111) C.1.1 C.1.2.1 dX11_duplicatePairsByComparing_49 (by decide) (fun c9 => ?_) (fun c9 => ?_)
      · replace w := ql_if w c9
        refine lv_iinc (v := (xl4 + (1 : Int32))) (lv' := [(4, .int (xl4 + (1 : Int32))), (0, .ref a0), (1, .int xl1), (2, va_rf rl2), (3, .int xl3), (5, va_rf rl5), (6, va_rf rl6), (7, .int xl7), (8, .int xl8)]) C.1.1 C.1.2.1 dX11_duplicatePairsByComparing_111 hl (k := 4) rfl rfl (by decide) rfl (fun ls hl => ?_)
        refine lv_goto (tgt := 16) C.1.1 C.1.2.1 dX11_duplicatePairsByComparing_114 (by decide) ?_
        exact hk16 xl1 rl2 xl3 (xl4 + (1 : Int32)) _ _ _ _ S (lv_sub hl [1, 2, 3, 4, 0] rfl) w
      · replace w := ql_ifn w c9
        refine ql_aload (r := rl6) C dX11_duplicatePairsByComparing_52 (lv_at hl 6 rfl) ?_
        refine lv_iload C.1.1 C.1.2.1 dX11_duplicatePairsByComparing_54 (lv_at hl 8 rfl) ?_
        refine ql_aald (kd := 5) C S rfl rfl dX11_duplicatePairsByComparing_56 w (fun r1 w => ?_)
        refine ql_astore (lv' := [(9, va_rf r1), (0, .ref a0), (1, .int xl1), (2, va_rf rl2), (3, .int xl3), (4, .int xl4), (5, va_rf rl5), (6, va_rf rl6), (7, .int xl7), (8, .int xl8)]) C dX11_duplicatePairsByComparing_57 hl (by decide) rfl (fun ls hl => ?_)
        refine ql_aload (r := rl5) C dX11_duplicatePairsByComparing_59 (lv_at hl 6 rfl) ?_
        refine ql_getIN C S qf_6_0 (qn_RX11_225) dX11_duplicatePairsByComparing_61 w (fun x2 w => ?_)
        refine lv_if_eq (tgt := 105) C.1.1 C.1.2.1 dX11_duplicatePairsByComparing_64 (by decide) (fun c9 => ?_) (fun c9 => ?_)
        · replace w := ql_if w c9
          exact hB105 (qw_X11_duplicatePairsByComparing_45 a0 Q k16 n) ih xl1 rl2 xl3 xl4 rl5 rl6 xl7 xl8 _ _ _ _ S (lv_sub hl [1, 2, 3, 4, 5, 6, 7, 8, 9] rfl) w
        · replace w := ql_ifn w c9
          refine ql_aload (r := r1) C dX11_duplicatePairsByComparing_67 (lv_at hl 0 rfl) ?_
          refine ql_getIN C S qf_6_0 (qn_RX11_225) dX11_duplicatePairsByComparing_69 w (fun x3 w => ?_)
          refine lv_if_eq (tgt := 105) C.1.1 C.1.2.1 dX11_duplicatePairsByComparing_72 (by decide) (fun c9 => ?_) (fun c9 => ?_)
          · replace w := ql_if w c9
            exact hB105 (qw_X11_duplicatePairsByComparing_45 a0 Q k16 n) ih xl1 rl2 xl3 xl4 rl5 rl6 xl7 xl8 _ _ _ _ S (lv_sub hl [1, 2, 3, 4, 5, 6, 7, 8, 9] rfl) w
          · replace w := ql_ifn w c9
            refine ql_aload (r := rl5) C dX11_duplicatePairsByComparing_75 (lv_at hl 6 rfl) ?_
            refine ql_getIN C S qf_6_1 (qn_RX11_150) dX11_duplicatePairsByComparing_77 w (fun x4 w => ?_)
            refine ql_aload (r := r1) C dX11_duplicatePairsByComparing_80 (lv_at hl 0 rfl) ?_
            refine ql_getIN C S qf_6_1 (qn_RX11_150) dX11_duplicatePairsByComparing_82 w (fun x5 w => ?_)
            refine lv_icmp_ge (tgt := 105) C.1.1 C.1.2.1 dX11_duplicatePairsByComparing_85 (by decide) (fun c9 => ?_) (fun c9 => ?_)
            · replace w := ql_if w c9
              exact hB105 (qw_X11_duplicatePairsByComparing_45 a0 Q k16 n) ih xl1 rl2 xl3 xl4 rl5 rl6 xl7 xl8 _ _ _ _ S (lv_sub hl [1, 2, 3, 4, 5, 6, 7, 8, 9] rfl) w
            · replace w := ql_ifn w c9
              refine ql_aload (r := rl5) C dX11_duplicatePairsByComparing_88 (lv_at hl 6 rfl) ?_
              refine ql_VJ (As := []) (rest := []) C S htab hlocks hl qy_X3_latestText qi_X3_latestText qs_X3_latestText gw_657 (ci := 6) rfl w (fun b w => qm_X3_latestText l hl9 D _ b _ _ w) rfl ⟨Nat.le_of_ble_eq_true rfl, Nat.le_of_ble_eq_true rfl⟩ ⟨rfl, rfl⟩ (by exact Nat.le_of_ble_eq_true rfl) (fun b e9 => by cases e9; rfl) dX11_duplicatePairsByComparing_90 ⟨Nat.le_of_ble_eq_true rfl, Nat.le_of_ble_eq_true rfl⟩ ⟨Nat.le_of_ble_eq_true rfl, Nat.le_of_ble_eq_true rfl⟩ (fun j6 h H locs S w => ?_)
              refine W.cs (cells' := 0) (slots' := 0) rfl rfl ?_
              refine ql_aload (r := r1) C dX11_duplicatePairsByComparing_93 (lv_at hl 0 rfl) ?_
              refine ql_VJ (As := []) (rest := [.long j6]) C S htab hlocks hl qy_X3_latestText qi_X3_latestText qs_X3_latestText gw_657 (ci := 6) rfl w (fun b w => qm_X3_latestText l hl9 D _ b _ _ w) rfl ⟨Nat.le_of_ble_eq_true rfl, Nat.le_of_ble_eq_true rfl⟩ ⟨rfl, rfl⟩ (by exact Nat.le_of_ble_eq_true rfl) (fun b e9 => by cases e9; rfl) dX11_duplicatePairsByComparing_95 ⟨Nat.le_of_ble_eq_true rfl, Nat.le_of_ble_eq_true rfl⟩ ⟨Nat.le_of_ble_eq_true rfl, Nat.le_of_ble_eq_true rfl⟩ (fun j8 h H locs S w => ?_)
              refine W.cs (cells' := 0) (slots' := 0) rfl rfl ?_
              refine W.lcmp C.1.1 C.1.2.1 dX11_duplicatePairsByComparing_98 ?_
              refine lv_if_ne (tgt := 105) C.1.1 C.1.2.1 dX11_duplicatePairsByComparing_99 (by decide) (fun c9 => ?_) (fun c9 => ?_)
              · replace w := ql_ifn w c9
                exact hB105 (qw_X11_duplicatePairsByComparing_45 a0 Q k16 n) ih xl1 rl2 xl3 xl4 rl5 rl6 xl7 xl8 _ _ _ _ S (lv_sub hl [1, 2, 3, 4, 5, 6, 7, 8, 9] rfl) w
              · replace w := ql_if w c9
                refine lv_iinc (v := (xl1 + (1 : Int32))) (lv' := [(1, .int (xl1 + (1 : Int32))), (9, va_rf r1), (0, .ref a0), (2, va_rf rl2), (3, .int xl3), (4, .int xl4), (5, va_rf rl5), (6, va_rf rl6), (7, .int xl7), (8, .int xl8)]) C.1.1 C.1.2.1 dX11_duplicatePairsByComparing_102 hl (k := 2) rfl rfl (by decide) rfl (fun ls hl => ?_)
                exact hB105 (qw_X11_duplicatePairsByComparing_45 a0 Q k16 n) ih (xl1 + (1 : Int32)) rl2 xl3 xl4 rl5 rl6 xl7 xl8 _ _ _ _ S (lv_sub hl [2, 0, 3, 4, 5, 6, 7, 8, 9] rfl) w
  have hB16 : ∀ n : Nat, ∀ (xl1 : Int32) (rl2 : Option Nat) (xl3 : Int32) (xl4 : Int32) (h : ql_H) (H : Heap) (locs : List Loc) (ls : Array Slot), ql_S D h0 s H locs h → lv_has ls 10 [(0, .ref a0), (1, .int xl1), (2, va_rf rl2), (3, .int xl3), (4, .int xl4)] → qw_X11_duplicatePairsByComparing_16 a0 Q n xl1 rl2 xl3 xl4 h → W p l e ({ frames := 6, cells := 0, slots := 0, locals := 106 } : Room) s m ([.ref a0] : List Value).toArray below meth c H locs 0 0 (vx_MQ below (ql_Q D h0 (ql_rI Q)) (ql_X D h0 X) ([.ref a0] : List Value).toArray s 0 0 (ql_A h0)) (F0 m 16 ls []) := by
    intro n
    induction n with
    | zero => intro xl1 rl2 xl3 xl4 h H locs ls S hl w; rw [qw_X11_duplicatePairsByComparing_16] at w; exact w.elim
    | succ n ih =>
      intro xl1 rl2 xl3 xl4 h H locs ls S hl w
      rw [qw_X11_duplicatePairsByComparing_16] at w
      refine lv_iload C.1.1 C.1.2.1 dX11_duplicatePairsByComparing_16 (lv_at hl 4 rfl) ?_
      refine lv_iload_n C.1.1 C.1.2.1 dX11_duplicatePairsByComparing_18 rfl (lv_at hl 3 rfl) ?_
      refine lv_icmp_ge (tgt := 117) C.1.1 C.1.2.1 dX11_duplicatePairsByComparing_19 (by decide) (fun c9 => ?_) (fun c9 => ?_)
      · replace w := ql_if w c9
        refine lv_iload_n C.1.1 C.1.2.1 dX11_duplicatePairsByComparing_117 rfl (lv_at hl 1 rfl) ?_
        exact ql_iret C S hr hlocks dX11_duplicatePairsByComparing_118 ⟨Nat.le_of_ble_eq_true rfl, Nat.le_of_ble_eq_true rfl⟩ w
      · replace w := ql_ifn w c9
        refine ql_aload_n (r := rl2) C dX11_duplicatePairsByComparing_22 rfl (lv_at hl 2 rfl) ?_
        refine lv_iload C.1.1 C.1.2.1 dX11_duplicatePairsByComparing_23 (lv_at hl 4 rfl) ?_
        refine ql_aald (kd := 5) C S rfl rfl dX11_duplicatePairsByComparing_25 w (fun r10 w => ?_)
        refine ql_astore (lv' := [(5, va_rf r10), (0, .ref a0), (1, .int xl1), (2, va_rf rl2), (3, .int xl3), (4, .int xl4)]) C dX11_duplicatePairsByComparing_26 hl (by decide) rfl (fun ls hl => ?_)
        refine ql_aload_n (r := (some a0)) C dX11_duplicatePairsByComparing_28 rfl (lv_at hl 1 rfl) ?_
        refine ql_getR C S qf_12_0 gw_348 dX11_duplicatePairsByComparing_29 w (fun r11 w => ?_)
        refine ql_getRN C S qf_4_0 (qn_RX11_221) dX11_duplicatePairsByComparing_32 w (fun r12 w => ?_)
        refine ql_astore (lv' := [(6, va_rf r12), (5, va_rf r10), (0, .ref a0), (1, .int xl1), (2, va_rf rl2), (3, .int xl3), (4, .int xl4)]) C dX11_duplicatePairsByComparing_35 hl (by decide) (by generalize r10 = z9; cases z9 <;> rfl) (fun ls hl => ?_)
        refine ql_aload (r := r12) C dX11_duplicatePairsByComparing_37 (lv_at hl 0 rfl) ?_
        refine ql_alen (kd := 5) C S rfl dX11_duplicatePairsByComparing_39 w (fun x13 w => ?_)
        refine lv_istore (lv' := [(7, .int x13), (6, va_rf r12), (5, va_rf r10), (0, .ref a0), (1, .int xl1), (2, va_rf rl2), (3, .int xl3), (4, .int xl4)]) C.1.1 C.1.2.1 dX11_duplicatePairsByComparing_40 hl (by decide) (by generalize r12 = z9; cases z9 <;> rfl) (fun ls hl => ?_)
        refine lv_iconst (v := (0 : Int32)) C.1.1 C.1.2.1 dX11_duplicatePairsByComparing_42 (by decide) ?_
        refine lv_istore (lv' := [(8, .int (0 : Int32)), (7, .int x13), (6, va_rf r12), (5, va_rf r10), (0, .ref a0), (1, .int xl1), (2, va_rf rl2), (3, .int xl3), (4, .int xl4)]) C.1.1 C.1.2.1 dX11_duplicatePairsByComparing_43 hl (by decide) rfl (fun ls hl => ?_)
        exact hB45 (qw_X11_duplicatePairsByComparing_16 a0 Q n) ih ql_FU xl1 rl2 xl3 xl4 r10 r12 x13 (0 : Int32) _ _ _ _ S (lv_sub hl [4, 5, 6, 7, 8, 3, 2, 1, 0] rfl) w
  unfold qw_X11_duplicatePairsByComparing at w
  refine lv_iconst (v := (0 : Int32)) C.1.1 C.1.2.1 dX11_duplicatePairsByComparing_0 (by decide) ?_
  refine lv_istore_n (lv' := [(1, .int (0 : Int32)), (0, .ref a0)]) C.1.1 C.1.2.1 dX11_duplicatePairsByComparing_1 rfl hl (by decide) rfl (fun ls hl => ?_)
  refine ql_aload_n (r := (some a0)) C dX11_duplicatePairsByComparing_2 rfl (lv_at hl 1 rfl) ?_
  refine ql_getR C S qf_12_0 gw_348 dX11_duplicatePairsByComparing_3 w (fun r14 w => ?_)
  refine ql_getRN C S qf_4_0 (qn_RX11_221) dX11_duplicatePairsByComparing_6 w (fun r15 w => ?_)
  refine ql_astore_n (lv' := [(2, va_rf r15), (1, .int (0 : Int32)), (0, .ref a0)]) C dX11_duplicatePairsByComparing_9 rfl hl (by decide) rfl (fun ls hl => ?_)
  refine ql_aload_n (r := r15) C dX11_duplicatePairsByComparing_10 rfl (lv_at hl 0 rfl) ?_
  refine ql_alen (kd := 5) C S rfl dX11_duplicatePairsByComparing_11 w (fun x16 w => ?_)
  refine lv_istore_n (lv' := [(3, .int x16), (2, va_rf r15), (1, .int (0 : Int32)), (0, .ref a0)]) C.1.1 C.1.2.1 dX11_duplicatePairsByComparing_12 rfl hl (by decide) (by generalize r15 = z9; cases z9 <;> rfl) (fun ls hl => ?_)
  refine lv_iconst (v := (0 : Int32)) C.1.1 C.1.2.1 dX11_duplicatePairsByComparing_13 (by decide) ?_
  refine lv_istore (lv' := [(4, .int (0 : Int32)), (3, .int x16), (2, va_rf r15), (1, .int (0 : Int32)), (0, .ref a0)]) C.1.1 C.1.2.1 dX11_duplicatePairsByComparing_14 hl (by decide) rfl (fun ls hl => ?_)
  exact hB16 ql_FU (0 : Int32) r15 x16 (0 : Int32) _ _ _ _ S (lv_sub hl [4, 3, 2, 1, 0] rfl) w
def qw_X11_citeCount (a0 : Nat) (xp1 : Int32) (h : ql_H) (Q : Int32 → ql_H → Prop) (X : String → ql_H → Prop) : Prop :=
ql_rv h (some a0) 12 fun b1 => qw_X11_clauseOf b1 xp1 h (fun r1 h =>
ql_rv h r1 6 fun b3 => qw_X3_countCites b3  h (fun x3 h =>
Q x3 h)) X
set_option maxHeartbeats 4000000 in
set_option maxRecDepth 100000 in
theorem qm_X11_citeCount (l : Launch) (hl9 : l.stackTraces = false) (D : ql_D) (h0 : ql_H) (a0 : Nat) (xp1 : Int32) (Q : Int32 → ql_H → Prop) (X : String → ql_H → Prop) (w : qw_X11_citeCount a0 xp1 h0 Q X) : ql_M D l yX11_citeCount cX11_citeCount 2 (some .int) ({ frames := 12, cells := 1, slots := 6, locals := 158 } : Room) h0 [.ref a0, .int xp1] (ql_rI Q) X 1 6 := by
  refine ql_ofW (by decide) (Nat.le_of_ble_eq_true rfl) ?_
  intro p e s m below meth c ls C hr hlocks hnm htab S hl
  have hl : lv_has ls 2 [(0, .ref a0), (1, .int xp1)] := hl
  unfold qw_X11_citeCount at w
  refine ql_aload_n (r := (some a0)) C dX11_citeCount_0 rfl (lv_at hl 0 rfl) ?_
  refine lv_iload_n C.1.1 C.1.2.1 dX11_citeCount_1 rfl (lv_at hl 1 rfl) ?_
  refine ql_VR (As := [.int xp1]) (rest := []) C S htab hlocks hl qy_X11_clauseOf qi_X11_clauseOf qs_X11_clauseOf gw_995 (ci := 12) rfl w (fun b w => qm_X11_clauseOf l hl9 D _ b xp1 _ _ w) rfl ⟨Nat.le_of_ble_eq_true rfl, Nat.le_of_ble_eq_true rfl⟩ ⟨rfl, rfl⟩ (by exact Nat.le_of_ble_eq_true rfl) (fun b e9 => by cases e9; rfl) dX11_citeCount_2 ⟨Nat.le_of_ble_eq_true rfl, Nat.le_of_ble_eq_true rfl⟩ ⟨Nat.le_of_ble_eq_true rfl, Nat.le_of_ble_eq_true rfl⟩ (fun r1 h H locs S w => ?_)
  refine W.cs (cells' := 1) (slots' := 6) rfl rfl ?_
  refine ql_VI (As := []) (rest := []) C S htab hlocks hl qy_X3_countCites qi_X3_countCites qs_X3_countCites gw_1107 (ci := 6) rfl w (fun b w => qm_X3_countCites l hl9 D _ b _ _ w) rfl ⟨Nat.le_of_ble_eq_true rfl, Nat.le_of_ble_eq_true rfl⟩ ⟨rfl, rfl⟩ (by exact Nat.le_of_ble_eq_true rfl) (fun b e9 => by cases e9; rfl) dX11_citeCount_5 ⟨Nat.le_of_ble_eq_true rfl, Nat.le_of_ble_eq_true rfl⟩ ⟨Nat.le_of_ble_eq_true rfl, Nat.le_of_ble_eq_true rfl⟩ (fun x3 h H locs S w => ?_)
  refine W.cs (cells' := 1) (slots' := 6) rfl rfl ?_
  exact ql_iret C S hr hlocks dX11_citeCount_8 ⟨Nat.le_of_ble_eq_true rfl, Nat.le_of_ble_eq_true rfl⟩ w
def qw_X11_citeAt (a0 : Nat) (xp1 : Int32) (xp2 : Int32) (h : ql_H) (Q : Int32 → ql_H → Prop) (X : String → ql_H → Prop) : Prop :=
ql_rv h (some a0) 12 fun b1 => qw_X11_clauseOf b1 xp1 h (fun r1 h =>
ql_rv h r1 6 fun b3 => qw_X3_citeAtPlace b3 xp2 h (fun x3 h =>
if x3 = (-1 : Int32) then (∀ n9 : Nat, h.1 ≤ n9 → X "java/lang/IndexOutOfBoundsException" (n9, h.2)) else (Q x3 h))) X
set_option maxHeartbeats 4000000 in
set_option maxRecDepth 100000 in
theorem qm_X11_citeAt (l : Launch) (hl9 : l.stackTraces = false) (D : ql_D) (h0 : ql_H) (a0 : Nat) (xp1 : Int32) (xp2 : Int32) (Q : Int32 → ql_H → Prop) (X : String → ql_H → Prop) (w : qw_X11_citeAt a0 xp1 xp2 h0 Q X) : ql_M D l yX11_citeAt cX11_citeAt 4 (some .int) ({ frames := 12, cells := 2, slots := 12, locals := 158 } : Room) h0 [.ref a0, .int xp1, .int xp2] (ql_rI Q) X 2 12 := by
  refine ql_ofW (by decide) (Nat.le_of_ble_eq_true rfl) ?_
  intro p e s m below meth c ls C hr hlocks hnm htab S hl
  have hl : lv_has ls 4 [(0, .ref a0), (1, .int xp1), (2, .int xp2)] := hl
  unfold qw_X11_citeAt at w
  refine ql_aload_n (r := (some a0)) C dX11_citeAt_0 rfl (lv_at hl 0 rfl) ?_
  refine lv_iload_n C.1.1 C.1.2.1 dX11_citeAt_1 rfl (lv_at hl 1 rfl) ?_
  refine ql_VR (As := [.int xp1]) (rest := []) C S htab hlocks hl qy_X11_clauseOf qi_X11_clauseOf qs_X11_clauseOf gw_995 (ci := 12) rfl w (fun b w => qm_X11_clauseOf l hl9 D _ b xp1 _ _ w) rfl ⟨Nat.le_of_ble_eq_true rfl, Nat.le_of_ble_eq_true rfl⟩ ⟨rfl, rfl⟩ (by exact Nat.le_of_ble_eq_true rfl) (fun b e9 => by cases e9; rfl) dX11_citeAt_2 ⟨Nat.le_of_ble_eq_true rfl, Nat.le_of_ble_eq_true rfl⟩ ⟨Nat.le_of_ble_eq_true rfl, Nat.le_of_ble_eq_true rfl⟩ (fun r1 h H locs S w => ?_)
  refine W.cs (cells' := 1) (slots' := 6) rfl rfl ?_
  refine lv_iload_n C.1.1 C.1.2.1 dX11_citeAt_5 rfl (lv_at hl 2 rfl) ?_
  refine ql_VI (As := [.int xp2]) (rest := []) C S htab hlocks hl qy_X3_citeAtPlace qi_X3_citeAtPlace qs_X3_citeAtPlace gw_1115 (ci := 6) rfl w (fun b w => qm_X3_citeAtPlace l hl9 D _ b xp2 _ _ w) rfl ⟨Nat.le_of_ble_eq_true rfl, Nat.le_of_ble_eq_true rfl⟩ ⟨rfl, rfl⟩ (by exact Nat.le_of_ble_eq_true rfl) (fun b e9 => by cases e9; rfl) dX11_citeAt_6 ⟨Nat.le_of_ble_eq_true rfl, Nat.le_of_ble_eq_true rfl⟩ ⟨Nat.le_of_ble_eq_true rfl, Nat.le_of_ble_eq_true rfl⟩ (fun x3 h H locs S w => ?_)
  refine W.cs (cells' := 1) (slots' := 6) rfl rfl ?_
  refine lv_istore_n (lv' := [(3, .int x3), (0, .ref a0), (1, .int xp1), (2, .int xp2)]) C.1.1 C.1.2.1 dX11_citeAt_9 rfl hl (by decide) rfl (fun ls hl => ?_)
  refine lv_iload_n C.1.1 C.1.2.1 dX11_citeAt_10 rfl (lv_at hl 0 rfl) ?_
  refine lv_iconst (v := (-1 : Int32)) C.1.1 C.1.2.1 dX11_citeAt_11 (by decide) ?_
  refine lv_icmp_ne (tgt := 23) C.1.1 C.1.2.1 dX11_citeAt_12 (by decide) (fun c9 => ?_) (fun c9 => ?_)
  · replace w := ql_ifn w c9
    refine lv_iload_n C.1.1 C.1.2.1 dX11_citeAt_23 rfl (lv_at hl 0 rfl) ?_
    exact ql_iret C S hr hlocks dX11_citeAt_24 ⟨Nat.le_of_ble_eq_true rfl, Nat.le_of_ble_eq_true rfl⟩ w
  · replace w := ql_if w c9
    exact ql_throw trivial C S qx_RX11_126 gw_557 gw_93 hl htab hlocks hl9 dX11_citeAt_15 dX11_citeAt_18 dX11_citeAt_19 dX11_citeAt_22 ⟨Nat.le_of_ble_eq_true rfl, Nat.le_of_ble_eq_true rfl, Nat.le_of_ble_eq_true rfl⟩ (by exact Nat.le_of_ble_eq_true rfl) ⟨Nat.le_of_ble_eq_true rfl, Nat.le_of_ble_eq_true rfl⟩ w
def qw_X11_brokenCites (a0 : Nat) (h : ql_H) (Q : Int32 → ql_H → Prop) : Prop :=
ql_gR h (some a0) 12 0 fun r1 =>
ql_rv h r1 4 fun b2 => qw_X1_countBrokenCites b2  h (fun x2 h =>
Q x2 h)
set_option maxHeartbeats 4000000 in
set_option maxRecDepth 100000 in
theorem qm_X11_brokenCites (l : Launch) (hl9 : l.stackTraces = false) (D : ql_D) (h0 : ql_H) (a0 : Nat) (Q : Int32 → ql_H → Prop) (X : String → ql_H → Prop) (w : qw_X11_brokenCites a0 h0 Q) : ql_M D l yX11_brokenCites cX11_brokenCites 1 (some .int) ({ frames := 8, cells := 0, slots := 0, locals := 144 } : Room) h0 [.ref a0] (ql_rI Q) X 0 0 := by
  refine ql_ofW (by decide) (Nat.le_of_ble_eq_true rfl) ?_
  intro p e s m below meth c ls C hr hlocks hnm htab S hl
  have hl : lv_has ls 1 [(0, .ref a0)] := hl
  unfold qw_X11_brokenCites at w
  refine ql_aload_n (r := (some a0)) C dX11_brokenCites_0 rfl (lv_at hl 0 rfl) ?_
  refine ql_getR C S qf_12_0 gw_348 dX11_brokenCites_1 w (fun r1 w => ?_)
  refine ql_VI (As := []) (rest := []) C S htab hlocks hl qy_X1_countBrokenCites qi_X1_countBrokenCites qs_X1_countBrokenCites gw_674 (ci := 4) rfl w (fun b w => qm_X1_countBrokenCites l hl9 D _ b _ _ w) rfl ⟨Nat.le_of_ble_eq_true rfl, Nat.le_of_ble_eq_true rfl⟩ ⟨rfl, rfl⟩ (by exact Nat.le_of_ble_eq_true rfl) (fun b e9 => by cases e9; rfl) dX11_brokenCites_4 ⟨Nat.le_of_ble_eq_true rfl, Nat.le_of_ble_eq_true rfl⟩ ⟨Nat.le_of_ble_eq_true rfl, Nat.le_of_ble_eq_true rfl⟩ (fun x2 h H locs S w => ?_)
  refine W.cs (cells' := 0) (slots' := 0) rfl rfl ?_
  exact ql_iret C S hr hlocks dX11_brokenCites_7 ⟨Nat.le_of_ble_eq_true rfl, Nat.le_of_ble_eq_true rfl⟩ w
def qw_X11_slotOf (a0 : Nat) (xp1 : Int32) (h : ql_H) (Q : Int32 → ql_H → Prop) (X : String → ql_H → Prop) : Prop :=
ql_gR h (some a0) 12 0 fun r1 =>
ql_rv h r1 4 fun b2 => qw_X1_slotWithId b2 xp1 h (fun x2 h =>
if x2 = (-1 : Int32) then (∀ n9 : Nat, h.1 ≤ n9 → X "java/util/NoSuchElementException" (n9, h.2)) else (Q x2 h))
set_option maxHeartbeats 4000000 in
set_option maxRecDepth 100000 in
theorem qm_X11_slotOf (l : Launch) (hl9 : l.stackTraces = false) (D : ql_D) (h0 : ql_H) (a0 : Nat) (xp1 : Int32) (Q : Int32 → ql_H → Prop) (X : String → ql_H → Prop) (w : qw_X11_slotOf a0 xp1 h0 Q X) : ql_M D l yX11_slotOf cX11_slotOf 3 (some .int) ({ frames := 8, cells := 1, slots := 6, locals := 101 } : Room) h0 [.ref a0, .int xp1] (ql_rI Q) X 1 6 := by
  refine ql_ofW (by decide) (Nat.le_of_ble_eq_true rfl) ?_
  intro p e s m below meth c ls C hr hlocks hnm htab S hl
  have hl : lv_has ls 3 [(0, .ref a0), (1, .int xp1)] := hl
  unfold qw_X11_slotOf at w
  refine ql_aload_n (r := (some a0)) C dX11_slotOf_0 rfl (lv_at hl 0 rfl) ?_
  refine ql_getR C S qf_12_0 gw_348 dX11_slotOf_1 w (fun r1 w => ?_)
  refine lv_iload_n C.1.1 C.1.2.1 dX11_slotOf_4 rfl (lv_at hl 1 rfl) ?_
  refine ql_VI (As := [.int xp1]) (rest := []) C S htab hlocks hl qy_X1_slotWithId qi_X1_slotWithId qs_X1_slotWithId gw_1127 (ci := 4) rfl w (fun b w => qm_X1_slotWithId l hl9 D _ b xp1 _ _ w) rfl ⟨Nat.le_of_ble_eq_true rfl, Nat.le_of_ble_eq_true rfl⟩ ⟨rfl, rfl⟩ (by exact Nat.le_of_ble_eq_true rfl) (fun b e9 => by cases e9; rfl) dX11_slotOf_5 ⟨Nat.le_of_ble_eq_true rfl, Nat.le_of_ble_eq_true rfl⟩ ⟨Nat.le_of_ble_eq_true rfl, Nat.le_of_ble_eq_true rfl⟩ (fun x2 h H locs S w => ?_)
  refine W.cs (cells' := 0) (slots' := 0) rfl rfl ?_
  refine lv_istore_n (lv' := [(2, .int x2), (0, .ref a0), (1, .int xp1)]) C.1.1 C.1.2.1 dX11_slotOf_8 rfl hl (by decide) rfl (fun ls hl => ?_)
  refine lv_iload_n C.1.1 C.1.2.1 dX11_slotOf_9 rfl (lv_at hl 0 rfl) ?_
  refine lv_iconst (v := (-1 : Int32)) C.1.1 C.1.2.1 dX11_slotOf_10 (by decide) ?_
  refine lv_icmp_ne (tgt := 22) C.1.1 C.1.2.1 dX11_slotOf_11 (by decide) (fun c9 => ?_) (fun c9 => ?_)
  · replace w := ql_ifn w c9
    refine lv_iload_n C.1.1 C.1.2.1 dX11_slotOf_22 rfl (lv_at hl 0 rfl) ?_
    exact ql_iret C S hr hlocks dX11_slotOf_23 ⟨Nat.le_of_ble_eq_true rfl, Nat.le_of_ble_eq_true rfl⟩ w
  · replace w := ql_if w c9
    exact ql_throw trivial C S qx_RX11_123 gw_488 gw_92 hl htab hlocks hl9 dX11_slotOf_14 dX11_slotOf_17 dX11_slotOf_18 dX11_slotOf_21 ⟨Nat.le_of_ble_eq_true rfl, Nat.le_of_ble_eq_true rfl, Nat.le_of_ble_eq_true rfl⟩ (by exact Nat.le_of_ble_eq_true rfl) ⟨Nat.le_of_ble_eq_true rfl, Nat.le_of_ble_eq_true rfl⟩ w
def qw_X11_citesIndirectly (a0 : Nat) (xp1 : Int32) (xp2 : Int32) (h : ql_H) (Q : Int32 → ql_H → Prop) (X : String → ql_H → Prop) : Prop :=
ql_rv h (some a0) 12 fun b1 => qw_X11_slotOf b1 xp1 h (fun x1 h =>
ql_rv h (some a0) 12 fun b3 => qw_X11_slotOf b3 xp2 h (fun x3 h =>
ql_gR h (some a0) 12 10 fun r5 =>
ql_gR h (some a0) 12 0 fun r6 =>
ql_rv h r5 5 fun b6 => qw_X2_read b6 r6 h (fun h =>
ql_gR h (some a0) 12 10 fun r8 =>
ql_rv h r8 5 fun b9 => qw_X2_slotsFoundFrom b9 x1 h (fun x9 h =>
qw_X2_hasSlot x9 x3 h (fun x11 h =>
ql_nz .boolean x11 ∧ Q x11 h)))) X) X
set_option maxHeartbeats 4000000 in
set_option maxRecDepth 100000 in
theorem qm_X11_citesIndirectly (l : Launch) (hl9 : l.stackTraces = false) (D : ql_D) (h0 : ql_H) (a0 : Nat) (xp1 : Int32) (xp2 : Int32) (Q : Int32 → ql_H → Prop) (X : String → ql_H → Prop) (w : qw_X11_citesIndirectly a0 xp1 xp2 h0 Q X) : ql_M D l yX11_citesIndirectly cX11_citesIndirectly 5 (some .boolean) ({ frames := 10, cells := 2, slots := 12, locals := 142 } : Room) h0 [.ref a0, .int xp1, .int xp2] (ql_rI Q) X 2 12 := by
  refine ql_ofW (by decide) (Nat.le_of_ble_eq_true rfl) ?_
  intro p e s m below meth c ls C hr hlocks hnm htab S hl
  have hl : lv_has ls 5 [(0, .ref a0), (1, .int xp1), (2, .int xp2)] := hl
  unfold qw_X11_citesIndirectly at w
  refine ql_aload_n (r := (some a0)) C dX11_citesIndirectly_0 rfl (lv_at hl 0 rfl) ?_
  refine lv_iload_n C.1.1 C.1.2.1 dX11_citesIndirectly_1 rfl (lv_at hl 1 rfl) ?_
  refine ql_VI (As := [.int xp1]) (rest := []) C S htab hlocks hl qy_X11_slotOf qi_X11_slotOf qs_X11_slotOf gw_1123 (ci := 12) rfl w (fun b w => qm_X11_slotOf l hl9 D _ b xp1 _ _ w) rfl ⟨Nat.le_of_ble_eq_true rfl, Nat.le_of_ble_eq_true rfl⟩ ⟨rfl, rfl⟩ (by exact Nat.le_of_ble_eq_true rfl) (fun b e9 => by cases e9; rfl) dX11_citesIndirectly_2 ⟨Nat.le_of_ble_eq_true rfl, Nat.le_of_ble_eq_true rfl⟩ ⟨Nat.le_of_ble_eq_true rfl, Nat.le_of_ble_eq_true rfl⟩ (fun x1 h H locs S w => ?_)
  refine W.cs (cells' := 1) (slots' := 6) rfl rfl ?_
  refine lv_istore_n (lv' := [(3, .int x1), (0, .ref a0), (1, .int xp1), (2, .int xp2)]) C.1.1 C.1.2.1 dX11_citesIndirectly_5 rfl hl (by decide) rfl (fun ls hl => ?_)
  refine ql_aload_n (r := (some a0)) C dX11_citesIndirectly_6 rfl (lv_at hl 1 rfl) ?_
  refine lv_iload_n C.1.1 C.1.2.1 dX11_citesIndirectly_7 rfl (lv_at hl 3 rfl) ?_
  refine ql_VI (As := [.int xp2]) (rest := []) C S htab hlocks hl qy_X11_slotOf qi_X11_slotOf qs_X11_slotOf gw_1123 (ci := 12) rfl w (fun b w => qm_X11_slotOf l hl9 D _ b xp2 _ _ w) rfl ⟨Nat.le_of_ble_eq_true rfl, Nat.le_of_ble_eq_true rfl⟩ ⟨rfl, rfl⟩ (by exact Nat.le_of_ble_eq_true rfl) (fun b e9 => by cases e9; rfl) dX11_citesIndirectly_8 ⟨Nat.le_of_ble_eq_true rfl, Nat.le_of_ble_eq_true rfl⟩ ⟨Nat.le_of_ble_eq_true rfl, Nat.le_of_ble_eq_true rfl⟩ (fun x3 h H locs S w => ?_)
  refine W.cs (cells' := 2) (slots' := 12) rfl rfl ?_
  refine lv_istore (lv' := [(4, .int x3), (3, .int x1), (0, .ref a0), (1, .int xp1), (2, .int xp2)]) C.1.1 C.1.2.1 dX11_citesIndirectly_11 hl (by decide) rfl (fun ls hl => ?_)
  refine ql_aload_n (r := (some a0)) C dX11_citesIndirectly_13 rfl (lv_at hl 2 rfl) ?_
  refine ql_getR C S qf_12_10 gw_358 dX11_citesIndirectly_14 w (fun r5 w => ?_)
  refine ql_aload_n (r := (some a0)) C dX11_citesIndirectly_17 rfl (lv_at hl 2 rfl) ?_
  refine ql_getR C S qf_12_0 gw_348 dX11_citesIndirectly_18 w (fun r6 w => ?_)
  refine ql_VV (As := [va_rf r6]) (rest := []) C S htab hlocks hl qy_X2_read qi_X2_read qs_X2_read gw_738 (ci := 5) rfl w (fun b w => qm_X2_read l hl9 D _ b r6 _ _ w) rfl ⟨Nat.le_of_ble_eq_true rfl, Nat.le_of_ble_eq_true rfl⟩ ⟨rfl, rfl⟩ (by exact Nat.le_of_ble_eq_true rfl) (fun b e9 => by cases e9; rfl) dX11_citesIndirectly_21 ⟨Nat.le_of_ble_eq_true rfl, Nat.le_of_ble_eq_true rfl⟩ ⟨Nat.le_of_ble_eq_true rfl, Nat.le_of_ble_eq_true rfl⟩ (fun h H locs S w => ?_)
  refine W.cs (cells' := 2) (slots' := 12) rfl rfl ?_
  refine ql_aload_n (r := (some a0)) C dX11_citesIndirectly_24 rfl (lv_at hl 2 rfl) ?_
  refine ql_getR C S qf_12_10 gw_358 dX11_citesIndirectly_25 w (fun r8 w => ?_)
  refine lv_iload_n C.1.1 C.1.2.1 dX11_citesIndirectly_28 rfl (lv_at hl 1 rfl) ?_
  refine ql_VI (As := [.int x1]) (rest := []) C S htab hlocks hl qy_X2_slotsFoundFrom qi_X2_slotsFoundFrom qs_X2_slotsFoundFrom gw_756 (ci := 5) rfl w (fun b w => qm_X2_slotsFoundFrom l hl9 D _ b x1 _ _ w) rfl ⟨Nat.le_of_ble_eq_true rfl, Nat.le_of_ble_eq_true rfl⟩ ⟨rfl, rfl⟩ (by exact Nat.le_of_ble_eq_true rfl) (fun b e9 => by cases e9; rfl) dX11_citesIndirectly_29 ⟨Nat.le_of_ble_eq_true rfl, Nat.le_of_ble_eq_true rfl⟩ ⟨Nat.le_of_ble_eq_true rfl, Nat.le_of_ble_eq_true rfl⟩ (fun x9 h H locs S w => ?_)
  refine W.cs (cells' := 2) (slots' := 12) rfl rfl ?_
  refine lv_iload C.1.1 C.1.2.1 dX11_citesIndirectly_32 (lv_at hl 0 rfl) ?_
  refine ql_SI (As := [.int x9, .int x3]) (rest := []) C S htab hlocks hl qy_X2_hasSlot qi_X2_hasSlot gw_1128 (qm_X2_hasSlot l hl9 D _ x9 x3 _ _ w) rfl ⟨Nat.le_of_ble_eq_true rfl, Nat.le_of_ble_eq_true rfl⟩ ⟨rfl, rfl⟩ (by exact Nat.le_of_ble_eq_true rfl) rfl dX11_citesIndirectly_34 ⟨Nat.le_of_ble_eq_true rfl, Nat.le_of_ble_eq_true rfl⟩ ⟨Nat.le_of_ble_eq_true rfl, Nat.le_of_ble_eq_true rfl⟩ (fun x11 h H locs S w => ?_)
  refine W.cs (cells' := 2) (slots' := 12) rfl rfl ?_
  exact ql_zret C S hr hlocks dX11_citesIndirectly_37 ⟨Nat.le_of_ble_eq_true rfl, Nat.le_of_ble_eq_true rfl⟩ w
def qw_X11_citesByClosure (a0 : Nat) (xp1 : Int32) (xp2 : Int32) (h : ql_H) (Q : Int32 → ql_H → Prop) (X : String → ql_H → Prop) : Prop :=
ql_rv h (some a0) 12 fun b1 => qw_X11_slotOf b1 xp1 h (fun x1 h =>
ql_rv h (some a0) 12 fun b3 => qw_X11_slotOf b3 xp2 h (fun x3 h =>
ql_gR h (some a0) 12 10 fun r5 =>
ql_gR h (some a0) 12 0 fun r6 =>
ql_rv h r5 5 fun b6 => qw_X2_read b6 r6 h (fun h =>
ql_gR h (some a0) 12 10 fun r8 =>
ql_rv h r8 5 fun b8 => qw_X2_close b8  h (fun h =>
ql_gR h (some a0) 12 10 fun r10 =>
ql_rv h r10 5 fun b11 => qw_X2_slotsClosedFrom b11 x1 h (fun x11 h =>
qw_X2_hasSlot x11 x3 h (fun x13 h =>
ql_nz .boolean x13 ∧ Q x13 h))))) X) X
set_option maxHeartbeats 4000000 in
set_option maxRecDepth 100000 in
theorem qm_X11_citesByClosure (l : Launch) (hl9 : l.stackTraces = false) (D : ql_D) (h0 : ql_H) (a0 : Nat) (xp1 : Int32) (xp2 : Int32) (Q : Int32 → ql_H → Prop) (X : String → ql_H → Prop) (w : qw_X11_citesByClosure a0 xp1 xp2 h0 Q X) : ql_M D l yX11_citesByClosure cX11_citesByClosure 5 (some .boolean) ({ frames := 10, cells := 2, slots := 12, locals := 142 } : Room) h0 [.ref a0, .int xp1, .int xp2] (ql_rI Q) X 2 12 := by
  refine ql_ofW (by decide) (Nat.le_of_ble_eq_true rfl) ?_
  intro p e s m below meth c ls C hr hlocks hnm htab S hl
  have hl : lv_has ls 5 [(0, .ref a0), (1, .int xp1), (2, .int xp2)] := hl
  unfold qw_X11_citesByClosure at w
  refine ql_aload_n (r := (some a0)) C dX11_citesByClosure_0 rfl (lv_at hl 0 rfl) ?_
  refine lv_iload_n C.1.1 C.1.2.1 dX11_citesByClosure_1 rfl (lv_at hl 1 rfl) ?_
  refine ql_VI (As := [.int xp1]) (rest := []) C S htab hlocks hl qy_X11_slotOf qi_X11_slotOf qs_X11_slotOf gw_1123 (ci := 12) rfl w (fun b w => qm_X11_slotOf l hl9 D _ b xp1 _ _ w) rfl ⟨Nat.le_of_ble_eq_true rfl, Nat.le_of_ble_eq_true rfl⟩ ⟨rfl, rfl⟩ (by exact Nat.le_of_ble_eq_true rfl) (fun b e9 => by cases e9; rfl) dX11_citesByClosure_2 ⟨Nat.le_of_ble_eq_true rfl, Nat.le_of_ble_eq_true rfl⟩ ⟨Nat.le_of_ble_eq_true rfl, Nat.le_of_ble_eq_true rfl⟩ (fun x1 h H locs S w => ?_)
  refine W.cs (cells' := 1) (slots' := 6) rfl rfl ?_
  refine lv_istore_n (lv' := [(3, .int x1), (0, .ref a0), (1, .int xp1), (2, .int xp2)]) C.1.1 C.1.2.1 dX11_citesByClosure_5 rfl hl (by decide) rfl (fun ls hl => ?_)
  refine ql_aload_n (r := (some a0)) C dX11_citesByClosure_6 rfl (lv_at hl 1 rfl) ?_
  refine lv_iload_n C.1.1 C.1.2.1 dX11_citesByClosure_7 rfl (lv_at hl 3 rfl) ?_
  refine ql_VI (As := [.int xp2]) (rest := []) C S htab hlocks hl qy_X11_slotOf qi_X11_slotOf qs_X11_slotOf gw_1123 (ci := 12) rfl w (fun b w => qm_X11_slotOf l hl9 D _ b xp2 _ _ w) rfl ⟨Nat.le_of_ble_eq_true rfl, Nat.le_of_ble_eq_true rfl⟩ ⟨rfl, rfl⟩ (by exact Nat.le_of_ble_eq_true rfl) (fun b e9 => by cases e9; rfl) dX11_citesByClosure_8 ⟨Nat.le_of_ble_eq_true rfl, Nat.le_of_ble_eq_true rfl⟩ ⟨Nat.le_of_ble_eq_true rfl, Nat.le_of_ble_eq_true rfl⟩ (fun x3 h H locs S w => ?_)
  refine W.cs (cells' := 2) (slots' := 12) rfl rfl ?_
  refine lv_istore (lv' := [(4, .int x3), (3, .int x1), (0, .ref a0), (1, .int xp1), (2, .int xp2)]) C.1.1 C.1.2.1 dX11_citesByClosure_11 hl (by decide) rfl (fun ls hl => ?_)
  refine ql_aload_n (r := (some a0)) C dX11_citesByClosure_13 rfl (lv_at hl 2 rfl) ?_
  refine ql_getR C S qf_12_10 gw_358 dX11_citesByClosure_14 w (fun r5 w => ?_)
  refine ql_aload_n (r := (some a0)) C dX11_citesByClosure_17 rfl (lv_at hl 2 rfl) ?_
  refine ql_getR C S qf_12_0 gw_348 dX11_citesByClosure_18 w (fun r6 w => ?_)
  refine ql_VV (As := [va_rf r6]) (rest := []) C S htab hlocks hl qy_X2_read qi_X2_read qs_X2_read gw_738 (ci := 5) rfl w (fun b w => qm_X2_read l hl9 D _ b r6 _ _ w) rfl ⟨Nat.le_of_ble_eq_true rfl, Nat.le_of_ble_eq_true rfl⟩ ⟨rfl, rfl⟩ (by exact Nat.le_of_ble_eq_true rfl) (fun b e9 => by cases e9; rfl) dX11_citesByClosure_21 ⟨Nat.le_of_ble_eq_true rfl, Nat.le_of_ble_eq_true rfl⟩ ⟨Nat.le_of_ble_eq_true rfl, Nat.le_of_ble_eq_true rfl⟩ (fun h H locs S w => ?_)
  refine W.cs (cells' := 2) (slots' := 12) rfl rfl ?_
  refine ql_aload_n (r := (some a0)) C dX11_citesByClosure_24 rfl (lv_at hl 2 rfl) ?_
  refine ql_getR C S qf_12_10 gw_358 dX11_citesByClosure_25 w (fun r8 w => ?_)
  refine ql_VV (As := []) (rest := []) C S htab hlocks hl qy_X2_close qi_X2_close qs_X2_close gw_748 (ci := 5) rfl w (fun b w => qm_X2_close l hl9 D _ b _ _ w) rfl ⟨Nat.le_of_ble_eq_true rfl, Nat.le_of_ble_eq_true rfl⟩ ⟨rfl, rfl⟩ (by exact Nat.le_of_ble_eq_true rfl) (fun b e9 => by cases e9; rfl) dX11_citesByClosure_28 ⟨Nat.le_of_ble_eq_true rfl, Nat.le_of_ble_eq_true rfl⟩ ⟨Nat.le_of_ble_eq_true rfl, Nat.le_of_ble_eq_true rfl⟩ (fun h H locs S w => ?_)
  refine W.cs (cells' := 2) (slots' := 12) rfl rfl ?_
  refine ql_aload_n (r := (some a0)) C dX11_citesByClosure_31 rfl (lv_at hl 2 rfl) ?_
  refine ql_getR C S qf_12_10 gw_358 dX11_citesByClosure_32 w (fun r10 w => ?_)
  refine lv_iload_n C.1.1 C.1.2.1 dX11_citesByClosure_35 rfl (lv_at hl 1 rfl) ?_
  refine ql_VI (As := [.int x1]) (rest := []) C S htab hlocks hl qy_X2_slotsClosedFrom qi_X2_slotsClosedFrom qs_X2_slotsClosedFrom gw_760 (ci := 5) rfl w (fun b w => qm_X2_slotsClosedFrom l hl9 D _ b x1 _ _ w) rfl ⟨Nat.le_of_ble_eq_true rfl, Nat.le_of_ble_eq_true rfl⟩ ⟨rfl, rfl⟩ (by exact Nat.le_of_ble_eq_true rfl) (fun b e9 => by cases e9; rfl) dX11_citesByClosure_36 ⟨Nat.le_of_ble_eq_true rfl, Nat.le_of_ble_eq_true rfl⟩ ⟨Nat.le_of_ble_eq_true rfl, Nat.le_of_ble_eq_true rfl⟩ (fun x11 h H locs S w => ?_)
  refine W.cs (cells' := 2) (slots' := 12) rfl rfl ?_
  refine lv_iload C.1.1 C.1.2.1 dX11_citesByClosure_39 (lv_at hl 0 rfl) ?_
  refine ql_SI (As := [.int x11, .int x3]) (rest := []) C S htab hlocks hl qy_X2_hasSlot qi_X2_hasSlot gw_1128 (qm_X2_hasSlot l hl9 D _ x11 x3 _ _ w) rfl ⟨Nat.le_of_ble_eq_true rfl, Nat.le_of_ble_eq_true rfl⟩ ⟨rfl, rfl⟩ (by exact Nat.le_of_ble_eq_true rfl) rfl dX11_citesByClosure_41 ⟨Nat.le_of_ble_eq_true rfl, Nat.le_of_ble_eq_true rfl⟩ ⟨Nat.le_of_ble_eq_true rfl, Nat.le_of_ble_eq_true rfl⟩ (fun x13 h H locs S w => ?_)
  refine W.cs (cells' := 2) (slots' := 12) rfl rfl ?_
  exact ql_zret C S hr hlocks dX11_citesByClosure_44 ⟨Nat.le_of_ble_eq_true rfl, Nat.le_of_ble_eq_true rfl⟩ w
def qw_X11_countRankedBefore_76 (a0 : Nat) (Q : Int32 → ql_H → Prop) (k5 : Option Nat → Int32 → Int32 → Int32 → ql_H → Prop) (rl1 : Option Nat) (xl2 : Int32) (xl3 : Int32) (xl4 : Int32) (h : ql_H) : Prop :=
k5 rl1 xl2 xl3 (xl4 + (1 : Int32)) h
def qw_X11_countRankedBefore_73 (a0 : Nat) (Q : Int32 → ql_H → Prop) (k5 : Option Nat → Int32 → Int32 → Int32 → ql_H → Prop) (rl1 : Option Nat) (xl2 : Int32) (xl3 : Int32) (xl4 : Int32) (h : ql_H) : Prop :=
qw_X11_countRankedBefore_76 a0 Q k5 rl1 xl2 (xl3 + (1 : Int32)) xl4 h
def qw_X11_countRankedBefore_5 (a0 : Nat) (Q : Int32 → ql_H → Prop) : Nat → Option Nat → Int32 → Int32 → Int32 → ql_H → Prop
  | 0, _, _, _, _, _ => False
  | n + 1, rl1, xl2, xl3, xl4, h =>
    ql_gR h (some a0) 12 0 fun r1 =>
    ql_gR h r1 4 0 fun r2 =>
    ql_len h r2 5 fun x3 =>
    if x3 ≤ xl4 then (Q xl3 h) else (ql_gR h (some a0) 12 0 fun r4 =>
    ql_gR h r4 4 0 fun r5 =>
    ql_lR h r5 5 xl4 fun r6 =>
    ql_gR h (some a0) 12 10 fun r7 =>
    ql_rv h r7 5 fun b8 => qw_X2_countCiters b8 xl4 h (fun x8 h =>
    ql_gI h r6 6 0 fun x10 =>
    if x10 = 0 then (qw_X11_countRankedBefore_76 a0 Q (qw_X11_countRankedBefore_5 a0 Q n) rl1 xl2 xl3 xl4 h) else (if xl2 < x8 then (qw_X11_countRankedBefore_73 a0 Q (qw_X11_countRankedBefore_5 a0 Q n) rl1 xl2 xl3 xl4 h) else (if x8 = xl2 then (ql_gI h r6 6 2 fun x11 =>
    ql_gI h rl1 6 2 fun x12 =>
    if x12 ≤ x11 then (qw_X11_countRankedBefore_76 a0 Q (qw_X11_countRankedBefore_5 a0 Q n) rl1 xl2 xl3 xl4 h) else (qw_X11_countRankedBefore_73 a0 Q (qw_X11_countRankedBefore_5 a0 Q n) rl1 xl2 xl3 xl4 h)) else (qw_X11_countRankedBefore_76 a0 Q (qw_X11_countRankedBefore_5 a0 Q n) rl1 xl2 xl3 xl4 h)))))
def qw_X11_countRankedBefore (a0 : Nat) (rp1 : Option Nat) (xp2 : Int32) (h : ql_H) (Q : Int32 → ql_H → Prop) : Prop :=
qw_X11_countRankedBefore_5 a0 Q ql_FU rp1 xp2 (0 : Int32) (0 : Int32) h
set_option maxHeartbeats 4000000 in
set_option maxRecDepth 100000 in
theorem qm_X11_countRankedBefore (l : Launch) (hl9 : l.stackTraces = false) (D : ql_D) (h0 : ql_H) (a0 : Nat) (rp1 : Option Nat) (xp2 : Int32) (Q : Int32 → ql_H → Prop) (X : String → ql_H → Prop) (w : qw_X11_countRankedBefore a0 rp1 xp2 h0 Q) : ql_M D l yX11_countRankedBefore cX11_countRankedBefore 7 (some .int) ({ frames := 6, cells := 0, slots := 0, locals := 111 } : Room) h0 [.ref a0, va_rf rp1, .int xp2] (ql_rI Q) X 0 0 := by
  refine ql_ofW (by decide) (by cases rp1 <;> exact Nat.le_of_ble_eq_true rfl) ?_
  intro p e s m below meth c ls C hr hlocks hnm htab S hl
  rw [show lv_args 0 [.ref a0, va_rf rp1, .int xp2] = [(0, .ref a0), (1, va_rf rp1), (2, .int xp2)] from by cases rp1 <;> rfl] at hl
  have hB76 : ∀ (k5 : Option Nat → Int32 → Int32 → Int32 → ql_H → Prop) (hk5 : ∀ (rl1 : Option Nat) (xl2 : Int32) (xl3 : Int32) (xl4 : Int32) (h : ql_H) (H : Heap) (locs : List Loc) (ls : Array Slot), ql_S D h0 s H locs h → lv_has ls 7 [(0, .ref a0), (1, va_rf rl1), (2, .int xl2), (3, .int xl3), (4, .int xl4)] → k5 rl1 xl2 xl3 xl4 h → W p l e ({ frames := 6, cells := 0, slots := 0, locals := 111 } : Room) s m ([.ref a0, va_rf rp1, .int xp2] : List Value).toArray below meth c H locs 0 0 (vx_MQ below (ql_Q D h0 (ql_rI Q)) (ql_X D h0 X) ([.ref a0, va_rf rp1, .int xp2] : List Value).toArray s 0 0 (ql_A h0)) (F0 m 5 ls [])) , ∀ (rl1 : Option Nat) (xl2 : Int32) (xl3 : Int32) (xl4 : Int32) (h : ql_H) (H : Heap) (locs : List Loc) (ls : Array Slot), ql_S D h0 s H locs h → lv_has ls 7 [(0, .ref a0), (1, va_rf rl1), (2, .int xl2), (3, .int xl3), (4, .int xl4)] → qw_X11_countRankedBefore_76 a0 Q k5 rl1 xl2 xl3 xl4 h → W p l e ({ frames := 6, cells := 0, slots := 0, locals := 111 } : Room) s m ([.ref a0, va_rf rp1, .int xp2] : List Value).toArray below meth c H locs 0 0 (vx_MQ below (ql_Q D h0 (ql_rI Q)) (ql_X D h0 X) ([.ref a0, va_rf rp1, .int xp2] : List Value).toArray s 0 0 (ql_A h0)) (F0 m 76 ls []) := by
    intro k5 hk5 rl1 xl2 xl3 xl4 h H locs ls S hl w
    unfold qw_X11_countRankedBefore_76 at w
    refine lv_iinc (v := (xl4 + (1 : Int32))) (lv' := [(4, .int (xl4 + (1 : Int32))), (0, .ref a0), (1, va_rf rl1), (2, .int xl2), (3, .int xl3)]) C.1.1 C.1.2.1 dX11_countRankedBefore_76 hl (k := 4) rfl rfl (by decide) rfl (fun ls hl => ?_)
    refine lv_goto (tgt := 5) C.1.1 C.1.2.1 dX11_countRankedBefore_79 (by decide) ?_
    exact hk5 rl1 xl2 xl3 (xl4 + (1 : Int32)) _ _ _ _ S (lv_sub hl [1, 2, 3, 4, 0] rfl) w
  have hB73 : ∀ (k5 : Option Nat → Int32 → Int32 → Int32 → ql_H → Prop) (hk5 : ∀ (rl1 : Option Nat) (xl2 : Int32) (xl3 : Int32) (xl4 : Int32) (h : ql_H) (H : Heap) (locs : List Loc) (ls : Array Slot), ql_S D h0 s H locs h → lv_has ls 7 [(0, .ref a0), (1, va_rf rl1), (2, .int xl2), (3, .int xl3), (4, .int xl4)] → k5 rl1 xl2 xl3 xl4 h → W p l e ({ frames := 6, cells := 0, slots := 0, locals := 111 } : Room) s m ([.ref a0, va_rf rp1, .int xp2] : List Value).toArray below meth c H locs 0 0 (vx_MQ below (ql_Q D h0 (ql_rI Q)) (ql_X D h0 X) ([.ref a0, va_rf rp1, .int xp2] : List Value).toArray s 0 0 (ql_A h0)) (F0 m 5 ls [])) , ∀ (rl1 : Option Nat) (xl2 : Int32) (xl3 : Int32) (xl4 : Int32) (h : ql_H) (H : Heap) (locs : List Loc) (ls : Array Slot), ql_S D h0 s H locs h → lv_has ls 7 [(0, .ref a0), (1, va_rf rl1), (2, .int xl2), (3, .int xl3), (4, .int xl4)] → qw_X11_countRankedBefore_73 a0 Q k5 rl1 xl2 xl3 xl4 h → W p l e ({ frames := 6, cells := 0, slots := 0, locals := 111 } : Room) s m ([.ref a0, va_rf rp1, .int xp2] : List Value).toArray below meth c H locs 0 0 (vx_MQ below (ql_Q D h0 (ql_rI Q)) (ql_X D h0 X) ([.ref a0, va_rf rp1, .int xp2] : List Value).toArray s 0 0 (ql_A h0)) (F0 m 73 ls []) := by
    intro k5 hk5 rl1 xl2 xl3 xl4 h H locs ls S hl w
    unfold qw_X11_countRankedBefore_73 at w
    refine lv_iinc (v := (xl3 + (1 : Int32))) (lv' := [(3, .int (xl3 + (1 : Int32))), (0, .ref a0), (1, va_rf rl1), (2, .int xl2), (4, .int xl4)]) C.1.1 C.1.2.1 dX11_countRankedBefore_73 hl (k := 3) rfl rfl (by decide) rfl (fun ls hl => ?_)
    exact hB76 k5 hk5 rl1 xl2 (xl3 + (1 : Int32)) xl4 _ _ _ _ S (lv_sub hl [1, 2, 3, 0, 4] rfl) w
  have hB5 : ∀ n : Nat, ∀ (rl1 : Option Nat) (xl2 : Int32) (xl3 : Int32) (xl4 : Int32) (h : ql_H) (H : Heap) (locs : List Loc) (ls : Array Slot), ql_S D h0 s H locs h → lv_has ls 7 [(0, .ref a0), (1, va_rf rl1), (2, .int xl2), (3, .int xl3), (4, .int xl4)] → qw_X11_countRankedBefore_5 a0 Q n rl1 xl2 xl3 xl4 h → W p l e ({ frames := 6, cells := 0, slots := 0, locals := 111 } : Room) s m ([.ref a0, va_rf rp1, .int xp2] : List Value).toArray below meth c H locs 0 0 (vx_MQ below (ql_Q D h0 (ql_rI Q)) (ql_X D h0 X) ([.ref a0, va_rf rp1, .int xp2] : List Value).toArray s 0 0 (ql_A h0)) (F0 m 5 ls []) := by
    intro n
    induction n with
    | zero => intro rl1 xl2 xl3 xl4 h H locs ls S hl w; rw [qw_X11_countRankedBefore_5] at w; exact w.elim
    | succ n ih =>
      intro rl1 xl2 xl3 xl4 h H locs ls S hl w
      rw [qw_X11_countRankedBefore_5] at w
      refine lv_iload C.1.1 C.1.2.1 dX11_countRankedBefore_5 (lv_at hl 4 rfl) ?_
      refine ql_aload_n (r := (some a0)) C dX11_countRankedBefore_7 rfl (lv_at hl 0 rfl) ?_
      refine ql_getR C S qf_12_0 gw_348 dX11_countRankedBefore_8 w (fun r1 w => ?_)
      refine ql_getRN C S qf_4_0 (qn_RX11_221) dX11_countRankedBefore_11 w (fun r2 w => ?_)
      refine ql_alen (kd := 5) C S rfl dX11_countRankedBefore_14 w (fun x3 w => ?_)
      refine lv_icmp_ge (tgt := 82) C.1.1 C.1.2.1 dX11_countRankedBefore_15 (by decide) (fun c9 => ?_) (fun c9 => ?_)
      · replace w := ql_if w c9
        refine lv_iload_n C.1.1 C.1.2.1 dX11_countRankedBefore_82 rfl (lv_at hl 3 rfl) ?_
        exact ql_iret C S hr hlocks dX11_countRankedBefore_83 ⟨Nat.le_of_ble_eq_true rfl, Nat.le_of_ble_eq_true rfl⟩ w
      · replace w := ql_ifn w c9
        refine ql_aload_n (r := (some a0)) C dX11_countRankedBefore_18 rfl (lv_at hl 0 rfl) ?_
        refine ql_getR C S qf_12_0 gw_348 dX11_countRankedBefore_19 w (fun r4 w => ?_)
        refine ql_getRN C S qf_4_0 (qn_RX11_221) dX11_countRankedBefore_22 w (fun r5 w => ?_)
        refine lv_iload C.1.1 C.1.2.1 dX11_countRankedBefore_25 (lv_at hl 4 rfl) ?_
        refine ql_aald (kd := 5) C S rfl rfl dX11_countRankedBefore_27 w (fun r6 w => ?_)
        refine ql_astore (lv' := [(5, va_rf r6), (0, .ref a0), (1, va_rf rl1), (2, .int xl2), (3, .int xl3), (4, .int xl4)]) C dX11_countRankedBefore_28 hl (by decide) rfl (fun ls hl => ?_)
        refine ql_aload_n (r := (some a0)) C dX11_countRankedBefore_30 rfl (lv_at hl 1 rfl) ?_
        refine ql_getR C S qf_12_10 gw_358 dX11_countRankedBefore_31 w (fun r7 w => ?_)
        refine lv_iload C.1.1 C.1.2.1 dX11_countRankedBefore_34 (lv_at hl 5 rfl) ?_
        refine ql_VI (As := [.int xl4]) (rest := []) C S htab hlocks hl qy_X2_countCiters qi_X2_countCiters qs_X2_countCiters gw_1143 (ci := 5) rfl w (fun b w => qm_X2_countCiters l hl9 D _ b xl4 _ _ w) rfl ⟨Nat.le_of_ble_eq_true rfl, Nat.le_of_ble_eq_true rfl⟩ ⟨rfl, rfl⟩ (by exact Nat.le_of_ble_eq_true rfl) (fun b e9 => by cases e9; rfl) dX11_countRankedBefore_36 ⟨Nat.le_of_ble_eq_true rfl, Nat.le_of_ble_eq_true rfl⟩ ⟨Nat.le_of_ble_eq_true rfl, Nat.le_of_ble_eq_true rfl⟩ (fun x8 h H locs S w => ?_)
        refine W.cs (cells' := 0) (slots' := 0) rfl rfl ?_
        refine lv_istore (lv' := [(6, .int x8), (5, va_rf r6), (0, .ref a0), (1, va_rf rl1), (2, .int xl2), (3, .int xl3), (4, .int xl4)]) C.1.1 C.1.2.1 dX11_countRankedBefore_39 hl (by decide) (by generalize r6 = z9; cases z9 <;> rfl) (fun ls hl => ?_)
        refine ql_aload (r := r6) C dX11_countRankedBefore_41 (lv_at hl 1 rfl) ?_
        refine ql_getIN C S qf_6_0 (qn_RX11_225) dX11_countRankedBefore_43 w (fun x10 w => ?_)
        refine lv_if_eq (tgt := 76) C.1.1 C.1.2.1 dX11_countRankedBefore_46 (by decide) (fun c9 => ?_) (fun c9 => ?_)
        · replace w := ql_if w c9
          exact hB76 (qw_X11_countRankedBefore_5 a0 Q n) ih rl1 xl2 xl3 xl4 _ _ _ _ S (lv_sub hl [2, 3, 4, 5, 6] rfl) w
        · replace w := ql_ifn w c9
          refine lv_iload C.1.1 C.1.2.1 dX11_countRankedBefore_49 (lv_at hl 0 rfl) ?_
          refine lv_iload_n C.1.1 C.1.2.1 dX11_countRankedBefore_51 rfl (lv_at hl 4 rfl) ?_
          refine lv_icmp_gt (tgt := 73) C.1.1 C.1.2.1 dX11_countRankedBefore_52 (by decide) (fun c9 => ?_) (fun c9 => ?_)
          · replace w := ql_if w c9
            exact hB73 (qw_X11_countRankedBefore_5 a0 Q n) ih rl1 xl2 xl3 xl4 _ _ _ _ S (lv_sub hl [2, 3, 4, 5, 6] rfl) w
          · replace w := ql_ifn w c9
            refine lv_iload C.1.1 C.1.2.1 dX11_countRankedBefore_55 (lv_at hl 0 rfl) ?_
            refine lv_iload_n C.1.1 C.1.2.1 dX11_countRankedBefore_57 rfl (lv_at hl 4 rfl) ?_
            refine lv_icmp_ne (tgt := 76) C.1.1 C.1.2.1 dX11_countRankedBefore_58 (by decide) (fun c9 => ?_) (fun c9 => ?_)
            · replace w := ql_ifn w c9
              exact hB76 (qw_X11_countRankedBefore_5 a0 Q n) ih rl1 xl2 xl3 xl4 _ _ _ _ S (lv_sub hl [2, 3, 4, 5, 6] rfl) w
            · replace w := ql_if w c9
              refine ql_aload (r := r6) C dX11_countRankedBefore_61 (lv_at hl 1 rfl) ?_
              refine ql_getIN C S qf_6_2 (qn_RX11_161) dX11_countRankedBefore_63 w (fun x11 w => ?_)
              refine ql_aload_n (r := rl1) C dX11_countRankedBefore_66 rfl (lv_at hl 3 rfl) ?_
              refine ql_getIN C S qf_6_2 (qn_RX11_161) dX11_countRankedBefore_67 w (fun x12 w => ?_)
              refine lv_icmp_ge (tgt := 76) C.1.1 C.1.2.1 dX11_countRankedBefore_70 (by decide) (fun c9 => ?_) (fun c9 => ?_)
              · replace w := ql_if w c9
                exact hB76 (qw_X11_countRankedBefore_5 a0 Q n) ih rl1 xl2 xl3 xl4 _ _ _ _ S (lv_sub hl [2, 3, 4, 5, 6] rfl) w
              · replace w := ql_ifn w c9
                exact hB73 (qw_X11_countRankedBefore_5 a0 Q n) ih rl1 xl2 xl3 xl4 _ _ _ _ S (lv_sub hl [2, 3, 4, 5, 6] rfl) w
  unfold qw_X11_countRankedBefore at w
  refine lv_iconst (v := (0 : Int32)) C.1.1 C.1.2.1 dX11_countRankedBefore_0 (by decide) ?_
  refine lv_istore_n (lv' := [(3, .int (0 : Int32)), (0, .ref a0), (1, va_rf rp1), (2, .int xp2)]) C.1.1 C.1.2.1 dX11_countRankedBefore_1 rfl hl (by decide) rfl (fun ls hl => ?_)
  refine lv_iconst (v := (0 : Int32)) C.1.1 C.1.2.1 dX11_countRankedBefore_2 (by decide) ?_
  refine lv_istore (lv' := [(4, .int (0 : Int32)), (3, .int (0 : Int32)), (0, .ref a0), (1, va_rf rp1), (2, .int xp2)]) C.1.1 C.1.2.1 dX11_countRankedBefore_3 hl (by decide) rfl (fun ls hl => ?_)
  exact hB5 ql_FU rp1 xp2 (0 : Int32) (0 : Int32) _ _ _ _ S (lv_sub hl [2, 3, 4, 1, 0] rfl) w
