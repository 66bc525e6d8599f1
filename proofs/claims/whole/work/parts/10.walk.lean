def qw_X3_init (a0 : Nat) (h : ql_H) (Q : ql_H → Prop) : Prop :=
ql_pV h (some a0) 6 0 (.int (0 : Int32)) fun h =>
ql_pV h (some a0) 6 1 (.int (-1 : Int32)) fun h =>
ql_pV h (some a0) 6 2 (.int (0 : Int32)) fun h =>
ql_pV h (some a0) 6 3 (.int (0 : Int32)) fun h =>
ql_pV h (some a0) 6 4 (.int (-1 : Int32)) fun h =>
ql_nw h (.inl (0, 8, .inl (fun _ => 0))) fun r1 h =>
ql_pV h (some a0) 6 5 (va_rf r1) fun h =>
ql_nw h (.inl (1, 8, .inr (.inl (fun _ => 0)))) fun r2 h =>
ql_pV h (some a0) 6 6 (va_rf r2) fun h =>
ql_nw h (.inl (0, 4, .inl (fun _ => 0))) fun r3 h =>
ql_pV h (some a0) 6 7 (va_rf r3) fun h =>
Q h
set_option maxHeartbeats 4000000 in
set_option maxRecDepth 100000 in
theorem qm_X3_init (l : Launch) (hl9 : l.stackTraces = false) (D : ql_D) (h0 : ql_H) (a0 : Nat) (Q : ql_H → Prop) (X : String → ql_H → Prop) (w : qw_X3_init a0 h0 Q) : ql_M D l yX3_init cX3_init 1 none ({ frames := 3, cells := 3, slots := 20, locals := 48 } : Room) h0 [.ref a0] (ql_rV Q) X 3 20 := by
  refine ql_ofW (by decide) (Nat.le_of_ble_eq_true rfl) ?_
  intro p e s m below meth c ls C hr hlocks hnm htab S hl
  have hl : lv_has ls 1 [(0, .ref a0)] := hl
  unfold qw_X3_init at w
  refine ql_aload_n (r := (some a0)) C dX3_init_0 rfl (lv_at hl 0 rfl) ?_
  refine ql_objInit C hl gw_128 gw_114 gw_115 dX3_init_1 (Nat.le_of_ble_eq_true rfl) (by exact Nat.le_of_ble_eq_true rfl) ?_
  refine ql_aload_n (r := (some a0)) C dX3_init_4 rfl (lv_at hl 0 rfl) ?_
  refine lv_iconst (v := (0 : Int32)) C.1.1 C.1.2.1 dX3_init_5 (by decide) ?_
  refine ql_putV C S qf_6_0 gw_129 (tyX3) tyX3_ok nmX3 rfl dX3_init_6 (v := .int (0 : Int32)) rfl rfl w (fun h H locs S w => ?_)
  refine ql_aload_n (r := (some a0)) C dX3_init_9 rfl (lv_at hl 0 rfl) ?_
  refine lv_iconst (v := (-1 : Int32)) C.1.1 C.1.2.1 dX3_init_10 (by decide) ?_
  refine ql_putV C S qf_6_1 gw_133 (tyX3) tyX3_ok nmX3 rfl dX3_init_11 (v := .int (-1 : Int32)) rfl rfl w (fun h H locs S w => ?_)
  refine ql_aload_n (r := (some a0)) C dX3_init_14 rfl (lv_at hl 0 rfl) ?_
  refine lv_iconst (v := (0 : Int32)) C.1.1 C.1.2.1 dX3_init_15 (by decide) ?_
  refine ql_putV C S qf_6_2 gw_136 (tyX3) tyX3_ok nmX3 rfl dX3_init_16 (v := .int (0 : Int32)) rfl rfl w (fun h H locs S w => ?_)
  refine ql_aload_n (r := (some a0)) C dX3_init_19 rfl (lv_at hl 0 rfl) ?_
  refine lv_iconst (v := (0 : Int32)) C.1.1 C.1.2.1 dX3_init_20 (by decide) ?_
  refine ql_putV C S qf_6_3 gw_139 (tyX3) tyX3_ok nmX3 rfl dX3_init_21 (v := .int (0 : Int32)) rfl rfl w (fun h H locs S w => ?_)
  refine ql_aload_n (r := (some a0)) C dX3_init_24 rfl (lv_at hl 0 rfl) ?_
  refine lv_iconst (v := (-1 : Int32)) C.1.1 C.1.2.1 dX3_init_25 (by decide) ?_
  refine ql_putV C S qf_6_4 gw_141 (tyX3) tyX3_ok nmX3 rfl dX3_init_26 (v := .int (-1 : Int32)) rfl rfl w (fun h H locs S w => ?_)
  refine ql_aload_n (r := (some a0)) C dX3_init_29 rfl (lv_at hl 0 rfl) ?_
  refine lv_bipush (v := (8 : Int32)) C.1.1 C.1.2.1 dX3_init_30 (by decide) ?_
  refine ql_newa (kd := 0) (a0 := (8, .inl (fun _ => 0))) (atype := .int) C S gw_164 rfl (fun z => z) (fun cA => rfl) (by decide) (by decide) (by decide) ⟨Nat.le_of_ble_eq_true rfl, Nat.le_of_ble_eq_true rfl⟩ dX3_init_32 w (fun r1 h H S w => ?_)
  refine W.cs (cells' := 1) (slots' := 8) rfl rfl ?_
  refine ql_putVF C S qf_6_5 gw_144 (tyX3) tyX3_ok nmX3 rfl hnm rfl dX3_init_34 (v := va_rf r1) (by cases r1 <;> rfl) (by cases r1 <;> rfl) w (fun h H locs S w => ?_)
  refine ql_aload_n (r := (some a0)) C dX3_init_37 rfl (lv_at hl 0 rfl) ?_
  refine lv_bipush (v := (8 : Int32)) C.1.1 C.1.2.1 dX3_init_38 (by decide) ?_
  refine ql_newa (kd := 1) (a0 := (8, .inr (.inl (fun _ => 0)))) (atype := .long) C S gw_165 rfl (fun z => z) (fun cA => rfl) (by decide) (by decide) (by decide) ⟨Nat.le_of_ble_eq_true rfl, Nat.le_of_ble_eq_true rfl⟩ dX3_init_40 w (fun r2 h H S w => ?_)
  refine W.cs (cells' := 2) (slots' := 16) rfl rfl ?_
  refine ql_putVF C S qf_6_6 gw_145 (tyX3) tyX3_ok nmX3 rfl hnm rfl dX3_init_42 (v := va_rf r2) (by cases r2 <;> rfl) (by cases r2 <;> rfl) w (fun h H locs S w => ?_)
  refine ql_aload_n (r := (some a0)) C dX3_init_45 rfl (lv_at hl 0 rfl) ?_
  refine lv_iconst (v := (4 : Int32)) C.1.1 C.1.2.1 dX3_init_46 (by decide) ?_
  refine ql_newa (kd := 0) (a0 := (4, .inl (fun _ => 0))) (atype := .int) C S gw_164 rfl (fun z => z) (fun cA => rfl) (by decide) (by decide) (by decide) ⟨Nat.le_of_ble_eq_true rfl, Nat.le_of_ble_eq_true rfl⟩ dX3_init_47 w (fun r3 h H S w => ?_)
  refine W.cs (cells' := 3) (slots' := 20) rfl rfl ?_
  refine ql_putVF C S qf_6_7 gw_146 (tyX3) tyX3_ok nmX3 rfl hnm rfl dX3_init_49 (v := va_rf r3) (by cases r3 <;> rfl) (by cases r3 <;> rfl) w (fun h H locs S w => ?_)
  exact ql_vret C S hr hlocks dX3_init_52 ⟨Nat.le_of_ble_eq_true rfl, Nat.le_of_ble_eq_true rfl⟩ w
def qw_X1_init_58 (a0 : Nat) (Q : ql_H → Prop) : Nat → Int32 → ql_H → Prop
  | 0, _, _ => False
  | n + 1, xl1, h =>
    ql_gR h (some a0) 4 0 fun r1 =>
    ql_len h r1 5 fun x2 =>
    if x2 ≤ xl1 then (Q h) else (ql_gR h (some a0) 4 0 fun r3 =>
    ql_nw h (.inr (6, [.int 0, .int 0, .int 0, .int 0, .int 0, .null, .null, .null])) fun r4 h =>
    ql_nn r4 fun b4 => qw_X3_init b4  h (fun h =>
    ql_sR h r3 5 6 xl1 r4 fun h =>
    qw_X1_init_58 a0 Q n (xl1 + (1 : Int32)) h))
def qw_X1_init (a0 : Nat) (h : ql_H) (Q : ql_H → Prop) : Prop :=
ql_nw h (.inl (5, 16, .inr (.inr (.inr (.inr (fun _ => none)))))) fun r6 h =>
ql_pV h (some a0) 4 0 (va_rf r6) fun h =>
ql_pV h (some a0) 4 1 (.int (0 : Int32)) fun h =>
ql_pV h (some a0) 4 2 (.int (0 : Int32)) fun h =>
ql_pV h (some a0) 4 3 (.int (0 : Int32)) fun h =>
ql_pV h (some a0) 4 4 (.int (0 : Int32)) fun h =>
ql_pV h (some a0) 4 5 (.int (0 : Int32)) fun h =>
ql_pV h (some a0) 4 6 (.int (0 : Int32)) fun h =>
ql_pV h (some a0) 4 7 (.int (0 : Int32)) fun h =>
ql_nw h (.inl (0, 6, .inl (fun _ => 0))) fun r7 h =>
ql_pV h (some a0) 4 8 (va_rf r7) fun h =>
qw_X1_init_58 a0 Q 17 (0 : Int32) h
set_option maxHeartbeats 4000000 in
set_option maxRecDepth 100000 in
theorem qm_X1_init (l : Launch) (hl9 : l.stackTraces = false) (D : ql_D) (h0 : ql_H) (a0 : Nat) (Q : ql_H → Prop) (X : String → ql_H → Prop) (w : qw_X1_init a0 h0 Q) : ql_M D l yX1_init cX1_init 2 none ({ frames := 5, cells := 74, slots := 526, locals := 76 } : Room) h0 [.ref a0] (ql_rV Q) X 74 526 := by
  refine ql_ofW (by decide) (Nat.le_of_ble_eq_true rfl) ?_
  intro p e s m below meth c ls C hr hlocks hnm htab S hl
  have hl : lv_has ls 2 [(0, .ref a0)] := hl
  have hB58 : ∀ n : Nat, n ≤ 17 → ∀ (xl1 : Int32) (h : ql_H) (H : Heap) (locs : List Loc) (ls : Array Slot), ql_S D h0 s H locs h → lv_has ls 2 [(0, .ref a0), (1, .int xl1)] → qw_X1_init_58 a0 Q n xl1 h → W p l e ({ frames := 5, cells := 74, slots := 526, locals := 76 } : Room) s m ([.ref a0] : List Value).toArray below meth c H locs (2 + (17 - n) * 4) (22 + (17 - n) * 28) (vx_MQ below (ql_Q D h0 (ql_rV Q)) (ql_X D h0 X) ([.ref a0] : List Value).toArray s 74 526 (ql_A h0)) (F0 m 58 ls []) := by
    intro n
    induction n with
    | zero => intro _ xl1 h H locs ls S hl w; rw [qw_X1_init_58] at w; exact w.elim
    | succ n ih =>
      intro hn9 xl1 h H locs ls S hl w
      rw [qw_X1_init_58] at w
      refine lv_iload_n C.1.1 C.1.2.1 dX1_init_58 rfl (lv_at hl 1 rfl) ?_
      refine ql_aload_n (r := (some a0)) C dX1_init_59 rfl (lv_at hl 0 rfl) ?_
      refine ql_getR C S qf_4_0 gw_166 dX1_init_60 w (fun r1 w => ?_)
      refine ql_alen (kd := 5) C S rfl dX1_init_63 w (fun x2 w => ?_)
      refine lv_icmp_ge (tgt := 86) C.1.1 C.1.2.1 dX1_init_64 (by decide) (fun c9 => ?_) (fun c9 => ?_)
      · replace w := ql_if w c9
        exact ql_vret C S hr hlocks dX1_init_86 ⟨(by show _ ≤ (74 : Nat); omega), (by show _ ≤ (526 : Nat); omega)⟩ w
      · replace w := ql_ifn w c9
        refine ql_aload_n (r := (some a0)) C dX1_init_67 rfl (lv_at hl 0 rfl) ?_
        refine ql_getR C S qf_4_0 gw_166 dX1_init_68 w (fun r3 w => ?_)
        refine lv_iload_n C.1.1 C.1.2.1 dX1_init_71 rfl (lv_at hl 1 rfl) ?_
        refine ql_new (ci := 6) (fs := [.int 0, .int 0, .int 0, .int 0, .int 0, .null, .null, .null]) C S rfl qlay_6 tyX3 tyX3_ok gw_122 gw_124 gw_73 (fun j hj => by rcases (show j = 0 ∨ j = 1 ∨ j = 2 ∨ j = 3 ∨ j = 4 ∨ j = 5 ∨ j = 6 ∨ j = 7 by omega) with rfl | rfl | rfl | rfl | rfl | rfl | rfl | rfl <;> rfl) ⟨(by show _ ≤ (74 : Nat); omega), (by show _ ≤ (526 : Nat); omega)⟩ dX1_init_72 w (fun r4 h H S w => ?_)
        refine W.cs (cells' := (3 + (17 - (n + 1)) * 4)) (slots' := (30 + (17 - (n + 1)) * 28)) (by omega) (by omega) ?_
        refine lv_dup C.1.1 C.1.2.1 dX1_init_75 (ql_catR _) ?_
        refine ql_IN0 (As := []) (rest := [va_rf r4, .int xl1, va_rf r3]) C S htab hlocks hl qy_X3_init qi_X3_init rfl (qn_RX1_43) w (fun b w => qm_X3_init l hl9 D _ b _ _ w) rfl ⟨Nat.le_of_ble_eq_true rfl, Nat.le_of_ble_eq_true rfl⟩ ⟨rfl, rfl⟩ (by generalize r3 = z0; generalize r4 = z1; cases z0 <;> cases z1 <;> exact Nat.le_of_ble_eq_true rfl) (fun b e9 => by cases e9; rfl) dX1_init_76 ⟨(by show _ ≤ (74 : Nat); omega), (by show _ ≤ (526 : Nat); omega)⟩ ⟨(by show _ ≤ (74 : Nat); omega), (by show _ ≤ (526 : Nat); omega)⟩ (fun h H locs S w => ?_)
        refine W.cs (cells' := (6 + (17 - (n + 1)) * 4)) (slots' := (50 + (17 - (n + 1)) * 28)) (by omega) (by omega) ?_
        refine ql_aast (kd := 5) (ci := 6) C S rfl rfl dX1_init_79 w (fun h H locs S w => ?_)
        refine lv_iinc (v := (xl1 + (1 : Int32))) (lv' := [(1, .int (xl1 + (1 : Int32))), (0, .ref a0)]) C.1.1 C.1.2.1 dX1_init_80 hl (k := 1) rfl rfl (by decide) rfl (fun ls hl => ?_)
        refine lv_goto (tgt := 58) C.1.1 C.1.2.1 dX1_init_83 (by decide) ?_
        refine W.cs (cells' := (2 + (17 - n) * 4)) (slots' := (22 + (17 - n) * 28)) (by omega) (by omega) ?_
        exact ih (by omega) (xl1 + (1 : Int32)) _ _ _ _ S (lv_sub hl [1, 0] rfl) w
  unfold qw_X1_init at w
  refine ql_aload_n (r := (some a0)) C dX1_init_0 rfl (lv_at hl 0 rfl) ?_
  refine ql_objInit C hl gw_121 gw_114 gw_115 dX1_init_1 (Nat.le_of_ble_eq_true rfl) (by exact Nat.le_of_ble_eq_true rfl) ?_
  refine ql_aload_n (r := (some a0)) C dX1_init_4 rfl (lv_at hl 0 rfl) ?_
  refine lv_bipush (v := (16 : Int32)) C.1.1 C.1.2.1 dX1_init_5 (by decide) ?_
  refine ql_newq (kd := 5) (N := 16) C S gw_122 (by decide) rfl (by decide) (by decide) (by decide) ⟨Nat.le_of_ble_eq_true rfl, Nat.le_of_ble_eq_true rfl⟩ dX1_init_7 w (fun r6 h H S w => ?_)
  refine W.cs (cells' := 1) (slots' := 16) rfl rfl ?_
  refine ql_putVF C S qf_4_0 gw_166 (tyX1) tyX1_ok nmX1 rfl hnm rfl dX1_init_10 (v := va_rf r6) (by cases r6 <;> rfl) (by cases r6 <;> rfl) w (fun h H locs S w => ?_)
  refine ql_aload_n (r := (some a0)) C dX1_init_13 rfl (lv_at hl 0 rfl) ?_
  refine lv_iconst (v := (0 : Int32)) C.1.1 C.1.2.1 dX1_init_14 (by decide) ?_
  refine ql_putV C S qf_4_1 gw_169 (tyX1) tyX1_ok nmX1 rfl dX1_init_15 (v := .int (0 : Int32)) rfl rfl w (fun h H locs S w => ?_)
  refine ql_aload_n (r := (some a0)) C dX1_init_18 rfl (lv_at hl 0 rfl) ?_
  refine lv_iconst (v := (0 : Int32)) C.1.1 C.1.2.1 dX1_init_19 (by decide) ?_
  refine ql_putV C S qf_4_2 gw_170 (tyX1) tyX1_ok nmX1 rfl dX1_init_20 (v := .int (0 : Int32)) rfl rfl w (fun h H locs S w => ?_)
  refine ql_aload_n (r := (some a0)) C dX1_init_23 rfl (lv_at hl 0 rfl) ?_
  refine lv_iconst (v := (0 : Int32)) C.1.1 C.1.2.1 dX1_init_24 (by decide) ?_
  refine ql_putV C S qf_4_3 gw_172 (tyX1) tyX1_ok nmX1 rfl dX1_init_25 (v := .int (0 : Int32)) rfl rfl w (fun h H locs S w => ?_)
  refine ql_aload_n (r := (some a0)) C dX1_init_28 rfl (lv_at hl 0 rfl) ?_
  refine lv_iconst (v := (0 : Int32)) C.1.1 C.1.2.1 dX1_init_29 (by decide) ?_
  refine ql_putV C S qf_4_4 gw_174 (tyX1) tyX1_ok nmX1 rfl dX1_init_30 (v := .int (0 : Int32)) rfl rfl w (fun h H locs S w => ?_)
  refine ql_aload_n (r := (some a0)) C dX1_init_33 rfl (lv_at hl 0 rfl) ?_
  refine lv_iconst (v := (0 : Int32)) C.1.1 C.1.2.1 dX1_init_34 (by decide) ?_
  refine ql_putV C S qf_4_5 gw_176 (tyX1) tyX1_ok nmX1 rfl dX1_init_35 (v := .int (0 : Int32)) rfl rfl w (fun h H locs S w => ?_)
  refine ql_aload_n (r := (some a0)) C dX1_init_38 rfl (lv_at hl 0 rfl) ?_
  refine lv_iconst (v := (0 : Int32)) C.1.1 C.1.2.1 dX1_init_39 (by decide) ?_
  refine ql_putV C S qf_4_6 gw_178 (tyX1) tyX1_ok nmX1 rfl dX1_init_40 (v := .int (0 : Int32)) rfl rfl w (fun h H locs S w => ?_)
  refine ql_aload_n (r := (some a0)) C dX1_init_43 rfl (lv_at hl 0 rfl) ?_
  refine lv_iconst (v := (0 : Int32)) C.1.1 C.1.2.1 dX1_init_44 (by decide) ?_
  refine ql_putV C S qf_4_7 gw_180 (tyX1) tyX1_ok nmX1 rfl dX1_init_45 (v := .int (0 : Int32)) rfl rfl w (fun h H locs S w => ?_)
  refine ql_aload_n (r := (some a0)) C dX1_init_48 rfl (lv_at hl 0 rfl) ?_
  refine lv_bipush (v := (6 : Int32)) C.1.1 C.1.2.1 dX1_init_49 (by decide) ?_
  refine ql_newa (kd := 0) (a0 := (6, .inl (fun _ => 0))) (atype := .int) C S gw_164 rfl (fun z => z) (fun cA => rfl) (by decide) (by decide) (by decide) ⟨Nat.le_of_ble_eq_true rfl, Nat.le_of_ble_eq_true rfl⟩ dX1_init_51 w (fun r7 h H S w => ?_)
  refine W.cs (cells' := 2) (slots' := 22) rfl rfl ?_
  refine ql_putVF C S qf_4_8 gw_182 (tyX1) tyX1_ok nmX1 rfl hnm rfl dX1_init_53 (v := va_rf r7) (by cases r7 <;> rfl) (by cases r7 <;> rfl) w (fun h H locs S w => ?_)
  refine lv_iconst (v := (0 : Int32)) C.1.1 C.1.2.1 dX1_init_56 (by decide) ?_
  refine lv_istore_n (lv' := [(1, .int (0 : Int32)), (0, .ref a0)]) C.1.1 C.1.2.1 dX1_init_57 rfl hl (by decide) rfl (fun ls hl => ?_)
  refine W.cs (cells' := (2 + (17 - 17) * 4)) (slots' := (22 + (17 - 17) * 28)) (by omega) (by omega) ?_
  exact hB58 17 (Nat.le_refl _) (0 : Int32) _ _ _ _ S (lv_sub hl [1, 0] rfl) w
def qw_X3_copyFrom (a0 : Nat) (rp1 : Option Nat) (h : ql_H) (Q : ql_H → Prop) : Prop :=
ql_gI h rp1 6 0 fun x1 =>
ql_fz .boolean x1 ∧
ql_pV h (some a0) 6 0 (.int x1) fun h =>
ql_gI h rp1 6 1 fun x2 =>
ql_pV h (some a0) 6 1 (.int x2) fun h =>
ql_gI h rp1 6 2 fun x3 =>
ql_pV h (some a0) 6 2 (.int x3) fun h =>
ql_gI h rp1 6 3 fun x4 =>
ql_pV h (some a0) 6 3 (.int x4) fun h =>
ql_gI h rp1 6 4 fun x5 =>
ql_pV h (some a0) 6 4 (.int x5) fun h =>
ql_gR h rp1 6 5 fun r6 =>
ql_gR h (some a0) 6 5 fun r7 =>
ql_cpI h r6 (0 : Int32) r7 (0 : Int32) (8 : Int32) 0 .int fun h =>
ql_gR h rp1 6 6 fun r8 =>
ql_gR h (some a0) 6 6 fun r9 =>
ql_cpJ h r8 (0 : Int32) r9 (0 : Int32) (8 : Int32) fun h =>
ql_gR h rp1 6 7 fun r10 =>
ql_gR h (some a0) 6 7 fun r11 =>
ql_cpI h r10 (0 : Int32) r11 (0 : Int32) (4 : Int32) 0 .int fun h =>
Q h
set_option maxHeartbeats 4000000 in
set_option maxRecDepth 100000 in
theorem qm_X3_copyFrom (l : Launch) (hl9 : l.stackTraces = false) (D : ql_D) (h0 : ql_H) (a0 : Nat) (rp1 : Option Nat) (Q : ql_H → Prop) (X : String → ql_H → Prop) (w : qw_X3_copyFrom a0 rp1 h0 Q) : ql_M D l yX3_copyFrom cX3_copyFrom 2 none ({ frames := 3, cells := 0, slots := 0, locals := 68 } : Room) h0 [.ref a0, va_rf rp1] (ql_rV Q) X 0 0 := by
  refine ql_ofW (by decide) (by cases rp1 <;> exact Nat.le_of_ble_eq_true rfl) ?_
  intro p e s m below meth c ls C hr hlocks hnm htab S hl
  rw [show lv_args 0 [.ref a0, va_rf rp1] = [(0, .ref a0), (1, va_rf rp1)] from by cases rp1 <;> rfl] at hl
  unfold qw_X3_copyFrom at w
  refine ql_aload_n (r := (some a0)) C dX3_copyFrom_0 rfl (lv_at hl 0 rfl) ?_
  refine ql_aload_n (r := rp1) C dX3_copyFrom_1 rfl (lv_at hl 1 rfl) ?_
  refine ql_getI C S qf_6_0 gw_129 dX3_copyFrom_2 w (fun x1 w => ?_)
  refine ql_putV C S qf_6_0 gw_129 (tyX3) tyX3_ok nmX3 rfl dX3_copyFrom_5 (v := .int x1) w.1.1 w.1.2 w.2 (fun h H locs S w => ?_)
  refine ql_aload_n (r := (some a0)) C dX3_copyFrom_8 rfl (lv_at hl 0 rfl) ?_
  refine ql_aload_n (r := rp1) C dX3_copyFrom_9 rfl (lv_at hl 1 rfl) ?_
  refine ql_getI C S qf_6_1 gw_133 dX3_copyFrom_10 w (fun x2 w => ?_)
  refine ql_putV C S qf_6_1 gw_133 (tyX3) tyX3_ok nmX3 rfl dX3_copyFrom_13 (v := .int x2) rfl rfl w (fun h H locs S w => ?_)
  refine ql_aload_n (r := (some a0)) C dX3_copyFrom_16 rfl (lv_at hl 0 rfl) ?_
  refine ql_aload_n (r := rp1) C dX3_copyFrom_17 rfl (lv_at hl 1 rfl) ?_
  refine ql_getI C S qf_6_2 gw_136 dX3_copyFrom_18 w (fun x3 w => ?_)
  refine ql_putV C S qf_6_2 gw_136 (tyX3) tyX3_ok nmX3 rfl dX3_copyFrom_21 (v := .int x3) rfl rfl w (fun h H locs S w => ?_)
  refine ql_aload_n (r := (some a0)) C dX3_copyFrom_24 rfl (lv_at hl 0 rfl) ?_
  refine ql_aload_n (r := rp1) C dX3_copyFrom_25 rfl (lv_at hl 1 rfl) ?_
  refine ql_getI C S qf_6_3 gw_139 dX3_copyFrom_26 w (fun x4 w => ?_)
  refine ql_putV C S qf_6_3 gw_139 (tyX3) tyX3_ok nmX3 rfl dX3_copyFrom_29 (v := .int x4) rfl rfl w (fun h H locs S w => ?_)
  refine ql_aload_n (r := (some a0)) C dX3_copyFrom_32 rfl (lv_at hl 0 rfl) ?_
  refine ql_aload_n (r := rp1) C dX3_copyFrom_33 rfl (lv_at hl 1 rfl) ?_
  refine ql_getI C S qf_6_4 gw_141 dX3_copyFrom_34 w (fun x5 w => ?_)
  refine ql_putV C S qf_6_4 gw_141 (tyX3) tyX3_ok nmX3 rfl dX3_copyFrom_37 (v := .int x5) rfl rfl w (fun h H locs S w => ?_)
  refine ql_aload_n (r := rp1) C dX3_copyFrom_40 rfl (lv_at hl 1 rfl) ?_
  refine ql_getR C S qf_6_5 gw_144 dX3_copyFrom_41 w (fun r6 w => ?_)
  refine lv_iconst (v := (0 : Int32)) C.1.1 C.1.2.1 dX3_copyFrom_44 (by decide) ?_
  refine ql_aload_n (r := (some a0)) C dX3_copyFrom_45 rfl (lv_at hl 0 rfl) ?_
  refine ql_getR C S qf_6_5 gw_144 dX3_copyFrom_46 w (fun r7 w => ?_)
  refine lv_iconst (v := (0 : Int32)) C.1.1 C.1.2.1 dX3_copyFrom_49 (by decide) ?_
  refine lv_bipush (v := (8 : Int32)) C.1.1 C.1.2.1 dX3_copyFrom_50 (by decide) ?_
  refine ql_copyI (kd := 0) (ty := .int) C S hl rfl rfl ⟨gw_398, gw_400, gw_399, gw_87⟩ (Nat.le_of_ble_eq_true rfl) (by exact Nat.le_of_ble_eq_true rfl) dX3_copyFrom_52 w (fun h H locs S w => ?_)
  refine ql_aload_n (r := rp1) C dX3_copyFrom_55 rfl (lv_at hl 1 rfl) ?_
  refine ql_getR C S qf_6_6 gw_145 dX3_copyFrom_56 w (fun r8 w => ?_)
  refine lv_iconst (v := (0 : Int32)) C.1.1 C.1.2.1 dX3_copyFrom_59 (by decide) ?_
  refine ql_aload_n (r := (some a0)) C dX3_copyFrom_60 rfl (lv_at hl 0 rfl) ?_
  refine ql_getR C S qf_6_6 gw_145 dX3_copyFrom_61 w (fun r9 w => ?_)
  refine lv_iconst (v := (0 : Int32)) C.1.1 C.1.2.1 dX3_copyFrom_64 (by decide) ?_
  refine lv_bipush (v := (8 : Int32)) C.1.1 C.1.2.1 dX3_copyFrom_65 (by decide) ?_
  refine ql_copyJ C S hl ⟨gw_398, gw_400, gw_399, gw_87⟩ (Nat.le_of_ble_eq_true rfl) (by exact Nat.le_of_ble_eq_true rfl) dX3_copyFrom_67 w (fun h H locs S w => ?_)
  refine ql_aload_n (r := rp1) C dX3_copyFrom_70 rfl (lv_at hl 1 rfl) ?_
  refine ql_getR C S qf_6_7 gw_146 dX3_copyFrom_71 w (fun r10 w => ?_)
  refine lv_iconst (v := (0 : Int32)) C.1.1 C.1.2.1 dX3_copyFrom_74 (by decide) ?_
  refine ql_aload_n (r := (some a0)) C dX3_copyFrom_75 rfl (lv_at hl 0 rfl) ?_
  refine ql_getR C S qf_6_7 gw_146 dX3_copyFrom_76 w (fun r11 w => ?_)
  refine lv_iconst (v := (0 : Int32)) C.1.1 C.1.2.1 dX3_copyFrom_79 (by decide) ?_
  refine lv_iconst (v := (4 : Int32)) C.1.1 C.1.2.1 dX3_copyFrom_80 (by decide) ?_
  refine ql_copyI (kd := 0) (ty := .int) C S hl rfl rfl ⟨gw_398, gw_400, gw_399, gw_87⟩ (Nat.le_of_ble_eq_true rfl) (by exact Nat.le_of_ble_eq_true rfl) dX3_copyFrom_81 w (fun h H locs S w => ?_)
  exact ql_vret C S hr hlocks dX3_copyFrom_84 ⟨Nat.le_of_ble_eq_true rfl, Nat.le_of_ble_eq_true rfl⟩ w
def qw_X1_copyFrom_2 (a0 : Nat) (Q : ql_H → Prop) : Nat → Option Nat → Int32 → ql_H → Prop
  | 0, _, _, _ => False
  | n + 1, rl1, xl2, h =>
    if (16 : Int32) ≤ xl2 then (ql_gI h rl1 4 1 fun x1 =>
    ql_pV h (some a0) 4 1 (.int x1) fun h =>
    ql_gI h rl1 4 2 fun x2 =>
    ql_pV h (some a0) 4 2 (.int x2) fun h =>
    ql_gI h rl1 4 3 fun x3 =>
    ql_pV h (some a0) 4 3 (.int x3) fun h =>
    ql_gI h rl1 4 4 fun x4 =>
    ql_pV h (some a0) 4 4 (.int x4) fun h =>
    ql_gI h rl1 4 5 fun x5 =>
    ql_pV h (some a0) 4 5 (.int x5) fun h =>
    ql_gI h rl1 4 6 fun x6 =>
    ql_pV h (some a0) 4 6 (.int x6) fun h =>
    ql_gI h rl1 4 7 fun x7 =>
    ql_pV h (some a0) 4 7 (.int x7) fun h =>
    ql_gR h rl1 4 8 fun r8 =>
    ql_gR h (some a0) 4 8 fun r9 =>
    ql_cpI h r8 (0 : Int32) r9 (0 : Int32) (6 : Int32) 0 .int fun h =>
    Q h) else (ql_gR h (some a0) 4 0 fun r10 =>
    ql_lR h r10 5 xl2 fun r11 =>
    ql_gR h rl1 4 0 fun r12 =>
    ql_lR h r12 5 xl2 fun r13 =>
    ql_rv h r11 6 fun b13 => qw_X3_copyFrom b13 r13 h (fun h =>
    qw_X1_copyFrom_2 a0 Q n rl1 (xl2 + (1 : Int32)) h))
def qw_X1_copyFrom (a0 : Nat) (rp1 : Option Nat) (h : ql_H) (Q : ql_H → Prop) : Prop :=
qw_X1_copyFrom_2 a0 Q ql_FU rp1 (0 : Int32) h
set_option maxHeartbeats 4000000 in
set_option maxRecDepth 100000 in
theorem qm_X1_copyFrom (l : Launch) (hl9 : l.stackTraces = false) (D : ql_D) (h0 : ql_H) (a0 : Nat) (rp1 : Option Nat) (Q : ql_H → Prop) (X : String → ql_H → Prop) (w : qw_X1_copyFrom a0 rp1 h0 Q) : ql_M D l yX1_copyFrom cX1_copyFrom 3 none ({ frames := 5, cells := 0, slots := 0, locals := 97 } : Room) h0 [.ref a0, va_rf rp1] (ql_rV Q) X 0 0 := by
  refine ql_ofW (by decide) (by cases rp1 <;> exact Nat.le_of_ble_eq_true rfl) ?_
  intro p e s m below meth c ls C hr hlocks hnm htab S hl
  rw [show lv_args 0 [.ref a0, va_rf rp1] = [(0, .ref a0), (1, va_rf rp1)] from by cases rp1 <;> rfl] at hl
  have hB2 : ∀ n : Nat, ∀ (rl1 : Option Nat) (xl2 : Int32) (h : ql_H) (H : Heap) (locs : List Loc) (ls : Array Slot), ql_S D h0 s H locs h → lv_has ls 3 [(0, .ref a0), (1, va_rf rl1), (2, .int xl2)] → qw_X1_copyFrom_2 a0 Q n rl1 xl2 h → W p l e ({ frames := 5, cells := 0, slots := 0, locals := 97 } : Room) s m ([.ref a0, va_rf rp1] : List Value).toArray below meth c H locs 0 0 (vx_MQ below (ql_Q D h0 (ql_rV Q)) (ql_X D h0 X) ([.ref a0, va_rf rp1] : List Value).toArray s 0 0 (ql_A h0)) (F0 m 2 ls []) := by
    intro n
    induction n with
    | zero => intro rl1 xl2 h H locs ls S hl w; rw [qw_X1_copyFrom_2] at w; exact w.elim
    | succ n ih =>
      intro rl1 xl2 h H locs ls S hl w
      rw [qw_X1_copyFrom_2] at w
      refine lv_iload_n C.1.1 C.1.2.1 dX1_copyFrom_2 rfl (lv_at hl 2 rfl) ?_
      refine lv_bipush (v := (16 : Int32)) C.1.1 C.1.2.1 dX1_copyFrom_3 (by decide) ?_
      refine lv_icmp_ge (tgt := 29) C.1.1 C.1.2.1 dX1_copyFrom_5 (by decide) (fun c9 => ?_) (fun c9 => ?_)
      · replace w := ql_if w c9
        refine ql_aload_n (r := (some a0)) C dX1_copyFrom_29 rfl (lv_at hl 0 rfl) ?_
        refine ql_aload_n (r := rl1) C dX1_copyFrom_30 rfl (lv_at hl 1 rfl) ?_
        refine ql_getI C S qf_4_1 gw_169 dX1_copyFrom_31 w (fun x1 w => ?_)
        refine ql_putV C S qf_4_1 gw_169 (tyX1) tyX1_ok nmX1 rfl dX1_copyFrom_34 (v := .int x1) rfl rfl w (fun h H locs S w => ?_)
        refine ql_aload_n (r := (some a0)) C dX1_copyFrom_37 rfl (lv_at hl 0 rfl) ?_
        refine ql_aload_n (r := rl1) C dX1_copyFrom_38 rfl (lv_at hl 1 rfl) ?_
        refine ql_getI C S qf_4_2 gw_170 dX1_copyFrom_39 w (fun x2 w => ?_)
        refine ql_putV C S qf_4_2 gw_170 (tyX1) tyX1_ok nmX1 rfl dX1_copyFrom_42 (v := .int x2) rfl rfl w (fun h H locs S w => ?_)
        refine ql_aload_n (r := (some a0)) C dX1_copyFrom_45 rfl (lv_at hl 0 rfl) ?_
        refine ql_aload_n (r := rl1) C dX1_copyFrom_46 rfl (lv_at hl 1 rfl) ?_
        refine ql_getI C S qf_4_3 gw_172 dX1_copyFrom_47 w (fun x3 w => ?_)
        refine ql_putV C S qf_4_3 gw_172 (tyX1) tyX1_ok nmX1 rfl dX1_copyFrom_50 (v := .int x3) rfl rfl w (fun h H locs S w => ?_)
        refine ql_aload_n (r := (some a0)) C dX1_copyFrom_53 rfl (lv_at hl 0 rfl) ?_
        refine ql_aload_n (r := rl1) C dX1_copyFrom_54 rfl (lv_at hl 1 rfl) ?_
        refine ql_getI C S qf_4_4 gw_174 dX1_copyFrom_55 w (fun x4 w => ?_)
        refine ql_putV C S qf_4_4 gw_174 (tyX1) tyX1_ok nmX1 rfl dX1_copyFrom_58 (v := .int x4) rfl rfl w (fun h H locs S w => ?_)
        refine ql_aload_n (r := (some a0)) C dX1_copyFrom_61 rfl (lv_at hl 0 rfl) ?_
        refine ql_aload_n (r := rl1) C dX1_copyFrom_62 rfl (lv_at hl 1 rfl) ?_
        refine ql_getI C S qf_4_5 gw_176 dX1_copyFrom_63 w (fun x5 w => ?_)
        refine ql_putV C S qf_4_5 gw_176 (tyX1) tyX1_ok nmX1 rfl dX1_copyFrom_66 (v := .int x5) rfl rfl w (fun h H locs S w => ?_)
        refine ql_aload_n (r := (some a0)) C dX1_copyFrom_69 rfl (lv_at hl 0 rfl) ?_
        refine ql_aload_n (r := rl1) C dX1_copyFrom_70 rfl (lv_at hl 1 rfl) ?_
        refine ql_getI C S qf_4_6 gw_178 dX1_copyFrom_71 w (fun x6 w => ?_)
        refine ql_putV C S qf_4_6 gw_178 (tyX1) tyX1_ok nmX1 rfl dX1_copyFrom_74 (v := .int x6) rfl rfl w (fun h H locs S w => ?_)
        refine ql_aload_n (r := (some a0)) C dX1_copyFrom_77 rfl (lv_at hl 0 rfl) ?_
        refine ql_aload_n (r := rl1) C dX1_copyFrom_78 rfl (lv_at hl 1 rfl) ?_
        refine ql_getI C S qf_4_7 gw_180 dX1_copyFrom_79 w (fun x7 w => ?_)
        refine ql_putV C S qf_4_7 gw_180 (tyX1) tyX1_ok nmX1 rfl dX1_copyFrom_82 (v := .int x7) rfl rfl w (fun h H locs S w => ?_)
        refine ql_aload_n (r := rl1) C dX1_copyFrom_85 rfl (lv_at hl 1 rfl) ?_
        refine ql_getR C S qf_4_8 gw_182 dX1_copyFrom_86 w (fun r8 w => ?_)
        refine lv_iconst (v := (0 : Int32)) C.1.1 C.1.2.1 dX1_copyFrom_89 (by decide) ?_
        refine ql_aload_n (r := (some a0)) C dX1_copyFrom_90 rfl (lv_at hl 0 rfl) ?_
        refine ql_getR C S qf_4_8 gw_182 dX1_copyFrom_91 w (fun r9 w => ?_)
        refine lv_iconst (v := (0 : Int32)) C.1.1 C.1.2.1 dX1_copyFrom_94 (by decide) ?_
        refine lv_bipush (v := (6 : Int32)) C.1.1 C.1.2.1 dX1_copyFrom_95 (by decide) ?_
        refine ql_copyI (kd := 0) (ty := .int) C S hl rfl rfl ⟨gw_401, gw_400, gw_399, gw_87⟩ (Nat.le_of_ble_eq_true rfl) (by exact Nat.le_of_ble_eq_true rfl) dX1_copyFrom_97 w (fun h H locs S w => ?_)
        exact ql_vret C S hr hlocks dX1_copyFrom_100 ⟨Nat.le_of_ble_eq_true rfl, Nat.le_of_ble_eq_true rfl⟩ w
      · replace w := ql_ifn w c9
        refine ql_aload_n (r := (some a0)) C dX1_copyFrom_8 rfl (lv_at hl 0 rfl) ?_
        refine ql_getR C S qf_4_0 gw_166 dX1_copyFrom_9 w (fun r10 w => ?_)
        refine lv_iload_n C.1.1 C.1.2.1 dX1_copyFrom_12 rfl (lv_at hl 2 rfl) ?_
        refine ql_aald (kd := 5) C S rfl rfl dX1_copyFrom_13 w (fun r11 w => ?_)
        refine ql_aload_n (r := rl1) C dX1_copyFrom_14 rfl (lv_at hl 1 rfl) ?_
        refine ql_getR C S qf_4_0 gw_166 dX1_copyFrom_15 w (fun r12 w => ?_)
        refine lv_iload_n C.1.1 C.1.2.1 dX1_copyFrom_18 rfl (lv_at hl 2 rfl) ?_
        refine ql_aald (kd := 5) C S rfl rfl dX1_copyFrom_19 w (fun r13 w => ?_)
        refine ql_VV (As := [va_rf r13]) (rest := []) C S htab hlocks hl qy_X3_copyFrom qi_X3_copyFrom qs_X3_copyFrom gw_394 (ci := 6) rfl w (fun b w => qm_X3_copyFrom l hl9 D _ b r13 _ _ w) rfl ⟨Nat.le_of_ble_eq_true rfl, Nat.le_of_ble_eq_true rfl⟩ ⟨rfl, rfl⟩ (by exact Nat.le_of_ble_eq_true rfl) (fun b e9 => by cases e9; rfl) dX1_copyFrom_20 ⟨Nat.le_of_ble_eq_true rfl, Nat.le_of_ble_eq_true rfl⟩ ⟨Nat.le_of_ble_eq_true rfl, Nat.le_of_ble_eq_true rfl⟩ (fun h H locs S w => ?_)
        refine W.cs (cells' := 0) (slots' := 0) rfl rfl ?_
        refine lv_iinc (v := (xl2 + (1 : Int32))) (lv' := [(2, .int (xl2 + (1 : Int32))), (0, .ref a0), (1, va_rf rl1)]) C.1.1 C.1.2.1 dX1_copyFrom_23 hl (k := 2) rfl rfl (by decide) (by generalize rl1 = z9; cases z9 <;> rfl) (fun ls hl => ?_)
        refine lv_goto (tgt := 2) C.1.1 C.1.2.1 dX1_copyFrom_26 (by decide) ?_
        exact ih rl1 (xl2 + (1 : Int32)) _ _ _ _ S (lv_sub hl [1, 2, 0] rfl) w
  unfold qw_X1_copyFrom at w
  refine lv_iconst (v := (0 : Int32)) C.1.1 C.1.2.1 dX1_copyFrom_0 (by decide) ?_
  refine lv_istore_n (lv' := [(2, .int (0 : Int32)), (0, .ref a0), (1, va_rf rp1)]) C.1.1 C.1.2.1 dX1_copyFrom_1 rfl hl (by decide) (by generalize rp1 = z9; cases z9 <;> rfl) (fun ls hl => ?_)
  exact hB2 ql_FU rp1 (0 : Int32) _ _ _ _ S (lv_sub hl [1, 2, 0] rfl) w
def qw_X9_isNote (xp0 : Int32) (h : ql_H) (Q : Int32 → ql_H → Prop) : Prop :=
if xp0 < (97 : Int32) then (ql_nz .boolean (0 : Int32) ∧ Q (0 : Int32) h) else (if (103 : Int32) < xp0 then (ql_nz .boolean (0 : Int32) ∧ Q (0 : Int32) h) else (ql_nz .boolean (1 : Int32) ∧ Q (1 : Int32) h))
set_option maxHeartbeats 4000000 in
set_option maxRecDepth 100000 in
theorem qm_X9_isNote (l : Launch) (hl9 : l.stackTraces = false) (D : ql_D) (h0 : ql_H) (xp0 : Int32) (Q : Int32 → ql_H → Prop) (X : String → ql_H → Prop) (w : qw_X9_isNote xp0 h0 Q) : ql_M D l yX9_isNote cX9_isNote 1 (some .boolean) ({ frames := 2, cells := 0, slots := 0, locals := 48 } : Room) h0 [.int xp0] (ql_rI Q) X 0 0 := by
  refine ql_ofW (by decide) (Nat.le_of_ble_eq_true rfl) ?_
  intro p e s m below meth c ls C hr hlocks hnm htab S hl
  have hl : lv_has ls 1 [(0, .int xp0)] := hl
  unfold qw_X9_isNote at w
  refine lv_iload_n C.1.1 C.1.2.1 dX9_isNote_0 rfl (lv_at hl 0 rfl) ?_
  refine lv_bipush (v := (97 : Int32)) C.1.1 C.1.2.1 dX9_isNote_1 (by decide) ?_
  refine lv_icmp_lt (tgt := 16) C.1.1 C.1.2.1 dX9_isNote_3 (by decide) (fun c9 => ?_) (fun c9 => ?_)
  · replace w := ql_if w c9
    refine lv_iconst (v := (0 : Int32)) C.1.1 C.1.2.1 dX9_isNote_16 (by decide) ?_
    exact ql_zret C S hr hlocks dX9_isNote_17 ⟨Nat.le_of_ble_eq_true rfl, Nat.le_of_ble_eq_true rfl⟩ w
  · replace w := ql_ifn w c9
    refine lv_iload_n C.1.1 C.1.2.1 dX9_isNote_6 rfl (lv_at hl 0 rfl) ?_
    refine lv_bipush (v := (103 : Int32)) C.1.1 C.1.2.1 dX9_isNote_7 (by decide) ?_
    refine lv_icmp_gt (tgt := 16) C.1.1 C.1.2.1 dX9_isNote_9 (by decide) (fun c9 => ?_) (fun c9 => ?_)
    · replace w := ql_if w c9
      refine lv_iconst (v := (0 : Int32)) C.1.1 C.1.2.1 dX9_isNote_16 (by decide) ?_
      exact ql_zret C S hr hlocks dX9_isNote_17 ⟨Nat.le_of_ble_eq_true rfl, Nat.le_of_ble_eq_true rfl⟩ w
    · replace w := ql_ifn w c9
      refine lv_iconst (v := (1 : Int32)) C.1.1 C.1.2.1 dX9_isNote_12 (by decide) ?_
      refine lv_goto (tgt := 17) C.1.1 C.1.2.1 dX9_isNote_13 (by decide) ?_
      exact ql_zret C S hr hlocks dX9_isNote_17 ⟨Nat.le_of_ble_eq_true rfl, Nat.le_of_ble_eq_true rfl⟩ w
def qw_X1_freeClause_10 (a0 : Nat) (Q : Option Nat → ql_H → Prop) : Nat → Option Nat → Int32 → Int32 → ql_H → Prop
  | 0, _, _, _, _ => False
  | n + 1, rl1, xl2, xl3, h =>
    if xl2 ≤ xl3 then (Q none h) else (ql_lR h rl1 5 xl3 fun r1 =>
    ql_gI h r1 6 0 fun x2 =>
    if x2 = 0 then (Q r1 h) else (qw_X1_freeClause_10 a0 Q n rl1 xl2 (xl3 + (1 : Int32)) h))
def qw_X1_freeClause (a0 : Nat) (h : ql_H) (Q : Option Nat → ql_H → Prop) : Prop :=
ql_gR h (some a0) 4 0 fun r3 =>
ql_len h r3 5 fun x4 =>
qw_X1_freeClause_10 a0 Q ql_FU r3 x4 (0 : Int32) h
set_option maxHeartbeats 4000000 in
set_option maxRecDepth 100000 in
theorem qm_X1_freeClause (l : Launch) (hl9 : l.stackTraces = false) (D : ql_D) (h0 : ql_H) (a0 : Nat) (Q : Option Nat → ql_H → Prop) (X : String → ql_H → Prop) (w : qw_X1_freeClause a0 h0 Q) : ql_M D l yX1_freeClause cX1_freeClause 5 (some (.object "ClauseLedger$Clause")) ({ frames := 2, cells := 0, slots := 0, locals := 48 } : Room) h0 [.ref a0] (ql_rR Q) X 0 0 := by
  refine ql_ofW (by decide) (Nat.le_of_ble_eq_true rfl) ?_
  intro p e s m below meth c ls C hr hlocks hnm htab S hl
  have hl : lv_has ls 5 [(0, .ref a0)] := hl
  have hB10 : ∀ n : Nat, ∀ (rl1 : Option Nat) (xl2 : Int32) (xl3 : Int32) (h : ql_H) (H : Heap) (locs : List Loc) (ls : Array Slot), ql_S D h0 s H locs h → lv_has ls 5 [(1, va_rf rl1), (2, .int xl2), (3, .int xl3)] → qw_X1_freeClause_10 a0 Q n rl1 xl2 xl3 h → W p l e ({ frames := 2, cells := 0, slots := 0, locals := 48 } : Room) s m ([.ref a0] : List Value).toArray below meth c H locs 0 0 (vx_MQ below (ql_Q D h0 (ql_rR Q)) (ql_X D h0 X) ([.ref a0] : List Value).toArray s 0 0 (ql_A h0)) (F0 m 10 ls []) := by
    intro n
    induction n with
    | zero => intro rl1 xl2 xl3 h H locs ls S hl w; rw [qw_X1_freeClause_10] at w; exact w.elim
    | succ n ih =>
      intro rl1 xl2 xl3 h H locs ls S hl w
      rw [qw_X1_freeClause_10] at w
      refine lv_iload_n C.1.1 C.1.2.1 dX1_freeClause_10 rfl (lv_at hl 2 rfl) ?_
      refine lv_iload_n C.1.1 C.1.2.1 dX1_freeClause_11 rfl (lv_at hl 1 rfl) ?_
      refine lv_icmp_ge (tgt := 37) C.1.1 C.1.2.1 dX1_freeClause_12 (by decide) (fun c9 => ?_) (fun c9 => ?_)
      · replace w := ql_if w c9
        refine ql_null C dX1_freeClause_37 ?_
        exact ql_aret C S hr hlocks dX1_freeClause_38 ⟨Nat.le_of_ble_eq_true rfl, Nat.le_of_ble_eq_true rfl⟩ w
      · replace w := ql_ifn w c9
        refine ql_aload_n (r := rl1) C dX1_freeClause_15 rfl (lv_at hl 0 rfl) ?_
        refine lv_iload_n C.1.1 C.1.2.1 dX1_freeClause_16 rfl (lv_at hl 2 rfl) ?_
        refine ql_aald (kd := 5) C S rfl rfl dX1_freeClause_17 w (fun r1 w => ?_)
        refine ql_astore (lv' := [(4, va_rf r1), (1, va_rf rl1), (2, .int xl2), (3, .int xl3)]) C dX1_freeClause_18 hl (by decide) rfl (fun ls hl => ?_)
        refine ql_aload (r := r1) C dX1_freeClause_20 (lv_at hl 0 rfl) ?_
        refine ql_getIN C S qf_6_0 (qn_RX1_144) dX1_freeClause_22 w (fun x2 w => ?_)
        refine lv_if_ne (tgt := 31) C.1.1 C.1.2.1 dX1_freeClause_25 (by decide) (fun c9 => ?_) (fun c9 => ?_)
        · replace w := ql_ifn w c9
          refine lv_iinc (v := (xl3 + (1 : Int32))) (lv' := [(3, .int (xl3 + (1 : Int32))), (4, va_rf r1), (1, va_rf rl1), (2, .int xl2)]) C.1.1 C.1.2.1 dX1_freeClause_31 hl (k := 3) rfl rfl (by decide) rfl (fun ls hl => ?_)
          refine lv_goto (tgt := 10) C.1.1 C.1.2.1 dX1_freeClause_34 (by decide) ?_
          exact ih rl1 xl2 (xl3 + (1 : Int32)) _ _ _ _ S (lv_sub hl [2, 3, 0] rfl) w
        · replace w := ql_if w c9
          refine ql_aload (r := r1) C dX1_freeClause_28 (lv_at hl 0 rfl) ?_
          exact ql_aret C S hr hlocks dX1_freeClause_30 ⟨Nat.le_of_ble_eq_true rfl, Nat.le_of_ble_eq_true rfl⟩ w
  unfold qw_X1_freeClause at w
  refine ql_aload_n (r := (some a0)) C dX1_freeClause_0 rfl (lv_at hl 0 rfl) ?_
  refine ql_getR C S qf_4_0 gw_166 dX1_freeClause_1 w (fun r3 w => ?_)
  refine ql_astore_n (lv' := [(1, va_rf r3), (0, .ref a0)]) C dX1_freeClause_4 rfl hl (by decide) rfl (fun ls hl => ?_)
  refine ql_aload_n (r := r3) C dX1_freeClause_5 rfl (lv_at hl 0 rfl) ?_
  refine ql_alen (kd := 5) C S rfl dX1_freeClause_6 w (fun x4 w => ?_)
  refine lv_istore_n (lv' := [(2, .int x4), (1, va_rf r3), (0, .ref a0)]) C.1.1 C.1.2.1 dX1_freeClause_7 rfl hl (by decide) (by generalize r3 = z9; cases z9 <;> rfl) (fun ls hl => ?_)
  refine lv_iconst (v := (0 : Int32)) C.1.1 C.1.2.1 dX1_freeClause_8 (by decide) ?_
  refine lv_istore_n (lv' := [(3, .int (0 : Int32)), (2, .int x4), (1, va_rf r3), (0, .ref a0)]) C.1.1 C.1.2.1 dX1_freeClause_9 rfl hl (by decide) rfl (fun ls hl => ?_)
  exact hB10 ql_FU r3 x4 (0 : Int32) _ _ _ _ S (lv_sub hl [2, 1, 0] rfl) w
def qw_X1_clauseWithSection_43 (a0 : Nat) (Q : Option Nat → ql_H → Prop) (k11 : Int32 → Option Nat → Int32 → Int32 → ql_H → Prop) (xl1 : Int32) (rl2 : Option Nat) (xl3 : Int32) (xl4 : Int32) (h : ql_H) : Prop :=
k11 xl1 rl2 xl3 (xl4 + (1 : Int32)) h
def qw_X1_clauseWithSection_11 (a0 : Nat) (Q : Option Nat → ql_H → Prop) : Nat → Int32 → Option Nat → Int32 → Int32 → ql_H → Prop
  | 0, _, _, _, _, _ => False
  | n + 1, xl1, rl2, xl3, xl4, h =>
    if xl3 ≤ xl4 then (Q none h) else (ql_lR h rl2 5 xl4 fun r1 =>
    ql_gI h r1 6 0 fun x2 =>
    if x2 = 0 then (qw_X1_clauseWithSection_43 a0 Q (qw_X1_clauseWithSection_11 a0 Q n) xl1 rl2 xl3 xl4 h) else (ql_gI h r1 6 2 fun x3 =>
    if x3 = xl1 then (Q r1 h) else (qw_X1_clauseWithSection_43 a0 Q (qw_X1_clauseWithSection_11 a0 Q n) xl1 rl2 xl3 xl4 h)))
def qw_X1_clauseWithSection (a0 : Nat) (xp1 : Int32) (h : ql_H) (Q : Option Nat → ql_H → Prop) : Prop :=
ql_gR h (some a0) 4 0 fun r4 =>
ql_len h r4 5 fun x5 =>
qw_X1_clauseWithSection_11 a0 Q ql_FU xp1 r4 x5 (0 : Int32) h
set_option maxHeartbeats 4000000 in
set_option maxRecDepth 100000 in
theorem qm_X1_clauseWithSection (l : Launch) (hl9 : l.stackTraces = false) (D : ql_D) (h0 : ql_H) (a0 : Nat) (xp1 : Int32) (Q : Option Nat → ql_H → Prop) (X : String → ql_H → Prop) (w : qw_X1_clauseWithSection a0 xp1 h0 Q) : ql_M D l yX1_clauseWithSection cX1_clauseWithSection 6 (some (.object "ClauseLedger$Clause")) ({ frames := 2, cells := 0, slots := 0, locals := 48 } : Room) h0 [.ref a0, .int xp1] (ql_rR Q) X 0 0 := by
  refine ql_ofW (by decide) (Nat.le_of_ble_eq_true rfl) ?_
  intro p e s m below meth c ls C hr hlocks hnm htab S hl
  have hl : lv_has ls 6 [(0, .ref a0), (1, .int xp1)] := hl
  have hB43 : ∀ (k11 : Int32 → Option Nat → Int32 → Int32 → ql_H → Prop) (hk11 : ∀ (xl1 : Int32) (rl2 : Option Nat) (xl3 : Int32) (xl4 : Int32) (h : ql_H) (H : Heap) (locs : List Loc) (ls : Array Slot), ql_S D h0 s H locs h → lv_has ls 6 [(1, .int xl1), (2, va_rf rl2), (3, .int xl3), (4, .int xl4)] → k11 xl1 rl2 xl3 xl4 h → W p l e ({ frames := 2, cells := 0, slots := 0, locals := 48 } : Room) s m ([.ref a0, .int xp1] : List Value).toArray below meth c H locs 0 0 (vx_MQ below (ql_Q D h0 (ql_rR Q)) (ql_X D h0 X) ([.ref a0, .int xp1] : List Value).toArray s 0 0 (ql_A h0)) (F0 m 11 ls [])) , ∀ (xl1 : Int32) (rl2 : Option Nat) (xl3 : Int32) (xl4 : Int32) (h : ql_H) (H : Heap) (locs : List Loc) (ls : Array Slot), ql_S D h0 s H locs h → lv_has ls 6 [(1, .int xl1), (2, va_rf rl2), (3, .int xl3), (4, .int xl4)] → qw_X1_clauseWithSection_43 a0 Q k11 xl1 rl2 xl3 xl4 h → W p l e ({ frames := 2, cells := 0, slots := 0, locals := 48 } : Room) s m ([.ref a0, .int xp1] : List Value).toArray below meth c H locs 0 0 (vx_MQ below (ql_Q D h0 (ql_rR Q)) (ql_X D h0 X) ([.ref a0, .int xp1] : List Value).toArray s 0 0 (ql_A h0)) (F0 m 43 ls []) := by
    intro k11 hk11 xl1 rl2 xl3 xl4 h H locs ls S hl w
    unfold qw_X1_clauseWithSection_43 at w
    refine lv_iinc (v := (xl4 + (1 : Int32))) (lv' := [(4, .int (xl4 + (1 : Int32))), (1, .int xl1), (2, va_rf rl2), (3, .int xl3)]) C.1.1 C.1.2.1 dX1_clauseWithSection_43 hl (k := 3) rfl rfl (by decide) rfl (fun ls hl => ?_)
    refine lv_goto (tgt := 11) C.1.1 C.1.2.1 dX1_clauseWithSection_46 (by decide) ?_
    exact hk11 xl1 rl2 xl3 (xl4 + (1 : Int32)) _ _ _ _ S (lv_sub hl [1, 2, 3, 0] rfl) w
  have hB11 : ∀ n : Nat, ∀ (xl1 : Int32) (rl2 : Option Nat) (xl3 : Int32) (xl4 : Int32) (h : ql_H) (H : Heap) (locs : List Loc) (ls : Array Slot), ql_S D h0 s H locs h → lv_has ls 6 [(1, .int xl1), (2, va_rf rl2), (3, .int xl3), (4, .int xl4)] → qw_X1_clauseWithSection_11 a0 Q n xl1 rl2 xl3 xl4 h → W p l e ({ frames := 2, cells := 0, slots := 0, locals := 48 } : Room) s m ([.ref a0, .int xp1] : List Value).toArray below meth c H locs 0 0 (vx_MQ below (ql_Q D h0 (ql_rR Q)) (ql_X D h0 X) ([.ref a0, .int xp1] : List Value).toArray s 0 0 (ql_A h0)) (F0 m 11 ls []) := by
    intro n
    induction n with
    | zero => intro xl1 rl2 xl3 xl4 h H locs ls S hl w; rw [qw_X1_clauseWithSection_11] at w; exact w.elim
    | succ n ih =>
      intro xl1 rl2 xl3 xl4 h H locs ls S hl w
      rw [qw_X1_clauseWithSection_11] at w
      refine lv_iload C.1.1 C.1.2.1 dX1_clauseWithSection_11 (lv_at hl 3 rfl) ?_
      refine lv_iload_n C.1.1 C.1.2.1 dX1_clauseWithSection_13 rfl (lv_at hl 2 rfl) ?_
      refine lv_icmp_ge (tgt := 49) C.1.1 C.1.2.1 dX1_clauseWithSection_14 (by decide) (fun c9 => ?_) (fun c9 => ?_)
      · replace w := ql_if w c9
        refine ql_null C dX1_clauseWithSection_49 ?_
        exact ql_aret C S hr hlocks dX1_clauseWithSection_50 ⟨Nat.le_of_ble_eq_true rfl, Nat.le_of_ble_eq_true rfl⟩ w
      · replace w := ql_ifn w c9
        refine ql_aload_n (r := rl2) C dX1_clauseWithSection_17 rfl (lv_at hl 1 rfl) ?_
        refine lv_iload C.1.1 C.1.2.1 dX1_clauseWithSection_18 (lv_at hl 3 rfl) ?_
        refine ql_aald (kd := 5) C S rfl rfl dX1_clauseWithSection_20 w (fun r1 w => ?_)
        refine ql_astore (lv' := [(5, va_rf r1), (1, .int xl1), (2, va_rf rl2), (3, .int xl3), (4, .int xl4)]) C dX1_clauseWithSection_21 hl (by decide) rfl (fun ls hl => ?_)
        refine ql_aload (r := r1) C dX1_clauseWithSection_23 (lv_at hl 0 rfl) ?_
        refine ql_getIN C S qf_6_0 (qn_RX1_144) dX1_clauseWithSection_25 w (fun x2 w => ?_)
        refine lv_if_eq (tgt := 43) C.1.1 C.1.2.1 dX1_clauseWithSection_28 (by decide) (fun c9 => ?_) (fun c9 => ?_)
        · replace w := ql_if w c9
          exact hB43 (qw_X1_clauseWithSection_11 a0 Q n) ih xl1 rl2 xl3 xl4 _ _ _ _ S (lv_sub hl [1, 2, 3, 4] rfl) w
        · replace w := ql_ifn w c9
          refine ql_aload (r := r1) C dX1_clauseWithSection_31 (lv_at hl 0 rfl) ?_
          refine ql_getIN C S qf_6_2 (qn_RX1_176) dX1_clauseWithSection_33 w (fun x3 w => ?_)
          refine lv_iload_n C.1.1 C.1.2.1 dX1_clauseWithSection_36 rfl (lv_at hl 1 rfl) ?_
          refine lv_icmp_ne (tgt := 43) C.1.1 C.1.2.1 dX1_clauseWithSection_37 (by decide) (fun c9 => ?_) (fun c9 => ?_)
          · replace w := ql_ifn w c9
            exact hB43 (qw_X1_clauseWithSection_11 a0 Q n) ih xl1 rl2 xl3 xl4 _ _ _ _ S (lv_sub hl [1, 2, 3, 4] rfl) w
          · replace w := ql_if w c9
            refine ql_aload (r := r1) C dX1_clauseWithSection_40 (lv_at hl 0 rfl) ?_
            exact ql_aret C S hr hlocks dX1_clauseWithSection_42 ⟨Nat.le_of_ble_eq_true rfl, Nat.le_of_ble_eq_true rfl⟩ w
  unfold qw_X1_clauseWithSection at w
  refine ql_aload_n (r := (some a0)) C dX1_clauseWithSection_0 rfl (lv_at hl 0 rfl) ?_
  refine ql_getR C S qf_4_0 gw_166 dX1_clauseWithSection_1 w (fun r4 w => ?_)
  refine ql_astore_n (lv' := [(2, va_rf r4), (0, .ref a0), (1, .int xp1)]) C dX1_clauseWithSection_4 rfl hl (by decide) rfl (fun ls hl => ?_)
  refine ql_aload_n (r := r4) C dX1_clauseWithSection_5 rfl (lv_at hl 0 rfl) ?_
  refine ql_alen (kd := 5) C S rfl dX1_clauseWithSection_6 w (fun x5 w => ?_)
  refine lv_istore_n (lv' := [(3, .int x5), (2, va_rf r4), (0, .ref a0), (1, .int xp1)]) C.1.1 C.1.2.1 dX1_clauseWithSection_7 rfl hl (by decide) (by generalize r4 = z9; cases z9 <;> rfl) (fun ls hl => ?_)
  refine lv_iconst (v := (0 : Int32)) C.1.1 C.1.2.1 dX1_clauseWithSection_8 (by decide) ?_
  refine lv_istore (lv' := [(4, .int (0 : Int32)), (3, .int x5), (2, va_rf r4), (0, .ref a0), (1, .int xp1)]) C.1.1 C.1.2.1 dX1_clauseWithSection_9 hl (by decide) rfl (fun ls hl => ?_)
  exact hB11 ql_FU xp1 r4 x5 (0 : Int32) _ _ _ _ S (lv_sub hl [4, 2, 1, 0] rfl) w
def qw_X9_ofNote (xp0 : Int32) (h : ql_H) (Q : Int64 → ql_H → Prop) : Prop :=
Q ((xp0 - (97 : Int32)) + (1 : Int32)).toInt64 h
set_option maxHeartbeats 4000000 in
set_option maxRecDepth 100000 in
theorem qm_X9_ofNote (l : Launch) (hl9 : l.stackTraces = false) (D : ql_D) (h0 : ql_H) (xp0 : Int32) (Q : Int64 → ql_H → Prop) (X : String → ql_H → Prop) (w : qw_X9_ofNote xp0 h0 Q) : ql_M D l yX9_ofNote cX9_ofNote 1 (some .long) ({ frames := 2, cells := 0, slots := 0, locals := 48 } : Room) h0 [.int xp0] (ql_rJ Q) X 0 0 := by
  refine ql_ofW (by decide) (Nat.le_of_ble_eq_true rfl) ?_
  intro p e s m below meth c ls C hr hlocks hnm htab S hl
  have hl : lv_has ls 1 [(0, .int xp0)] := hl
  unfold qw_X9_ofNote at w
  refine lv_iload_n C.1.1 C.1.2.1 dX9_ofNote_0 rfl (lv_at hl 0 rfl) ?_
  refine lv_bipush (v := (97 : Int32)) C.1.1 C.1.2.1 dX9_ofNote_1 (by decide) ?_
  refine lv_isub C.1.1 C.1.2.1 dX9_ofNote_3 ?_
  refine lv_iconst (v := (1 : Int32)) C.1.1 C.1.2.1 dX9_ofNote_4 (by decide) ?_
  refine lv_iadd C.1.1 C.1.2.1 dX9_ofNote_5 ?_
  refine lv_i2l C.1.1 C.1.2.1 dX9_ofNote_6 rfl ?_
  exact ql_lret C S hr hlocks dX9_ofNote_7 ⟨Nat.le_of_ble_eq_true rfl, Nat.le_of_ble_eq_true rfl⟩ w
def qw_X3_keepOnly_3 (a0 : Nat) (Q : ql_H → Prop) : Nat → Int32 → Int64 → Int32 → ql_H → Prop
  | 0, _, _, _, _ => False
  | n + 1, xl1, jl2, xl4, h =>
    ql_gR h (some a0) 6 6 fun r1 =>
    ql_len h r1 1 fun x2 =>
    if x2 ≤ xl4 then (ql_gR h (some a0) 6 5 fun r3 =>
    ql_sI h r3 0 (0 : Int32) xl1 fun h =>
    ql_gR h (some a0) 6 6 fun r4 =>
    ql_sJ h r4 (0 : Int32) jl2 fun h =>
    Q h) else (ql_gR h (some a0) 6 6 fun r5 =>
    ql_sJ h r5 xl4 (0 : Int64) fun h =>
    qw_X3_keepOnly_3 a0 Q n xl1 jl2 (xl4 + (1 : Int32)) h)
def qw_X3_keepOnly (a0 : Nat) (xp1 : Int32) (jp2 : Int64) (h : ql_H) (Q : ql_H → Prop) : Prop :=
qw_X3_keepOnly_3 a0 Q ql_FU xp1 jp2 (0 : Int32) h
set_option maxHeartbeats 4000000 in
set_option maxRecDepth 100000 in
theorem qm_X3_keepOnly (l : Launch) (hl9 : l.stackTraces = false) (D : ql_D) (h0 : ql_H) (a0 : Nat) (xp1 : Int32) (jp2 : Int64) (Q : ql_H → Prop) (X : String → ql_H → Prop) (w : qw_X3_keepOnly a0 xp1 jp2 h0 Q) : ql_M D l yX3_keepOnly cX3_keepOnly 5 none ({ frames := 2, cells := 0, slots := 0, locals := 48 } : Room) h0 [.ref a0, .int xp1, .long jp2] (ql_rV Q) X 0 0 := by
  refine ql_ofW (by decide) (Nat.le_of_ble_eq_true rfl) ?_
  intro p e s m below meth c ls C hr hlocks hnm htab S hl
  have hl : lv_has ls 5 [(0, .ref a0), (1, .int xp1), (2, .long jp2)] := hl
  have hB3 : ∀ n : Nat, ∀ (xl1 : Int32) (jl2 : Int64) (xl4 : Int32) (h : ql_H) (H : Heap) (locs : List Loc) (ls : Array Slot), ql_S D h0 s H locs h → lv_has ls 5 [(0, .ref a0), (1, .int xl1), (2, .long jl2), (4, .int xl4)] → qw_X3_keepOnly_3 a0 Q n xl1 jl2 xl4 h → W p l e ({ frames := 2, cells := 0, slots := 0, locals := 48 } : Room) s m ([.ref a0, .int xp1, .long jp2] : List Value).toArray below meth c H locs 0 0 (vx_MQ below (ql_Q D h0 (ql_rV Q)) (ql_X D h0 X) ([.ref a0, .int xp1, .long jp2] : List Value).toArray s 0 0 (ql_A h0)) (F0 m 3 ls []) := by
    intro n
    induction n with
    | zero => intro xl1 jl2 xl4 h H locs ls S hl w; rw [qw_X3_keepOnly_3] at w; exact w.elim
    | succ n ih =>
      intro xl1 jl2 xl4 h H locs ls S hl w
      rw [qw_X3_keepOnly_3] at w
      refine lv_iload C.1.1 C.1.2.1 dX3_keepOnly_3 (lv_at hl 3 rfl) ?_
      refine ql_aload_n (r := (some a0)) C dX3_keepOnly_5 rfl (lv_at hl 0 rfl) ?_
      refine ql_getR C S qf_6_6 gw_145 dX3_keepOnly_6 w (fun r1 w => ?_)
      refine ql_alen (kd := 1) C S rfl dX3_keepOnly_9 w (fun x2 w => ?_)
      refine lv_icmp_ge (tgt := 27) C.1.1 C.1.2.1 dX3_keepOnly_10 (by decide) (fun c9 => ?_) (fun c9 => ?_)
      · replace w := ql_if w c9
        refine ql_aload_n (r := (some a0)) C dX3_keepOnly_27 rfl (lv_at hl 0 rfl) ?_
        refine ql_getR C S qf_6_5 gw_144 dX3_keepOnly_28 w (fun r3 w => ?_)
        refine lv_iconst (v := (0 : Int32)) C.1.1 C.1.2.1 dX3_keepOnly_31 (by decide) ?_
        refine lv_iload_n C.1.1 C.1.2.1 dX3_keepOnly_32 rfl (lv_at hl 1 rfl) ?_
        refine ql_iast C S dX3_keepOnly_33 w (fun h H locs S w => ?_)
        refine ql_aload_n (r := (some a0)) C dX3_keepOnly_34 rfl (lv_at hl 0 rfl) ?_
        refine ql_getR C S qf_6_6 gw_145 dX3_keepOnly_35 w (fun r4 w => ?_)
        refine lv_iconst (v := (0 : Int32)) C.1.1 C.1.2.1 dX3_keepOnly_38 (by decide) ?_
        refine lv_lload_n C.1.1 C.1.2.1 dX3_keepOnly_39 rfl (lv_at hl 2 rfl) ?_
        refine ql_last C S dX3_keepOnly_40 w (fun h H locs S w => ?_)
        exact ql_vret C S hr hlocks dX3_keepOnly_41 ⟨Nat.le_of_ble_eq_true rfl, Nat.le_of_ble_eq_true rfl⟩ w
      · replace w := ql_ifn w c9
        refine ql_aload_n (r := (some a0)) C dX3_keepOnly_13 rfl (lv_at hl 0 rfl) ?_
        refine ql_getR C S qf_6_6 gw_145 dX3_keepOnly_14 w (fun r5 w => ?_)
        refine lv_iload C.1.1 C.1.2.1 dX3_keepOnly_17 (lv_at hl 3 rfl) ?_
        refine lv_lconst (v := (0 : Int64)) C.1.1 C.1.2.1 dX3_keepOnly_19 (by decide) ?_
        refine ql_last C S dX3_keepOnly_20 w (fun h H locs S w => ?_)
        refine lv_iinc (v := (xl4 + (1 : Int32))) (lv' := [(4, .int (xl4 + (1 : Int32))), (0, .ref a0), (1, .int xl1), (2, .long jl2)]) C.1.1 C.1.2.1 dX3_keepOnly_21 hl (k := 3) rfl rfl (by decide) rfl (fun ls hl => ?_)
        refine lv_goto (tgt := 3) C.1.1 C.1.2.1 dX3_keepOnly_24 (by decide) ?_
        exact ih xl1 jl2 (xl4 + (1 : Int32)) _ _ _ _ S (lv_sub hl [1, 2, 3, 0] rfl) w
  unfold qw_X3_keepOnly at w
  refine lv_iconst (v := (0 : Int32)) C.1.1 C.1.2.1 dX3_keepOnly_0 (by decide) ?_
  refine lv_istore (lv' := [(4, .int (0 : Int32)), (0, .ref a0), (1, .int xp1), (2, .long jp2)]) C.1.1 C.1.2.1 dX3_keepOnly_1 hl (by decide) rfl (fun ls hl => ?_)
  exact hB3 ql_FU xp1 jp2 (0 : Int32) _ _ _ _ S (lv_sub hl [1, 2, 3, 0] rfl) w
def qw_X3_begin_35 (a0 : Nat) (Q : ql_H → Prop) : Nat → Int32 → ql_H → Prop
  | 0, _, _ => False
  | n + 1, xl6, h =>
    ql_gR h (some a0) 6 7 fun r1 =>
    ql_len h r1 0 fun x2 =>
    if x2 ≤ xl6 then (Q h) else (ql_gR h (some a0) 6 7 fun r3 =>
    ql_sI h r3 0 xl6 (-1 : Int32) fun h =>
    qw_X3_begin_35 a0 Q n (xl6 + (1 : Int32)) h)
def qw_X3_begin (a0 : Nat) (xp1 : Int32) (xp2 : Int32) (xp3 : Int32) (jp4 : Int64) (h : ql_H) (Q : ql_H → Prop) : Prop :=
ql_pV h (some a0) 6 0 (.int (1 : Int32)) fun h =>
ql_pV h (some a0) 6 1 (.int xp1) fun h =>
ql_pV h (some a0) 6 2 (.int xp2) fun h =>
ql_pV h (some a0) 6 3 (.int xp3) fun h =>
ql_pV h (some a0) 6 4 (.int (-1 : Int32)) fun h =>
ql_rv h (some a0) 6 fun b3 => qw_X3_keepOnly b3 xp3 jp4 h (fun h =>
qw_X3_begin_35 a0 Q ql_FU (0 : Int32) h)
set_option maxHeartbeats 4000000 in
set_option maxRecDepth 100000 in
theorem qm_X3_begin (l : Launch) (hl9 : l.stackTraces = false) (D : ql_D) (h0 : ql_H) (a0 : Nat) (xp1 : Int32) (xp2 : Int32) (xp3 : Int32) (jp4 : Int64) (Q : ql_H → Prop) (X : String → ql_H → Prop) (w : qw_X3_begin a0 xp1 xp2 xp3 jp4 h0 Q) : ql_M D l yX3_begin cX3_begin 7 none ({ frames := 4, cells := 0, slots := 0, locals := 80 } : Room) h0 [.ref a0, .int xp1, .int xp2, .int xp3, .long jp4] (ql_rV Q) X 0 0 := by
  refine ql_ofW (by decide) (Nat.le_of_ble_eq_true rfl) ?_
  intro p e s m below meth c ls C hr hlocks hnm htab S hl
  have hl : lv_has ls 7 [(0, .ref a0), (1, .int xp1), (2, .int xp2), (3, .int xp3), (4, .long jp4)] := hl
  have hB35 : ∀ n : Nat, ∀ (xl6 : Int32) (h : ql_H) (H : Heap) (locs : List Loc) (ls : Array Slot), ql_S D h0 s H locs h → lv_has ls 7 [(0, .ref a0), (6, .int xl6)] → qw_X3_begin_35 a0 Q n xl6 h → W p l e ({ frames := 4, cells := 0, slots := 0, locals := 80 } : Room) s m ([.ref a0, .int xp1, .int xp2, .int xp3, .long jp4] : List Value).toArray below meth c H locs 0 0 (vx_MQ below (ql_Q D h0 (ql_rV Q)) (ql_X D h0 X) ([.ref a0, .int xp1, .int xp2, .int xp3, .long jp4] : List Value).toArray s 0 0 (ql_A h0)) (F0 m 35 ls []) := by
    intro n
    induction n with
    | zero => intro xl6 h H locs ls S hl w; rw [qw_X3_begin_35] at w; exact w.elim
    | succ n ih =>
      intro xl6 h H locs ls S hl w
      rw [qw_X3_begin_35] at w
      refine lv_iload C.1.1 C.1.2.1 dX3_begin_35 (lv_at hl 1 rfl) ?_
      refine ql_aload_n (r := (some a0)) C dX3_begin_37 rfl (lv_at hl 0 rfl) ?_
      refine ql_getR C S qf_6_7 gw_146 dX3_begin_38 w (fun r1 w => ?_)
      refine ql_alen (kd := 0) C S rfl dX3_begin_41 w (fun x2 w => ?_)
      refine lv_icmp_ge (tgt := 59) C.1.1 C.1.2.1 dX3_begin_42 (by decide) (fun c9 => ?_) (fun c9 => ?_)
      · replace w := ql_if w c9
        exact ql_vret C S hr hlocks dX3_begin_59 ⟨Nat.le_of_ble_eq_true rfl, Nat.le_of_ble_eq_true rfl⟩ w
      · replace w := ql_ifn w c9
        refine ql_aload_n (r := (some a0)) C dX3_begin_45 rfl (lv_at hl 0 rfl) ?_
        refine ql_getR C S qf_6_7 gw_146 dX3_begin_46 w (fun r3 w => ?_)
        refine lv_iload C.1.1 C.1.2.1 dX3_begin_49 (lv_at hl 1 rfl) ?_
        refine lv_iconst (v := (-1 : Int32)) C.1.1 C.1.2.1 dX3_begin_51 (by decide) ?_
        refine ql_iast C S dX3_begin_52 w (fun h H locs S w => ?_)
        refine lv_iinc (v := (xl6 + (1 : Int32))) (lv' := [(6, .int (xl6 + (1 : Int32))), (0, .ref a0)]) C.1.1 C.1.2.1 dX3_begin_53 hl (k := 1) rfl rfl (by decide) rfl (fun ls hl => ?_)
        refine lv_goto (tgt := 35) C.1.1 C.1.2.1 dX3_begin_56 (by decide) ?_
        exact ih (xl6 + (1 : Int32)) _ _ _ _ S (lv_sub hl [1, 0] rfl) w
  unfold qw_X3_begin at w
  refine ql_aload_n (r := (some a0)) C dX3_begin_0 rfl (lv_at hl 0 rfl) ?_
  refine lv_iconst (v := (1 : Int32)) C.1.1 C.1.2.1 dX3_begin_1 (by decide) ?_
  refine ql_putV C S qf_6_0 gw_129 (tyX3) tyX3_ok nmX3 rfl dX3_begin_2 (v := .int (1 : Int32)) rfl rfl w (fun h H locs S w => ?_)
  refine ql_aload_n (r := (some a0)) C dX3_begin_5 rfl (lv_at hl 0 rfl) ?_
  refine lv_iload_n C.1.1 C.1.2.1 dX3_begin_6 rfl (lv_at hl 1 rfl) ?_
  refine ql_putV C S qf_6_1 gw_133 (tyX3) tyX3_ok nmX3 rfl dX3_begin_7 (v := .int xp1) rfl rfl w (fun h H locs S w => ?_)
  refine ql_aload_n (r := (some a0)) C dX3_begin_10 rfl (lv_at hl 0 rfl) ?_
  refine lv_iload_n C.1.1 C.1.2.1 dX3_begin_11 rfl (lv_at hl 2 rfl) ?_
  refine ql_putV C S qf_6_2 gw_136 (tyX3) tyX3_ok nmX3 rfl dX3_begin_12 (v := .int xp2) rfl rfl w (fun h H locs S w => ?_)
  refine ql_aload_n (r := (some a0)) C dX3_begin_15 rfl (lv_at hl 0 rfl) ?_
  refine lv_iload_n C.1.1 C.1.2.1 dX3_begin_16 rfl (lv_at hl 3 rfl) ?_
  refine ql_putV C S qf_6_3 gw_139 (tyX3) tyX3_ok nmX3 rfl dX3_begin_17 (v := .int xp3) rfl rfl w (fun h H locs S w => ?_)
  refine ql_aload_n (r := (some a0)) C dX3_begin_20 rfl (lv_at hl 0 rfl) ?_
  refine lv_iconst (v := (-1 : Int32)) C.1.1 C.1.2.1 dX3_begin_21 (by decide) ?_
  refine ql_putV C S qf_6_4 gw_141 (tyX3) tyX3_ok nmX3 rfl dX3_begin_22 (v := .int (-1 : Int32)) rfl rfl w (fun h H locs S w => ?_)
  refine ql_aload_n (r := (some a0)) C dX3_begin_25 rfl (lv_at hl 0 rfl) ?_
  refine lv_iload_n C.1.1 C.1.2.1 dX3_begin_26 rfl (lv_at hl 3 rfl) ?_
  refine lv_lload C.1.1 C.1.2.1 dX3_begin_27 (lv_at hl 4 rfl) ?_
  refine ql_VV (As := [.int xp3, .long jp4]) (rest := []) C S htab hlocks hl qy_X3_keepOnly qi_X3_keepOnly qs_X3_keepOnly gw_471 (ci := 6) rfl w (fun b w => qm_X3_keepOnly l hl9 D _ b xp3 jp4 _ _ w) rfl ⟨Nat.le_of_ble_eq_true rfl, Nat.le_of_ble_eq_true rfl⟩ ⟨rfl, rfl⟩ (by exact Nat.le_of_ble_eq_true rfl) (fun b e9 => by cases e9; rfl) dX3_begin_29 ⟨Nat.le_of_ble_eq_true rfl, Nat.le_of_ble_eq_true rfl⟩ ⟨Nat.le_of_ble_eq_true rfl, Nat.le_of_ble_eq_true rfl⟩ (fun h H locs S w => ?_)
  refine W.cs (cells' := 0) (slots' := 0) rfl rfl ?_
  refine lv_iconst (v := (0 : Int32)) C.1.1 C.1.2.1 dX3_begin_32 (by decide) ?_
  refine lv_istore (lv' := [(6, .int (0 : Int32)), (0, .ref a0), (1, .int xp1), (2, .int xp2), (3, .int xp3), (4, .long jp4)]) C.1.1 C.1.2.1 dX3_begin_33 hl (by decide) rfl (fun ls hl => ?_)
  exact hB35 ql_FU (0 : Int32) _ _ _ _ S (lv_sub hl [1, 0] rfl) w
def qw_X1_tryAdd (a0 : Nat) (xp1 : Int32) (xp2 : Int32) (h : ql_H) (Q : Int32 → ql_H → Prop) : Prop :=
if xp1 < (1 : Int32) then (Q (-3 : Int32) h) else (if (99 : Int32) < xp1 then (Q (-3 : Int32) h) else (qw_X9_isNote xp2 h (fun x1 h =>
if x1 = 0 then (Q (-3 : Int32) h) else (ql_rv h (some a0) 4 fun b2 => qw_X1_freeClause b2  h (fun r2 h =>
if r2 = none then (Q (-4 : Int32) h) else (ql_rv h (some a0) 4 fun b4 => qw_X1_clauseWithSection b4 xp1 h (fun r4 h =>
if r4 = none then (ql_gI h (some a0) 4 1 fun x6 =>
ql_gI h (some a0) 4 2 fun x7 =>
qw_X9_ofNote xp2 h (fun j8 h =>
ql_rv h r2 6 fun b8 => qw_X3_begin b8 x6 xp1 x7 j8 h (fun h =>
ql_gI h (some a0) 4 1 fun x10 =>
ql_pV h (some a0) 4 1 (.int (x10 + (1 : Int32))) fun h =>
ql_gI h (some a0) 4 3 fun x11 =>
ql_pV h (some a0) 4 3 (.int (x11 + (1 : Int32))) fun h =>
ql_gI h r2 6 1 fun x12 =>
Q x12 h))) else (Q (-5 : Int32) h))))))))
set_option maxHeartbeats 4000000 in
set_option maxRecDepth 100000 in
theorem qm_X1_tryAdd (l : Launch) (hl9 : l.stackTraces = false) (D : ql_D) (h0 : ql_H) (a0 : Nat) (xp1 : Int32) (xp2 : Int32) (Q : Int32 → ql_H → Prop) (X : String → ql_H → Prop) (w : qw_X1_tryAdd a0 xp1 xp2 h0 Q) : ql_M D l yX1_tryAdd cX1_tryAdd 4 (some .int) ({ frames := 6, cells := 0, slots := 0, locals := 114 } : Room) h0 [.ref a0, .int xp1, .int xp2] (ql_rI Q) X 0 0 := by
  refine ql_ofW (by decide) (Nat.le_of_ble_eq_true rfl) ?_
  intro p e s m below meth c ls C hr hlocks hnm htab S hl
  have hl : lv_has ls 4 [(0, .ref a0), (1, .int xp1), (2, .int xp2)] := hl
  unfold qw_X1_tryAdd at w
  refine lv_iload_n C.1.1 C.1.2.1 dX1_tryAdd_0 rfl (lv_at hl 1 rfl) ?_
  refine lv_iconst (v := (1 : Int32)) C.1.1 C.1.2.1 dX1_tryAdd_1 (by decide) ?_
  refine lv_icmp_lt (tgt := 18) C.1.1 C.1.2.1 dX1_tryAdd_2 (by decide) (fun c9 => ?_) (fun c9 => ?_)
  · replace w := ql_if w c9
    refine lv_bipush (v := (-3 : Int32)) C.1.1 C.1.2.1 dX1_tryAdd_18 (by decide) ?_
    exact ql_iret C S hr hlocks dX1_tryAdd_20 ⟨Nat.le_of_ble_eq_true rfl, Nat.le_of_ble_eq_true rfl⟩ w
  · replace w := ql_ifn w c9
    refine lv_iload_n C.1.1 C.1.2.1 dX1_tryAdd_5 rfl (lv_at hl 1 rfl) ?_
    refine lv_bipush (v := (99 : Int32)) C.1.1 C.1.2.1 dX1_tryAdd_6 (by decide) ?_
    refine lv_icmp_gt (tgt := 18) C.1.1 C.1.2.1 dX1_tryAdd_8 (by decide) (fun c9 => ?_) (fun c9 => ?_)
    · replace w := ql_if w c9
      refine lv_bipush (v := (-3 : Int32)) C.1.1 C.1.2.1 dX1_tryAdd_18 (by decide) ?_
      exact ql_iret C S hr hlocks dX1_tryAdd_20 ⟨Nat.le_of_ble_eq_true rfl, Nat.le_of_ble_eq_true rfl⟩ w
    · replace w := ql_ifn w c9
      refine lv_iload_n C.1.1 C.1.2.1 dX1_tryAdd_11 rfl (lv_at hl 2 rfl) ?_
      refine ql_SI (As := [.int xp2]) (rest := []) C S htab hlocks hl qy_X9_isNote qi_X9_isNote gw_783 (qm_X9_isNote l hl9 D _ xp2 _ _ w) rfl ⟨Nat.le_of_ble_eq_true rfl, Nat.le_of_ble_eq_true rfl⟩ ⟨rfl, rfl⟩ (by exact Nat.le_of_ble_eq_true rfl) rfl dX1_tryAdd_12 ⟨Nat.le_of_ble_eq_true rfl, Nat.le_of_ble_eq_true rfl⟩ ⟨Nat.le_of_ble_eq_true rfl, Nat.le_of_ble_eq_true rfl⟩ (fun x1 h H locs S w => ?_)
      refine W.cs (cells' := 0) (slots' := 0) rfl rfl ?_
      refine lv_if_ne (tgt := 21) C.1.1 C.1.2.1 dX1_tryAdd_15 (by decide) (fun c9 => ?_) (fun c9 => ?_)
      · replace w := ql_ifn w c9
        refine ql_aload_n (r := (some a0)) C dX1_tryAdd_21 rfl (lv_at hl 0 rfl) ?_
        refine ql_VR (As := []) (rest := []) C S htab hlocks hl qy_X1_freeClause qi_X1_freeClause qs_X1_freeClause gw_786 (ci := 4) rfl w (fun b w => qm_X1_freeClause l hl9 D _ b _ _ w) rfl ⟨Nat.le_of_ble_eq_true rfl, Nat.le_of_ble_eq_true rfl⟩ ⟨rfl, rfl⟩ (by exact Nat.le_of_ble_eq_true rfl) (fun b e9 => by cases e9; rfl) dX1_tryAdd_22 ⟨Nat.le_of_ble_eq_true rfl, Nat.le_of_ble_eq_true rfl⟩ ⟨Nat.le_of_ble_eq_true rfl, Nat.le_of_ble_eq_true rfl⟩ (fun r2 h H locs S w => ?_)
        refine W.cs (cells' := 0) (slots' := 0) rfl rfl ?_
        refine ql_astore_n (lv' := [(3, va_rf r2), (0, .ref a0), (1, .int xp1), (2, .int xp2)]) C dX1_tryAdd_25 rfl hl (by decide) rfl (fun ls hl => ?_)
        refine ql_aload_n (r := r2) C dX1_tryAdd_26 rfl (lv_at hl 0 rfl) ?_
        refine ql_ifnonnull (tgt := 33) C dX1_tryAdd_27 (by decide) (fun c9 => ?_) (fun c9 => ?_)
        · replace w := ql_ifn w c9
          refine ql_aload_n (r := (some a0)) C dX1_tryAdd_33 rfl (lv_at hl 1 rfl) ?_
          refine lv_iload_n C.1.1 C.1.2.1 dX1_tryAdd_34 rfl (lv_at hl 2 rfl) ?_
          refine ql_VR (As := [.int xp1]) (rest := []) C S htab hlocks hl qy_X1_clauseWithSection qi_X1_clauseWithSection qs_X1_clauseWithSection gw_790 (ci := 4) rfl w (fun b w => qm_X1_clauseWithSection l hl9 D _ b xp1 _ _ w) rfl ⟨Nat.le_of_ble_eq_true rfl, Nat.le_of_ble_eq_true rfl⟩ ⟨rfl, rfl⟩ (by exact Nat.le_of_ble_eq_true rfl) (fun b e9 => by cases e9; rfl) dX1_tryAdd_35 ⟨Nat.le_of_ble_eq_true rfl, Nat.le_of_ble_eq_true rfl⟩ ⟨Nat.le_of_ble_eq_true rfl, Nat.le_of_ble_eq_true rfl⟩ (fun r4 h H locs S w => ?_)
          refine W.cs (cells' := 0) (slots' := 0) rfl rfl ?_
          refine ql_ifnull (tgt := 44) C dX1_tryAdd_38 (by decide) (fun c9 => ?_) (fun c9 => ?_)
          · replace w := ql_if w c9
            refine ql_aload_n (r := r2) C dX1_tryAdd_44 rfl (lv_at hl 0 rfl) ?_
            refine ql_aload_n (r := (some a0)) C dX1_tryAdd_45 rfl (lv_at hl 1 rfl) ?_
            refine ql_getI C S qf_4_1 gw_169 dX1_tryAdd_46 w (fun x6 w => ?_)
            refine lv_iload_n C.1.1 C.1.2.1 dX1_tryAdd_49 rfl (lv_at hl 2 rfl) ?_
            refine ql_aload_n (r := (some a0)) C dX1_tryAdd_50 rfl (lv_at hl 1 rfl) ?_
            refine ql_getI C S qf_4_2 gw_170 dX1_tryAdd_51 w (fun x7 w => ?_)
            refine lv_iload_n C.1.1 C.1.2.1 dX1_tryAdd_54 rfl (lv_at hl 3 rfl) ?_
            refine ql_SJ (As := [.int xp2]) (rest := [.int x7, .int xp1, .int x6, va_rf r2]) C S htab hlocks hl qy_X9_ofNote qi_X9_ofNote gw_794 (qm_X9_ofNote l hl9 D _ xp2 _ _ w) rfl ⟨Nat.le_of_ble_eq_true rfl, Nat.le_of_ble_eq_true rfl⟩ ⟨rfl, rfl⟩ (by generalize r2 = z0; cases z0 <;> exact Nat.le_of_ble_eq_true rfl) rfl dX1_tryAdd_55 ⟨Nat.le_of_ble_eq_true rfl, Nat.le_of_ble_eq_true rfl⟩ ⟨Nat.le_of_ble_eq_true rfl, Nat.le_of_ble_eq_true rfl⟩ (fun j8 h H locs S w => ?_)
            refine W.cs (cells' := 0) (slots' := 0) rfl rfl ?_
            refine ql_VV (As := [.int x6, .int xp1, .int x7, .long j8]) (rest := []) C S htab hlocks hl qy_X3_begin qi_X3_begin qs_X3_begin gw_797 (ci := 6) rfl w (fun b w => qm_X3_begin l hl9 D _ b x6 xp1 x7 j8 _ _ w) rfl ⟨Nat.le_of_ble_eq_true rfl, Nat.le_of_ble_eq_true rfl⟩ ⟨rfl, rfl⟩ (by exact Nat.le_of_ble_eq_true rfl) (fun b e9 => by cases e9; rfl) dX1_tryAdd_58 ⟨Nat.le_of_ble_eq_true rfl, Nat.le_of_ble_eq_true rfl⟩ ⟨Nat.le_of_ble_eq_true rfl, Nat.le_of_ble_eq_true rfl⟩ (fun h H locs S w => ?_)
            refine W.cs (cells' := 0) (slots' := 0) rfl rfl ?_
            refine ql_aload_n (r := (some a0)) C dX1_tryAdd_61 rfl (lv_at hl 1 rfl) ?_
            refine lv_dup C.1.1 C.1.2.1 dX1_tryAdd_62 (ql_catR _) ?_
            refine ql_getI C S qf_4_1 gw_169 dX1_tryAdd_63 w (fun x10 w => ?_)
            refine lv_iconst (v := (1 : Int32)) C.1.1 C.1.2.1 dX1_tryAdd_66 (by decide) ?_
            refine lv_iadd C.1.1 C.1.2.1 dX1_tryAdd_67 ?_
            refine ql_putV C S qf_4_1 gw_169 (tyX1) tyX1_ok nmX1 rfl dX1_tryAdd_68 (v := .int (x10 + (1 : Int32))) rfl rfl w (fun h H locs S w => ?_)
            refine ql_aload_n (r := (some a0)) C dX1_tryAdd_71 rfl (lv_at hl 1 rfl) ?_
            refine lv_dup C.1.1 C.1.2.1 dX1_tryAdd_72 (ql_catR _) ?_
            refine ql_getI C S qf_4_3 gw_172 dX1_tryAdd_73 w (fun x11 w => ?_)
            refine lv_iconst (v := (1 : Int32)) C.1.1 C.1.2.1 dX1_tryAdd_76 (by decide) ?_
            refine lv_iadd C.1.1 C.1.2.1 dX1_tryAdd_77 ?_
            refine ql_putV C S qf_4_3 gw_172 (tyX1) tyX1_ok nmX1 rfl dX1_tryAdd_78 (v := .int (x11 + (1 : Int32))) rfl rfl w (fun h H locs S w => ?_)
            refine ql_aload_n (r := r2) C dX1_tryAdd_81 rfl (lv_at hl 0 rfl) ?_
            refine ql_getIN C S qf_6_1 (qn_RX1_76) dX1_tryAdd_82 w (fun x12 w => ?_)
            exact ql_iret C S hr hlocks dX1_tryAdd_85 ⟨Nat.le_of_ble_eq_true rfl, Nat.le_of_ble_eq_true rfl⟩ w
          · replace w := ql_ifn w c9
            refine lv_bipush (v := (-5 : Int32)) C.1.1 C.1.2.1 dX1_tryAdd_41 (by decide) ?_
            exact ql_iret C S hr hlocks dX1_tryAdd_43 ⟨Nat.le_of_ble_eq_true rfl, Nat.le_of_ble_eq_true rfl⟩ w
        · replace w := ql_if w c9
          refine lv_bipush (v := (-4 : Int32)) C.1.1 C.1.2.1 dX1_tryAdd_30 (by decide) ?_
          exact ql_iret C S hr hlocks dX1_tryAdd_32 ⟨Nat.le_of_ble_eq_true rfl, Nat.le_of_ble_eq_true rfl⟩ w
      · replace w := ql_if w c9
        refine lv_bipush (v := (-3 : Int32)) C.1.1 C.1.2.1 dX1_tryAdd_18 (by decide) ?_
        exact ql_iret C S hr hlocks dX1_tryAdd_20 ⟨Nat.le_of_ble_eq_true rfl, Nat.le_of_ble_eq_true rfl⟩ w
def qw_X1_slotWithId_38 (a0 : Nat) (Q : Int32 → ql_H → Prop) (k2 : Int32 → Int32 → ql_H → Prop) (xl1 : Int32) (xl2 : Int32) (h : ql_H) : Prop :=
k2 xl1 (xl2 + (1 : Int32)) h
def qw_X1_slotWithId_2 (a0 : Nat) (Q : Int32 → ql_H → Prop) : Nat → Int32 → Int32 → ql_H → Prop
  | 0, _, _, _ => False
  | n + 1, xl1, xl2, h =>
    ql_gR h (some a0) 4 0 fun r1 =>
    ql_len h r1 5 fun x2 =>
    if x2 ≤ xl2 then (Q (-1 : Int32) h) else (ql_gR h (some a0) 4 0 fun r3 =>
    ql_lR h r3 5 xl2 fun r4 =>
    ql_gI h r4 6 0 fun x5 =>
    if x5 = 0 then (qw_X1_slotWithId_38 a0 Q (qw_X1_slotWithId_2 a0 Q n) xl1 xl2 h) else (ql_gR h (some a0) 4 0 fun r6 =>
    ql_lR h r6 5 xl2 fun r7 =>
    ql_gI h r7 6 1 fun x8 =>
    if x8 = xl1 then (Q xl2 h) else (qw_X1_slotWithId_38 a0 Q (qw_X1_slotWithId_2 a0 Q n) xl1 xl2 h)))
def qw_X1_slotWithId (a0 : Nat) (xp1 : Int32) (h : ql_H) (Q : Int32 → ql_H → Prop) : Prop :=
qw_X1_slotWithId_2 a0 Q ql_FU xp1 (0 : Int32) h
set_option maxHeartbeats 4000000 in
set_option maxRecDepth 100000 in
theorem qm_X1_slotWithId (l : Launch) (hl9 : l.stackTraces = false) (D : ql_D) (h0 : ql_H) (a0 : Nat) (xp1 : Int32) (Q : Int32 → ql_H → Prop) (X : String → ql_H → Prop) (w : qw_X1_slotWithId a0 xp1 h0 Q) : ql_M D l yX1_slotWithId cX1_slotWithId 3 (some .int) ({ frames := 2, cells := 0, slots := 0, locals := 48 } : Room) h0 [.ref a0, .int xp1] (ql_rI Q) X 0 0 := by
  refine ql_ofW (by decide) (Nat.le_of_ble_eq_true rfl) ?_
  intro p e s m below meth c ls C hr hlocks hnm htab S hl
  have hl : lv_has ls 3 [(0, .ref a0), (1, .int xp1)] := hl
  have hB38 : ∀ (k2 : Int32 → Int32 → ql_H → Prop) (hk2 : ∀ (xl1 : Int32) (xl2 : Int32) (h : ql_H) (H : Heap) (locs : List Loc) (ls : Array Slot), ql_S D h0 s H locs h → lv_has ls 3 [(0, .ref a0), (1, .int xl1), (2, .int xl2)] → k2 xl1 xl2 h → W p l e ({ frames := 2, cells := 0, slots := 0, locals := 48 } : Room) s m ([.ref a0, .int xp1] : List Value).toArray below meth c H locs 0 0 (vx_MQ below (ql_Q D h0 (ql_rI Q)) (ql_X D h0 X) ([.ref a0, .int xp1] : List Value).toArray s 0 0 (ql_A h0)) (F0 m 2 ls [])) , ∀ (xl1 : Int32) (xl2 : Int32) (h : ql_H) (H : Heap) (locs : List Loc) (ls : Array Slot), ql_S D h0 s H locs h → lv_has ls 3 [(0, .ref a0), (1, .int xl1), (2, .int xl2)] → qw_X1_slotWithId_38 a0 Q k2 xl1 xl2 h → W p l e ({ frames := 2, cells := 0, slots := 0, locals := 48 } : Room) s m ([.ref a0, .int xp1] : List Value).toArray below meth c H locs 0 0 (vx_MQ below (ql_Q D h0 (ql_rI Q)) (ql_X D h0 X) ([.ref a0, .int xp1] : List Value).toArray s 0 0 (ql_A h0)) (F0 m 38 ls []) := by
    intro k2 hk2 xl1 xl2 h H locs ls S hl w
    unfold qw_X1_slotWithId_38 at w
    refine lv_iinc (v := (xl2 + (1 : Int32))) (lv' := [(2, .int (xl2 + (1 : Int32))), (0, .ref a0), (1, .int xl1)]) C.1.1 C.1.2.1 dX1_slotWithId_38 hl (k := 2) rfl rfl (by decide) rfl (fun ls hl => ?_)
    refine lv_goto (tgt := 2) C.1.1 C.1.2.1 dX1_slotWithId_41 (by decide) ?_
    exact hk2 xl1 (xl2 + (1 : Int32)) _ _ _ _ S (lv_sub hl [1, 2, 0] rfl) w
  have hB2 : ∀ n : Nat, ∀ (xl1 : Int32) (xl2 : Int32) (h : ql_H) (H : Heap) (locs : List Loc) (ls : Array Slot), ql_S D h0 s H locs h → lv_has ls 3 [(0, .ref a0), (1, .int xl1), (2, .int xl2)] → qw_X1_slotWithId_2 a0 Q n xl1 xl2 h → W p l e ({ frames := 2, cells := 0, slots := 0, locals := 48 } : Room) s m ([.ref a0, .int xp1] : List Value).toArray below meth c H locs 0 0 (vx_MQ below (ql_Q D h0 (ql_rI Q)) (ql_X D h0 X) ([.ref a0, .int xp1] : List Value).toArray s 0 0 (ql_A h0)) (F0 m 2 ls []) := by
    intro n
    induction n with
    | zero => intro xl1 xl2 h H locs ls S hl w; rw [qw_X1_slotWithId_2] at w; exact w.elim
    | succ n ih =>
      intro xl1 xl2 h H locs ls S hl w
      rw [qw_X1_slotWithId_2] at w
      refine lv_iload_n C.1.1 C.1.2.1 dX1_slotWithId_2 rfl (lv_at hl 2 rfl) ?_
      refine ql_aload_n (r := (some a0)) C dX1_slotWithId_3 rfl (lv_at hl 0 rfl) ?_
      refine ql_getR C S qf_4_0 gw_166 dX1_slotWithId_4 w (fun r1 w => ?_)
      refine ql_alen (kd := 5) C S rfl dX1_slotWithId_7 w (fun x2 w => ?_)
      refine lv_icmp_ge (tgt := 44) C.1.1 C.1.2.1 dX1_slotWithId_8 (by decide) (fun c9 => ?_) (fun c9 => ?_)
      · replace w := ql_if w c9
        refine lv_iconst (v := (-1 : Int32)) C.1.1 C.1.2.1 dX1_slotWithId_44 (by decide) ?_
        exact ql_iret C S hr hlocks dX1_slotWithId_45 ⟨Nat.le_of_ble_eq_true rfl, Nat.le_of_ble_eq_true rfl⟩ w
      · replace w := ql_ifn w c9
        refine ql_aload_n (r := (some a0)) C dX1_slotWithId_11 rfl (lv_at hl 0 rfl) ?_
        refine ql_getR C S qf_4_0 gw_166 dX1_slotWithId_12 w (fun r3 w => ?_)
        refine lv_iload_n C.1.1 C.1.2.1 dX1_slotWithId_15 rfl (lv_at hl 2 rfl) ?_
        refine ql_aald (kd := 5) C S rfl rfl dX1_slotWithId_16 w (fun r4 w => ?_)
        refine ql_getIN C S qf_6_0 (qn_RX1_144) dX1_slotWithId_17 w (fun x5 w => ?_)
        refine lv_if_eq (tgt := 38) C.1.1 C.1.2.1 dX1_slotWithId_20 (by decide) (fun c9 => ?_) (fun c9 => ?_)
        · replace w := ql_if w c9
          exact hB38 (qw_X1_slotWithId_2 a0 Q n) ih xl1 xl2 _ _ _ _ S (lv_sub hl [0, 1, 2] rfl) w
        · replace w := ql_ifn w c9
          refine ql_aload_n (r := (some a0)) C dX1_slotWithId_23 rfl (lv_at hl 0 rfl) ?_
          refine ql_getR C S qf_4_0 gw_166 dX1_slotWithId_24 w (fun r6 w => ?_)
          refine lv_iload_n C.1.1 C.1.2.1 dX1_slotWithId_27 rfl (lv_at hl 2 rfl) ?_
          refine ql_aald (kd := 5) C S rfl rfl dX1_slotWithId_28 w (fun r7 w => ?_)
          refine ql_getIN C S qf_6_1 (qn_RX1_76) dX1_slotWithId_29 w (fun x8 w => ?_)
          refine lv_iload_n C.1.1 C.1.2.1 dX1_slotWithId_32 rfl (lv_at hl 1 rfl) ?_
          refine lv_icmp_ne (tgt := 38) C.1.1 C.1.2.1 dX1_slotWithId_33 (by decide) (fun c9 => ?_) (fun c9 => ?_)
          · replace w := ql_ifn w c9
            exact hB38 (qw_X1_slotWithId_2 a0 Q n) ih xl1 xl2 _ _ _ _ S (lv_sub hl [0, 1, 2] rfl) w
          · replace w := ql_if w c9
            refine lv_iload_n C.1.1 C.1.2.1 dX1_slotWithId_36 rfl (lv_at hl 2 rfl) ?_
            exact ql_iret C S hr hlocks dX1_slotWithId_37 ⟨Nat.le_of_ble_eq_true rfl, Nat.le_of_ble_eq_true rfl⟩ w
  unfold qw_X1_slotWithId at w
  refine lv_iconst (v := (0 : Int32)) C.1.1 C.1.2.1 dX1_slotWithId_0 (by decide) ?_
  refine lv_istore_n (lv' := [(2, .int (0 : Int32)), (0, .ref a0), (1, .int xp1)]) C.1.1 C.1.2.1 dX1_slotWithId_1 rfl hl (by decide) rfl (fun ls hl => ?_)
  exact hB2 ql_FU xp1 (0 : Int32) _ _ _ _ S (lv_sub hl [1, 2, 0] rfl) w
def qw_X1_clauseWithId (a0 : Nat) (xp1 : Int32) (h : ql_H) (Q : Option Nat → ql_H → Prop) : Prop :=
ql_rv h (some a0) 4 fun b1 => qw_X1_slotWithId b1 xp1 h (fun x1 h =>
if x1 = (-1 : Int32) then (Q none h) else (ql_gR h (some a0) 4 0 fun r3 =>
ql_lR h r3 5 x1 fun r4 =>
Q r4 h))
set_option maxHeartbeats 4000000 in
set_option maxRecDepth 100000 in
theorem qm_X1_clauseWithId (l : Launch) (hl9 : l.stackTraces = false) (D : ql_D) (h0 : ql_H) (a0 : Nat) (xp1 : Int32) (Q : Option Nat → ql_H → Prop) (X : String → ql_H → Prop) (w : qw_X1_clauseWithId a0 xp1 h0 Q) : ql_M D l yX1_clauseWithId cX1_clauseWithId 3 (some (.object "ClauseLedger$Clause")) ({ frames := 4, cells := 0, slots := 0, locals := 78 } : Room) h0 [.ref a0, .int xp1] (ql_rR Q) X 0 0 := by
  refine ql_ofW (by decide) (Nat.le_of_ble_eq_true rfl) ?_
  intro p e s m below meth c ls C hr hlocks hnm htab S hl
  have hl : lv_has ls 3 [(0, .ref a0), (1, .int xp1)] := hl
  unfold qw_X1_clauseWithId at w
  refine ql_aload_n (r := (some a0)) C dX1_clauseWithId_0 rfl (lv_at hl 0 rfl) ?_
  refine lv_iload_n C.1.1 C.1.2.1 dX1_clauseWithId_1 rfl (lv_at hl 1 rfl) ?_
  refine ql_VI (As := [.int xp1]) (rest := []) C S htab hlocks hl qy_X1_slotWithId qi_X1_slotWithId qs_X1_slotWithId gw_434 (ci := 4) rfl w (fun b w => qm_X1_slotWithId l hl9 D _ b xp1 _ _ w) rfl ⟨Nat.le_of_ble_eq_true rfl, Nat.le_of_ble_eq_true rfl⟩ ⟨rfl, rfl⟩ (by exact Nat.le_of_ble_eq_true rfl) (fun b e9 => by cases e9; rfl) dX1_clauseWithId_2 ⟨Nat.le_of_ble_eq_true rfl, Nat.le_of_ble_eq_true rfl⟩ ⟨Nat.le_of_ble_eq_true rfl, Nat.le_of_ble_eq_true rfl⟩ (fun x1 h H locs S w => ?_)
  refine W.cs (cells' := 0) (slots' := 0) rfl rfl ?_
  refine lv_istore_n (lv' := [(2, .int x1), (0, .ref a0), (1, .int xp1)]) C.1.1 C.1.2.1 dX1_clauseWithId_5 rfl hl (by decide) rfl (fun ls hl => ?_)
  refine lv_iload_n C.1.1 C.1.2.1 dX1_clauseWithId_6 rfl (lv_at hl 0 rfl) ?_
  refine lv_iconst (v := (-1 : Int32)) C.1.1 C.1.2.1 dX1_clauseWithId_7 (by decide) ?_
  refine lv_icmp_ne (tgt := 15) C.1.1 C.1.2.1 dX1_clauseWithId_8 (by decide) (fun c9 => ?_) (fun c9 => ?_)
  · replace w := ql_ifn w c9
    refine ql_aload_n (r := (some a0)) C dX1_clauseWithId_15 rfl (lv_at hl 1 rfl) ?_
    refine ql_getR C S qf_4_0 gw_166 dX1_clauseWithId_16 w (fun r3 w => ?_)
    refine lv_iload_n C.1.1 C.1.2.1 dX1_clauseWithId_19 rfl (lv_at hl 0 rfl) ?_
    refine ql_aald (kd := 5) C S rfl rfl dX1_clauseWithId_20 w (fun r4 w => ?_)
    exact ql_aret C S hr hlocks dX1_clauseWithId_21 ⟨Nat.le_of_ble_eq_true rfl, Nat.le_of_ble_eq_true rfl⟩ w
  · replace w := ql_if w c9
    refine ql_null C dX1_clauseWithId_11 ?_
    refine lv_goto (tgt := 21) C.1.1 C.1.2.1 dX1_clauseWithId_12 (by decide) ?_
    exact ql_aret C S hr hlocks dX1_clauseWithId_21 ⟨Nat.le_of_ble_eq_true rfl, Nat.le_of_ble_eq_true rfl⟩ w
def qw_X3_countVersions_2 (a0 : Nat) (Q : Int32 → ql_H → Prop) : Nat → Int32 → ql_H → Prop
  | 0, _, _ => False
  | n + 1, xl1, h =>
    ql_gR h (some a0) 6 6 fun r1 =>
    ql_len h r1 1 fun x2 =>
    if x2 ≤ xl1 then (Q xl1 h) else (ql_gR h (some a0) 6 6 fun r3 =>
    ql_lJ h r3 xl1 fun j4 =>
    if (lg_cmp j4 (0 : Int64)) = 0 then (Q xl1 h) else (qw_X3_countVersions_2 a0 Q n (xl1 + (1 : Int32)) h))
def qw_X3_countVersions (a0 : Nat) (h : ql_H) (Q : Int32 → ql_H → Prop) : Prop :=
qw_X3_countVersions_2 a0 Q ql_FU (0 : Int32) h
set_option maxHeartbeats 4000000 in
set_option maxRecDepth 100000 in
theorem qm_X3_countVersions (l : Launch) (hl9 : l.stackTraces = false) (D : ql_D) (h0 : ql_H) (a0 : Nat) (Q : Int32 → ql_H → Prop) (X : String → ql_H → Prop) (w : qw_X3_countVersions a0 h0 Q) : ql_M D l yX3_countVersions cX3_countVersions 2 (some .int) ({ frames := 2, cells := 0, slots := 0, locals := 48 } : Room) h0 [.ref a0] (ql_rI Q) X 0 0 := by
  refine ql_ofW (by decide) (Nat.le_of_ble_eq_true rfl) ?_
  intro p e s m below meth c ls C hr hlocks hnm htab S hl
  have hl : lv_has ls 2 [(0, .ref a0)] := hl
  have hB2 : ∀ n : Nat, ∀ (xl1 : Int32) (h : ql_H) (H : Heap) (locs : List Loc) (ls : Array Slot), ql_S D h0 s H locs h → lv_has ls 2 [(0, .ref a0), (1, .int xl1)] → qw_X3_countVersions_2 a0 Q n xl1 h → W p l e ({ frames := 2, cells := 0, slots := 0, locals := 48 } : Room) s m ([.ref a0] : List Value).toArray below meth c H locs 0 0 (vx_MQ below (ql_Q D h0 (ql_rI Q)) (ql_X D h0 X) ([.ref a0] : List Value).toArray s 0 0 (ql_A h0)) (F0 m 2 ls []) := by
    intro n
    induction n with
    | zero => intro xl1 h H locs ls S hl w; rw [qw_X3_countVersions_2] at w; exact w.elim
    | succ n ih =>
      intro xl1 h H locs ls S hl w
      rw [qw_X3_countVersions_2] at w
      refine lv_iload_n C.1.1 C.1.2.1 dX3_countVersions_2 rfl (lv_at hl 1 rfl) ?_
      refine ql_aload_n (r := (some a0)) C dX3_countVersions_3 rfl (lv_at hl 0 rfl) ?_
      refine ql_getR C S qf_6_6 gw_145 dX3_countVersions_4 w (fun r1 w => ?_)
      refine ql_alen (kd := 1) C S rfl dX3_countVersions_7 w (fun x2 w => ?_)
      refine lv_icmp_ge (tgt := 28) C.1.1 C.1.2.1 dX3_countVersions_8 (by decide) (fun c9 => ?_) (fun c9 => ?_)
      · replace w := ql_if w c9
        refine lv_iload_n C.1.1 C.1.2.1 dX3_countVersions_28 rfl (lv_at hl 1 rfl) ?_
        exact ql_iret C S hr hlocks dX3_countVersions_29 ⟨Nat.le_of_ble_eq_true rfl, Nat.le_of_ble_eq_true rfl⟩ w
      · replace w := ql_ifn w c9
        refine ql_aload_n (r := (some a0)) C dX3_countVersions_11 rfl (lv_at hl 0 rfl) ?_
        refine ql_getR C S qf_6_6 gw_145 dX3_countVersions_12 w (fun r3 w => ?_)
        refine lv_iload_n C.1.1 C.1.2.1 dX3_countVersions_15 rfl (lv_at hl 1 rfl) ?_
        refine ql_lald C S dX3_countVersions_16 w (fun j4 w => ?_)
        refine lv_lconst (v := (0 : Int64)) C.1.1 C.1.2.1 dX3_countVersions_17 (by decide) ?_
        refine W.lcmp C.1.1 C.1.2.1 dX3_countVersions_18 ?_
        refine lv_if_eq (tgt := 28) C.1.1 C.1.2.1 dX3_countVersions_19 (by decide) (fun c9 => ?_) (fun c9 => ?_)
        · replace w := ql_if w c9
          refine lv_iload_n C.1.1 C.1.2.1 dX3_countVersions_28 rfl (lv_at hl 1 rfl) ?_
          exact ql_iret C S hr hlocks dX3_countVersions_29 ⟨Nat.le_of_ble_eq_true rfl, Nat.le_of_ble_eq_true rfl⟩ w
        · replace w := ql_ifn w c9
          refine lv_iinc (v := (xl1 + (1 : Int32))) (lv' := [(1, .int (xl1 + (1 : Int32))), (0, .ref a0)]) C.1.1 C.1.2.1 dX3_countVersions_22 hl (k := 1) rfl rfl (by decide) rfl (fun ls hl => ?_)
          refine lv_goto (tgt := 2) C.1.1 C.1.2.1 dX3_countVersions_25 (by decide) ?_
          exact ih (xl1 + (1 : Int32)) _ _ _ _ S (lv_sub hl [1, 0] rfl) w
  unfold qw_X3_countVersions at w
  refine lv_iconst (v := (0 : Int32)) C.1.1 C.1.2.1 dX3_countVersions_0 (by decide) ?_
  refine lv_istore_n (lv' := [(1, .int (0 : Int32)), (0, .ref a0)]) C.1.1 C.1.2.1 dX3_countVersions_1 rfl hl (by decide) rfl (fun ls hl => ?_)
  exact hB2 ql_FU (0 : Int32) _ _ _ _ S (lv_sub hl [1, 0] rfl) w
def qw_X3_latestText (a0 : Nat) (h : ql_H) (Q : Int64 → ql_H → Prop) : Prop :=
ql_rv h (some a0) 6 fun b1 => qw_X3_countVersions b1  h (fun x1 h =>
if (1 : Int32) ≤ x1 then (ql_gR h (some a0) 6 6 fun r3 =>
ql_lJ h r3 (x1 - (1 : Int32)) fun j4 =>
Q j4 h) else (Q (0 : Int64) h))
set_option maxHeartbeats 4000000 in
set_option maxRecDepth 100000 in
theorem qm_X3_latestText (l : Launch) (hl9 : l.stackTraces = false) (D : ql_D) (h0 : ql_H) (a0 : Nat) (Q : Int64 → ql_H → Prop) (X : String → ql_H → Prop) (w : qw_X3_latestText a0 h0 Q) : ql_M D l yX3_latestText cX3_latestText 2 (some .long) ({ frames := 4, cells := 0, slots := 0, locals := 77 } : Room) h0 [.ref a0] (ql_rJ Q) X 0 0 := by
  refine ql_ofW (by decide) (Nat.le_of_ble_eq_true rfl) ?_
  intro p e s m below meth c ls C hr hlocks hnm htab S hl
  have hl : lv_has ls 2 [(0, .ref a0)] := hl
  unfold qw_X3_latestText at w
  refine ql_aload_n (r := (some a0)) C dX3_latestText_0 rfl (lv_at hl 0 rfl) ?_
  refine ql_VI (As := []) (rest := []) C S htab hlocks hl qy_X3_countVersions qi_X3_countVersions qs_X3_countVersions gw_467 (ci := 6) rfl w (fun b w => qm_X3_countVersions l hl9 D _ b _ _ w) rfl ⟨Nat.le_of_ble_eq_true rfl, Nat.le_of_ble_eq_true rfl⟩ ⟨rfl, rfl⟩ (by exact Nat.le_of_ble_eq_true rfl) (fun b e9 => by cases e9; rfl) dX3_latestText_1 ⟨Nat.le_of_ble_eq_true rfl, Nat.le_of_ble_eq_true rfl⟩ ⟨Nat.le_of_ble_eq_true rfl, Nat.le_of_ble_eq_true rfl⟩ (fun x1 h H locs S w => ?_)
  refine W.cs (cells' := 0) (slots' := 0) rfl rfl ?_
  refine lv_istore_n (lv' := [(1, .int x1), (0, .ref a0)]) C.1.1 C.1.2.1 dX3_latestText_4 rfl hl (by decide) rfl (fun ls hl => ?_)
  refine lv_iload_n C.1.1 C.1.2.1 dX3_latestText_5 rfl (lv_at hl 0 rfl) ?_
  refine lv_iconst (v := (1 : Int32)) C.1.1 C.1.2.1 dX3_latestText_6 (by decide) ?_
  refine lv_icmp_ge (tgt := 14) C.1.1 C.1.2.1 dX3_latestText_7 (by decide) (fun c9 => ?_) (fun c9 => ?_)
  · replace w := ql_if w c9
    refine ql_aload_n (r := (some a0)) C dX3_latestText_14 rfl (lv_at hl 1 rfl) ?_
    refine ql_getR C S qf_6_6 gw_145 dX3_latestText_15 w (fun r3 w => ?_)
    refine lv_iload_n C.1.1 C.1.2.1 dX3_latestText_18 rfl (lv_at hl 0 rfl) ?_
    refine lv_iconst (v := (1 : Int32)) C.1.1 C.1.2.1 dX3_latestText_19 (by decide) ?_
    refine lv_isub C.1.1 C.1.2.1 dX3_latestText_20 ?_
    refine ql_lald C S dX3_latestText_21 w (fun j4 w => ?_)
    exact ql_lret C S hr hlocks dX3_latestText_22 ⟨Nat.le_of_ble_eq_true rfl, Nat.le_of_ble_eq_true rfl⟩ w
  · replace w := ql_ifn w c9
    refine lv_lconst (v := (0 : Int64)) C.1.1 C.1.2.1 dX3_latestText_10 (by decide) ?_
    refine lv_goto (tgt := 22) C.1.1 C.1.2.1 dX3_latestText_11 (by decide) ?_
    exact ql_lret C S hr hlocks dX3_latestText_22 ⟨Nat.le_of_ble_eq_true rfl, Nat.le_of_ble_eq_true rfl⟩ w
def qw_X9_codeAt (jp0 : Int64) (xp2 : Int32) (h : ql_H) (Q : Int32 → ql_H → Prop) : Prop :=
Q ((jp0.toUInt64 >>> (((3 : Int32) * xp2).toInt64.toUInt64 &&& Int64.toUInt64 63)).toInt64.toInt32 &&& (7 : Int32)) h
set_option maxHeartbeats 4000000 in
set_option maxRecDepth 100000 in
theorem qm_X9_codeAt (l : Launch) (hl9 : l.stackTraces = false) (D : ql_D) (h0 : ql_H) (jp0 : Int64) (xp2 : Int32) (Q : Int32 → ql_H → Prop) (X : String → ql_H → Prop) (w : qw_X9_codeAt jp0 xp2 h0 Q) : ql_M D l yX9_codeAt cX9_codeAt 3 (some .int) ({ frames := 2, cells := 0, slots := 0, locals := 48 } : Room) h0 [.long jp0, .int xp2] (ql_rI Q) X 0 0 := by
  refine ql_ofW (by decide) (Nat.le_of_ble_eq_true rfl) ?_
  intro p e s m below meth c ls C hr hlocks hnm htab S hl
  have hl : lv_has ls 3 [(0, .long jp0), (2, .int xp2)] := hl
  unfold qw_X9_codeAt at w
  refine lv_lload_n C.1.1 C.1.2.1 dX9_codeAt_0 rfl (lv_at hl 0 rfl) ?_
  refine lv_iconst (v := (3 : Int32)) C.1.1 C.1.2.1 dX9_codeAt_1 (by decide) ?_
  refine lv_iload_n C.1.1 C.1.2.1 dX9_codeAt_2 rfl (lv_at hl 1 rfl) ?_
  refine lv_imul C.1.1 C.1.2.1 dX9_codeAt_3 ?_
  refine lv_lushr C.1.1 C.1.2.1 dX9_codeAt_4 rfl ?_
  refine lv_l2i C.1.1 C.1.2.1 dX9_codeAt_5 rfl ?_
  refine lv_bipush (v := (7 : Int32)) C.1.1 C.1.2.1 dX9_codeAt_6 (by decide) ?_
  refine lv_iand C.1.1 C.1.2.1 dX9_codeAt_8 ?_
  exact ql_iret C S hr hlocks dX9_codeAt_9 ⟨Nat.le_of_ble_eq_true rfl, Nat.le_of_ble_eq_true rfl⟩ w
def qw_X9_lengthOf_2 (Q : Int32 → ql_H → Prop) : Nat → Int64 → Int32 → ql_H → Prop
  | 0, _, _, _ => False
  | n + 1, jl0, xl2, h =>
    if (12 : Int32) ≤ xl2 then (Q xl2 h) else (qw_X9_codeAt jl0 xl2 h (fun x1 h =>
    if x1 = 0 then (Q xl2 h) else (qw_X9_lengthOf_2 Q n jl0 (xl2 + (1 : Int32)) h)))
def qw_X9_lengthOf (jp0 : Int64) (h : ql_H) (Q : Int32 → ql_H → Prop) : Prop :=
qw_X9_lengthOf_2 Q ql_FU jp0 (0 : Int32) h
set_option maxHeartbeats 4000000 in
set_option maxRecDepth 100000 in
theorem qm_X9_lengthOf (l : Launch) (hl9 : l.stackTraces = false) (D : ql_D) (h0 : ql_H) (jp0 : Int64) (Q : Int32 → ql_H → Prop) (X : String → ql_H → Prop) (w : qw_X9_lengthOf jp0 h0 Q) : ql_M D l yX9_lengthOf cX9_lengthOf 3 (some .int) ({ frames := 4, cells := 0, slots := 0, locals := 78 } : Room) h0 [.long jp0] (ql_rI Q) X 0 0 := by
  refine ql_ofW (by decide) (Nat.le_of_ble_eq_true rfl) ?_
  intro p e s m below meth c ls C hr hlocks hnm htab S hl
  have hl : lv_has ls 3 [(0, .long jp0)] := hl
  have hB2 : ∀ n : Nat, ∀ (jl0 : Int64) (xl2 : Int32) (h : ql_H) (H : Heap) (locs : List Loc) (ls : Array Slot), ql_S D h0 s H locs h → lv_has ls 3 [(0, .long jl0), (2, .int xl2)] → qw_X9_lengthOf_2 Q n jl0 xl2 h → W p l e ({ frames := 4, cells := 0, slots := 0, locals := 78 } : Room) s m ([.long jp0] : List Value).toArray below meth c H locs 0 0 (vx_MQ below (ql_Q D h0 (ql_rI Q)) (ql_X D h0 X) ([.long jp0] : List Value).toArray s 0 0 (ql_A h0)) (F0 m 2 ls []) := by
    intro n
    induction n with
    | zero => intro jl0 xl2 h H locs ls S hl w; rw [qw_X9_lengthOf_2] at w; exact w.elim
    | succ n ih =>
      intro jl0 xl2 h H locs ls S hl w
      rw [qw_X9_lengthOf_2] at w
      refine lv_iload_n C.1.1 C.1.2.1 dX9_lengthOf_2 rfl (lv_at hl 1 rfl) ?_
      refine lv_bipush (v := (12 : Int32)) C.1.1 C.1.2.1 dX9_lengthOf_3 (by decide) ?_
      refine lv_icmp_ge (tgt := 22) C.1.1 C.1.2.1 dX9_lengthOf_5 (by decide) (fun c9 => ?_) (fun c9 => ?_)
      · replace w := ql_if w c9
        refine lv_iload_n C.1.1 C.1.2.1 dX9_lengthOf_22 rfl (lv_at hl 1 rfl) ?_
        exact ql_iret C S hr hlocks dX9_lengthOf_23 ⟨Nat.le_of_ble_eq_true rfl, Nat.le_of_ble_eq_true rfl⟩ w
      · replace w := ql_ifn w c9
        refine lv_lload_n C.1.1 C.1.2.1 dX9_lengthOf_8 rfl (lv_at hl 0 rfl) ?_
        refine lv_iload_n C.1.1 C.1.2.1 dX9_lengthOf_9 rfl (lv_at hl 1 rfl) ?_
        refine ql_SI (As := [.long jl0, .int xl2]) (rest := []) C S htab hlocks hl qy_X9_codeAt qi_X9_codeAt gw_721 (qm_X9_codeAt l hl9 D _ jl0 xl2 _ _ w) rfl ⟨Nat.le_of_ble_eq_true rfl, Nat.le_of_ble_eq_true rfl⟩ ⟨rfl, rfl⟩ (by exact Nat.le_of_ble_eq_true rfl) rfl dX9_lengthOf_10 ⟨Nat.le_of_ble_eq_true rfl, Nat.le_of_ble_eq_true rfl⟩ ⟨Nat.le_of_ble_eq_true rfl, Nat.le_of_ble_eq_true rfl⟩ (fun x1 h H locs S w => ?_)
        refine W.cs (cells' := 0) (slots' := 0) rfl rfl ?_
        refine lv_if_eq (tgt := 22) C.1.1 C.1.2.1 dX9_lengthOf_13 (by decide) (fun c9 => ?_) (fun c9 => ?_)
        · replace w := ql_if w c9
          refine lv_iload_n C.1.1 C.1.2.1 dX9_lengthOf_22 rfl (lv_at hl 1 rfl) ?_
          exact ql_iret C S hr hlocks dX9_lengthOf_23 ⟨Nat.le_of_ble_eq_true rfl, Nat.le_of_ble_eq_true rfl⟩ w
        · replace w := ql_ifn w c9
          refine lv_iinc (v := (xl2 + (1 : Int32))) (lv' := [(2, .int (xl2 + (1 : Int32))), (0, .long jl0)]) C.1.1 C.1.2.1 dX9_lengthOf_16 hl (k := 1) rfl rfl (by decide) rfl (fun ls hl => ?_)
          refine lv_goto (tgt := 2) C.1.1 C.1.2.1 dX9_lengthOf_19 (by decide) ?_
          exact ih jl0 (xl2 + (1 : Int32)) _ _ _ _ S (lv_sub hl [1, 0] rfl) w
  unfold qw_X9_lengthOf at w
  refine lv_iconst (v := (0 : Int32)) C.1.1 C.1.2.1 dX9_lengthOf_0 (by decide) ?_
  refine lv_istore_n (lv' := [(2, .int (0 : Int32)), (0, .long jp0)]) C.1.1 C.1.2.1 dX9_lengthOf_1 rfl hl (by decide) rfl (fun ls hl => ?_)
  exact hB2 ql_FU jp0 (0 : Int32) _ _ _ _ S (lv_sub hl [1, 0] rfl) w
def qw_X3_hasSunset (a0 : Nat) (h : ql_H) (Q : Int32 → ql_H → Prop) : Prop :=
ql_gI h (some a0) 6 4 fun x1 =>
if x1 = (-1 : Int32) then (ql_nz .boolean (0 : Int32) ∧ Q (0 : Int32) h) else (ql_nz .boolean (1 : Int32) ∧ Q (1 : Int32) h)
set_option maxHeartbeats 4000000 in
set_option maxRecDepth 100000 in
theorem qm_X3_hasSunset (l : Launch) (hl9 : l.stackTraces = false) (D : ql_D) (h0 : ql_H) (a0 : Nat) (Q : Int32 → ql_H → Prop) (X : String → ql_H → Prop) (w : qw_X3_hasSunset a0 h0 Q) : ql_M D l yX3_hasSunset cX3_hasSunset 1 (some .boolean) ({ frames := 2, cells := 0, slots := 0, locals := 48 } : Room) h0 [.ref a0] (ql_rI Q) X 0 0 := by
  refine ql_ofW (by decide) (Nat.le_of_ble_eq_true rfl) ?_
  intro p e s m below meth c ls C hr hlocks hnm htab S hl
  have hl : lv_has ls 1 [(0, .ref a0)] := hl
  unfold qw_X3_hasSunset at w
  refine ql_aload_n (r := (some a0)) C dX3_hasSunset_0 rfl (lv_at hl 0 rfl) ?_
  refine ql_getI C S qf_6_4 gw_141 dX3_hasSunset_1 w (fun x1 w => ?_)
  refine lv_iconst (v := (-1 : Int32)) C.1.1 C.1.2.1 dX3_hasSunset_4 (by decide) ?_
  refine lv_icmp_eq (tgt := 12) C.1.1 C.1.2.1 dX3_hasSunset_5 (by decide) (fun c9 => ?_) (fun c9 => ?_)
  · replace w := ql_if w c9
    refine lv_iconst (v := (0 : Int32)) C.1.1 C.1.2.1 dX3_hasSunset_12 (by decide) ?_
    exact ql_zret C S hr hlocks dX3_hasSunset_13 ⟨Nat.le_of_ble_eq_true rfl, Nat.le_of_ble_eq_true rfl⟩ w
  · replace w := ql_ifn w c9
    refine lv_iconst (v := (1 : Int32)) C.1.1 C.1.2.1 dX3_hasSunset_8 (by decide) ?_
    refine lv_goto (tgt := 13) C.1.1 C.1.2.1 dX3_hasSunset_9 (by decide) ?_
    exact ql_zret C S hr hlocks dX3_hasSunset_13 ⟨Nat.le_of_ble_eq_true rfl, Nat.le_of_ble_eq_true rfl⟩ w
def qw_X3_holdsOn_23 (a0 : Nat) (Q : Int32 → ql_H → Prop) (h : ql_H) : Prop :=
ql_nz .boolean (1 : Int32) ∧ Q (1 : Int32) h
def qw_X3_holdsOn (a0 : Nat) (xp1 : Int32) (h : ql_H) (Q : Int32 → ql_H → Prop) : Prop :=
ql_gI h (some a0) 6 3 fun x1 =>
if xp1 < x1 then (ql_nz .boolean (0 : Int32) ∧ Q (0 : Int32) h) else (ql_rv h (some a0) 6 fun b2 => qw_X3_hasSunset b2  h (fun x2 h =>
if x2 = 0 then (qw_X3_holdsOn_23 a0 Q  h) else (ql_gI h (some a0) 6 4 fun x4 =>
if x4 < xp1 then (ql_nz .boolean (0 : Int32) ∧ Q (0 : Int32) h) else (qw_X3_holdsOn_23 a0 Q  h))))
set_option maxHeartbeats 4000000 in
set_option maxRecDepth 100000 in
theorem qm_X3_holdsOn (l : Launch) (hl9 : l.stackTraces = false) (D : ql_D) (h0 : ql_H) (a0 : Nat) (xp1 : Int32) (Q : Int32 → ql_H → Prop) (X : String → ql_H → Prop) (w : qw_X3_holdsOn a0 xp1 h0 Q) : ql_M D l yX3_holdsOn cX3_holdsOn 2 (some .boolean) ({ frames := 4, cells := 0, slots := 0, locals := 76 } : Room) h0 [.ref a0, .int xp1] (ql_rI Q) X 0 0 := by
  refine ql_ofW (by decide) (Nat.le_of_ble_eq_true rfl) ?_
  intro p e s m below meth c ls C hr hlocks hnm htab S hl
  have hl : lv_has ls 2 [(0, .ref a0), (1, .int xp1)] := hl
  have hB23 : ∀ (h : ql_H) (H : Heap) (locs : List Loc) (ls : Array Slot), ql_S D h0 s H locs h → lv_has ls 2 [] → qw_X3_holdsOn_23 a0 Q h → W p l e ({ frames := 4, cells := 0, slots := 0, locals := 76 } : Room) s m ([.ref a0, .int xp1] : List Value).toArray below meth c H locs 0 0 (vx_MQ below (ql_Q D h0 (ql_rI Q)) (ql_X D h0 X) ([.ref a0, .int xp1] : List Value).toArray s 0 0 (ql_A h0)) (F0 m 23 ls []) := by
    intro h H locs ls S hl w
    unfold qw_X3_holdsOn_23 at w
    refine lv_iconst (v := (1 : Int32)) C.1.1 C.1.2.1 dX3_holdsOn_23 (by decide) ?_
    refine lv_goto (tgt := 28) C.1.1 C.1.2.1 dX3_holdsOn_24 (by decide) ?_
    exact ql_zret C S hr hlocks dX3_holdsOn_28 ⟨Nat.le_of_ble_eq_true rfl, Nat.le_of_ble_eq_true rfl⟩ w
  unfold qw_X3_holdsOn at w
  refine lv_iload_n C.1.1 C.1.2.1 dX3_holdsOn_0 rfl (lv_at hl 1 rfl) ?_
  refine ql_aload_n (r := (some a0)) C dX3_holdsOn_1 rfl (lv_at hl 0 rfl) ?_
  refine ql_getI C S qf_6_3 gw_139 dX3_holdsOn_2 w (fun x1 w => ?_)
  refine lv_icmp_lt (tgt := 27) C.1.1 C.1.2.1 dX3_holdsOn_5 (by decide) (fun c9 => ?_) (fun c9 => ?_)
  · replace w := ql_if w c9
    refine lv_iconst (v := (0 : Int32)) C.1.1 C.1.2.1 dX3_holdsOn_27 (by decide) ?_
    exact ql_zret C S hr hlocks dX3_holdsOn_28 ⟨Nat.le_of_ble_eq_true rfl, Nat.le_of_ble_eq_true rfl⟩ w
  · replace w := ql_ifn w c9
    refine ql_aload_n (r := (some a0)) C dX3_holdsOn_8 rfl (lv_at hl 0 rfl) ?_
    refine ql_VI (As := []) (rest := []) C S htab hlocks hl qy_X3_hasSunset qi_X3_hasSunset qs_X3_hasSunset gw_414 (ci := 6) rfl w (fun b w => qm_X3_hasSunset l hl9 D _ b _ _ w) rfl ⟨Nat.le_of_ble_eq_true rfl, Nat.le_of_ble_eq_true rfl⟩ ⟨rfl, rfl⟩ (by exact Nat.le_of_ble_eq_true rfl) (fun b e9 => by cases e9; rfl) dX3_holdsOn_9 ⟨Nat.le_of_ble_eq_true rfl, Nat.le_of_ble_eq_true rfl⟩ ⟨Nat.le_of_ble_eq_true rfl, Nat.le_of_ble_eq_true rfl⟩ (fun x2 h H locs S w => ?_)
    refine W.cs (cells' := 0) (slots' := 0) rfl rfl ?_
    refine lv_if_eq (tgt := 23) C.1.1 C.1.2.1 dX3_holdsOn_12 (by decide) (fun c9 => ?_) (fun c9 => ?_)
    · replace w := ql_if w c9
      exact hB23  _ _ _ _ S (lv_sub hl [] rfl) w
    · replace w := ql_ifn w c9
      refine lv_iload_n C.1.1 C.1.2.1 dX3_holdsOn_15 rfl (lv_at hl 1 rfl) ?_
      refine ql_aload_n (r := (some a0)) C dX3_holdsOn_16 rfl (lv_at hl 0 rfl) ?_
      refine ql_getI C S qf_6_4 gw_141 dX3_holdsOn_17 w (fun x4 w => ?_)
      refine lv_icmp_gt (tgt := 27) C.1.1 C.1.2.1 dX3_holdsOn_20 (by decide) (fun c9 => ?_) (fun c9 => ?_)
      · replace w := ql_if w c9
        refine lv_iconst (v := (0 : Int32)) C.1.1 C.1.2.1 dX3_holdsOn_27 (by decide) ?_
        exact ql_zret C S hr hlocks dX3_holdsOn_28 ⟨Nat.le_of_ble_eq_true rfl, Nat.le_of_ble_eq_true rfl⟩ w
      · replace w := ql_ifn w c9
        exact hB23  _ _ _ _ S (lv_sub hl [] rfl) w
def qw_X3_hasRoomForVersion (a0 : Nat) (h : ql_H) (Q : Int32 → ql_H → Prop) : Prop :=
ql_rv h (some a0) 6 fun b1 => qw_X3_countVersions b1  h (fun x1 h =>
if (8 : Int32) ≤ x1 then (ql_nz .boolean (0 : Int32) ∧ Q (0 : Int32) h) else (ql_nz .boolean (1 : Int32) ∧ Q (1 : Int32) h))
set_option maxHeartbeats 4000000 in
set_option maxRecDepth 100000 in
theorem qm_X3_hasRoomForVersion (l : Launch) (hl9 : l.stackTraces = false) (D : ql_D) (h0 : ql_H) (a0 : Nat) (Q : Int32 → ql_H → Prop) (X : String → ql_H → Prop) (w : qw_X3_hasRoomForVersion a0 h0 Q) : ql_M D l yX3_hasRoomForVersion cX3_hasRoomForVersion 1 (some .boolean) ({ frames := 4, cells := 0, slots := 0, locals := 77 } : Room) h0 [.ref a0] (ql_rI Q) X 0 0 := by
  refine ql_ofW (by decide) (Nat.le_of_ble_eq_true rfl) ?_
  intro p e s m below meth c ls C hr hlocks hnm htab S hl
  have hl : lv_has ls 1 [(0, .ref a0)] := hl
  unfold qw_X3_hasRoomForVersion at w
  refine ql_aload_n (r := (some a0)) C dX3_hasRoomForVersion_0 rfl (lv_at hl 0 rfl) ?_
  refine ql_VI (As := []) (rest := []) C S htab hlocks hl qy_X3_countVersions qi_X3_countVersions qs_X3_countVersions gw_467 (ci := 6) rfl w (fun b w => qm_X3_countVersions l hl9 D _ b _ _ w) rfl ⟨Nat.le_of_ble_eq_true rfl, Nat.le_of_ble_eq_true rfl⟩ ⟨rfl, rfl⟩ (by exact Nat.le_of_ble_eq_true rfl) (fun b e9 => by cases e9; rfl) dX3_hasRoomForVersion_1 ⟨Nat.le_of_ble_eq_true rfl, Nat.le_of_ble_eq_true rfl⟩ ⟨Nat.le_of_ble_eq_true rfl, Nat.le_of_ble_eq_true rfl⟩ (fun x1 h H locs S w => ?_)
  refine W.cs (cells' := 0) (slots' := 0) rfl rfl ?_
  refine lv_bipush (v := (8 : Int32)) C.1.1 C.1.2.1 dX3_hasRoomForVersion_4 (by decide) ?_
  refine lv_icmp_ge (tgt := 13) C.1.1 C.1.2.1 dX3_hasRoomForVersion_6 (by decide) (fun c9 => ?_) (fun c9 => ?_)
  · replace w := ql_if w c9
    refine lv_iconst (v := (0 : Int32)) C.1.1 C.1.2.1 dX3_hasRoomForVersion_13 (by decide) ?_
    exact ql_zret C S hr hlocks dX3_hasRoomForVersion_14 ⟨Nat.le_of_ble_eq_true rfl, Nat.le_of_ble_eq_true rfl⟩ w
  · replace w := ql_ifn w c9
    refine lv_iconst (v := (1 : Int32)) C.1.1 C.1.2.1 dX3_hasRoomForVersion_9 (by decide) ?_
    refine lv_goto (tgt := 14) C.1.1 C.1.2.1 dX3_hasRoomForVersion_10 (by decide) ?_
    exact ql_zret C S hr hlocks dX3_hasRoomForVersion_14 ⟨Nat.le_of_ble_eq_true rfl, Nat.le_of_ble_eq_true rfl⟩ w
def qw_X1_isAmendable (a0 : Nat) (rp1 : Option Nat) (h : ql_H) (Q : Int32 → ql_H → Prop) : Prop :=
ql_gI h (some a0) 4 2 fun x1 =>
ql_rv h rp1 6 fun b2 => qw_X3_holdsOn b2 x1 h (fun x2 h =>
if x2 = 0 then (ql_nz .boolean (0 : Int32) ∧ Q (0 : Int32) h) else (ql_rv h rp1 6 fun b4 => qw_X3_hasRoomForVersion b4  h (fun x4 h =>
if x4 = 0 then (ql_nz .boolean (0 : Int32) ∧ Q (0 : Int32) h) else (ql_nz .boolean (1 : Int32) ∧ Q (1 : Int32) h))))
set_option maxHeartbeats 4000000 in
set_option maxRecDepth 100000 in
theorem qm_X1_isAmendable (l : Launch) (hl9 : l.stackTraces = false) (D : ql_D) (h0 : ql_H) (a0 : Nat) (rp1 : Option Nat) (Q : Int32 → ql_H → Prop) (X : String → ql_H → Prop) (w : qw_X1_isAmendable a0 rp1 h0 Q) : ql_M D l yX1_isAmendable cX1_isAmendable 2 (some .boolean) ({ frames := 6, cells := 0, slots := 0, locals := 105 } : Room) h0 [.ref a0, va_rf rp1] (ql_rI Q) X 0 0 := by
  refine ql_ofW (by decide) (by cases rp1 <;> exact Nat.le_of_ble_eq_true rfl) ?_
  intro p e s m below meth c ls C hr hlocks hnm htab S hl
  rw [show lv_args 0 [.ref a0, va_rf rp1] = [(0, .ref a0), (1, va_rf rp1)] from by cases rp1 <;> rfl] at hl
  unfold qw_X1_isAmendable at w
  refine ql_aload_n (r := rp1) C dX1_isAmendable_0 rfl (lv_at hl 1 rfl) ?_
  refine ql_aload_n (r := (some a0)) C dX1_isAmendable_1 rfl (lv_at hl 0 rfl) ?_
  refine ql_getI C S qf_4_2 gw_170 dX1_isAmendable_2 w (fun x1 w => ?_)
  refine ql_VI (As := [.int x1]) (rest := []) C S htab hlocks hl qy_X3_holdsOn qi_X3_holdsOn qs_X3_holdsOn gw_645 (ci := 6) rfl w (fun b w => qm_X3_holdsOn l hl9 D _ b x1 _ _ w) rfl ⟨Nat.le_of_ble_eq_true rfl, Nat.le_of_ble_eq_true rfl⟩ ⟨rfl, rfl⟩ (by exact Nat.le_of_ble_eq_true rfl) (fun b e9 => by cases e9; rfl) dX1_isAmendable_5 ⟨Nat.le_of_ble_eq_true rfl, Nat.le_of_ble_eq_true rfl⟩ ⟨Nat.le_of_ble_eq_true rfl, Nat.le_of_ble_eq_true rfl⟩ (fun x2 h H locs S w => ?_)
  refine W.cs (cells' := 0) (slots' := 0) rfl rfl ?_
  refine lv_if_eq (tgt := 22) C.1.1 C.1.2.1 dX1_isAmendable_8 (by decide) (fun c9 => ?_) (fun c9 => ?_)
  · replace w := ql_if w c9
    refine lv_iconst (v := (0 : Int32)) C.1.1 C.1.2.1 dX1_isAmendable_22 (by decide) ?_
    exact ql_zret C S hr hlocks dX1_isAmendable_23 ⟨Nat.le_of_ble_eq_true rfl, Nat.le_of_ble_eq_true rfl⟩ w
  · replace w := ql_ifn w c9
    refine ql_aload_n (r := rp1) C dX1_isAmendable_11 rfl (lv_at hl 1 rfl) ?_
    refine ql_VI (As := []) (rest := []) C S htab hlocks hl qy_X3_hasRoomForVersion qi_X3_hasRoomForVersion qs_X3_hasRoomForVersion gw_851 (ci := 6) rfl w (fun b w => qm_X3_hasRoomForVersion l hl9 D _ b _ _ w) rfl ⟨Nat.le_of_ble_eq_true rfl, Nat.le_of_ble_eq_true rfl⟩ ⟨rfl, rfl⟩ (by exact Nat.le_of_ble_eq_true rfl) (fun b e9 => by cases e9; rfl) dX1_isAmendable_12 ⟨Nat.le_of_ble_eq_true rfl, Nat.le_of_ble_eq_true rfl⟩ ⟨Nat.le_of_ble_eq_true rfl, Nat.le_of_ble_eq_true rfl⟩ (fun x4 h H locs S w => ?_)
    refine W.cs (cells' := 0) (slots' := 0) rfl rfl ?_
    refine lv_if_eq (tgt := 22) C.1.1 C.1.2.1 dX1_isAmendable_15 (by decide) (fun c9 => ?_) (fun c9 => ?_)
    · replace w := ql_if w c9
      refine lv_iconst (v := (0 : Int32)) C.1.1 C.1.2.1 dX1_isAmendable_22 (by decide) ?_
      exact ql_zret C S hr hlocks dX1_isAmendable_23 ⟨Nat.le_of_ble_eq_true rfl, Nat.le_of_ble_eq_true rfl⟩ w
    · replace w := ql_ifn w c9
      refine lv_iconst (v := (1 : Int32)) C.1.1 C.1.2.1 dX1_isAmendable_18 (by decide) ?_
      refine lv_goto (tgt := 23) C.1.1 C.1.2.1 dX1_isAmendable_19 (by decide) ?_
      exact ql_zret C S hr hlocks dX1_isAmendable_23 ⟨Nat.le_of_ble_eq_true rfl, Nat.le_of_ble_eq_true rfl⟩ w
def qw_X9_before (jp0 : Int64) (xp2 : Int32) (h : ql_H) (Q : Int64 → ql_H → Prop) : Prop :=
Q (jp0 &&& (((1 : Int64) <<< (((3 : Int32) * xp2).toInt64 &&& 63)) - (1 : Int64))) h
set_option maxHeartbeats 4000000 in
set_option maxRecDepth 100000 in
theorem qm_X9_before (l : Launch) (hl9 : l.stackTraces = false) (D : ql_D) (h0 : ql_H) (jp0 : Int64) (xp2 : Int32) (Q : Int64 → ql_H → Prop) (X : String → ql_H → Prop) (w : qw_X9_before jp0 xp2 h0 Q) : ql_M D l yX9_before cX9_before 3 (some .long) ({ frames := 2, cells := 0, slots := 0, locals := 48 } : Room) h0 [.long jp0, .int xp2] (ql_rJ Q) X 0 0 := by
  refine ql_ofW (by decide) (Nat.le_of_ble_eq_true rfl) ?_
  intro p e s m below meth c ls C hr hlocks hnm htab S hl
  have hl : lv_has ls 3 [(0, .long jp0), (2, .int xp2)] := hl
  unfold qw_X9_before at w
  refine lv_lload_n C.1.1 C.1.2.1 dX9_before_0 rfl (lv_at hl 0 rfl) ?_
  refine lv_lconst (v := (1 : Int64)) C.1.1 C.1.2.1 dX9_before_1 (by decide) ?_
  refine lv_iconst (v := (3 : Int32)) C.1.1 C.1.2.1 dX9_before_2 (by decide) ?_
  refine lv_iload_n C.1.1 C.1.2.1 dX9_before_3 rfl (lv_at hl 1 rfl) ?_
  refine lv_imul C.1.1 C.1.2.1 dX9_before_4 ?_
  refine lv_lshl C.1.1 C.1.2.1 dX9_before_5 rfl ?_
  refine lv_lconst (v := (1 : Int64)) C.1.1 C.1.2.1 dX9_before_6 (by decide) ?_
  refine lv_lsub C.1.1 C.1.2.1 dX9_before_7 ?_
  refine lv_land C.1.1 C.1.2.1 dX9_before_8 ?_
  exact ql_lret C S hr hlocks dX9_before_9 ⟨Nat.le_of_ble_eq_true rfl, Nat.le_of_ble_eq_true rfl⟩ w
def qw_X9_withInserted (jp0 : Int64) (xp2 : Int32) (xp3 : Int32) (h : ql_H) (Q : Int64 → ql_H → Prop) : Prop :=
qw_X9_before jp0 xp2 h (fun j1 h =>
qw_X9_ofNote xp3 h (fun j2 h =>
Q ((j1 ||| (j2 <<< (((3 : Int32) * xp2).toInt64 &&& 63))) ||| ((jp0.toUInt64 >>> (((3 : Int32) * xp2).toInt64.toUInt64 &&& Int64.toUInt64 63)).toInt64 <<< (((3 : Int32) * (xp2 + (1 : Int32))).toInt64 &&& 63))) h))
set_option maxHeartbeats 4000000 in
set_option maxRecDepth 100000 in
theorem qm_X9_withInserted (l : Launch) (hl9 : l.stackTraces = false) (D : ql_D) (h0 : ql_H) (jp0 : Int64) (xp2 : Int32) (xp3 : Int32) (Q : Int64 → ql_H → Prop) (X : String → ql_H → Prop) (w : qw_X9_withInserted jp0 xp2 xp3 h0 Q) : ql_M D l yX9_withInserted cX9_withInserted 6 (some .long) ({ frames := 4, cells := 0, slots := 0, locals := 78 } : Room) h0 [.long jp0, .int xp2, .int xp3] (ql_rJ Q) X 0 0 := by
  refine ql_ofW (by decide) (Nat.le_of_ble_eq_true rfl) ?_
  intro p e s m below meth c ls C hr hlocks hnm htab S hl
  have hl : lv_has ls 6 [(0, .long jp0), (2, .int xp2), (3, .int xp3)] := hl
  unfold qw_X9_withInserted at w
  refine lv_lload_n C.1.1 C.1.2.1 dX9_withInserted_0 rfl (lv_at hl 0 rfl) ?_
  refine lv_iconst (v := (3 : Int32)) C.1.1 C.1.2.1 dX9_withInserted_1 (by decide) ?_
  refine lv_iload_n C.1.1 C.1.2.1 dX9_withInserted_2 rfl (lv_at hl 1 rfl) ?_
  refine lv_imul C.1.1 C.1.2.1 dX9_withInserted_3 ?_
  refine lv_lushr C.1.1 C.1.2.1 dX9_withInserted_4 rfl ?_
  refine lv_iconst (v := (3 : Int32)) C.1.1 C.1.2.1 dX9_withInserted_5 (by decide) ?_
  refine lv_iload_n C.1.1 C.1.2.1 dX9_withInserted_6 rfl (lv_at hl 1 rfl) ?_
  refine lv_iconst (v := (1 : Int32)) C.1.1 C.1.2.1 dX9_withInserted_7 (by decide) ?_
  refine lv_iadd C.1.1 C.1.2.1 dX9_withInserted_8 ?_
  refine lv_imul C.1.1 C.1.2.1 dX9_withInserted_9 ?_
  refine lv_lshl C.1.1 C.1.2.1 dX9_withInserted_10 rfl ?_
  refine lv_lstore (lv' := [(4, .long ((jp0.toUInt64 >>> (((3 : Int32) * xp2).toInt64.toUInt64 &&& Int64.toUInt64 63)).toInt64 <<< (((3 : Int32) * (xp2 + (1 : Int32))).toInt64 &&& 63))), (0, .long jp0), (2, .int xp2), (3, .int xp3)]) C.1.1 C.1.2.1 dX9_withInserted_11 hl (by decide) rfl (fun ls hl => ?_)
  refine lv_lload_n C.1.1 C.1.2.1 dX9_withInserted_13 rfl (lv_at hl 1 rfl) ?_
  refine lv_iload_n C.1.1 C.1.2.1 dX9_withInserted_14 rfl (lv_at hl 2 rfl) ?_
  refine ql_SJ (As := [.long jp0, .int xp2]) (rest := []) C S htab hlocks hl qy_X9_before qi_X9_before gw_858 (qm_X9_before l hl9 D _ jp0 xp2 _ _ w) rfl ⟨Nat.le_of_ble_eq_true rfl, Nat.le_of_ble_eq_true rfl⟩ ⟨rfl, rfl⟩ (by exact Nat.le_of_ble_eq_true rfl) rfl dX9_withInserted_15 ⟨Nat.le_of_ble_eq_true rfl, Nat.le_of_ble_eq_true rfl⟩ ⟨Nat.le_of_ble_eq_true rfl, Nat.le_of_ble_eq_true rfl⟩ (fun j1 h H locs S w => ?_)
  refine W.cs (cells' := 0) (slots' := 0) rfl rfl ?_
  refine lv_iload_n C.1.1 C.1.2.1 dX9_withInserted_18 rfl (lv_at hl 3 rfl) ?_
  refine ql_SJ (As := [.int xp3]) (rest := [.long j1]) C S htab hlocks hl qy_X9_ofNote qi_X9_ofNote gw_861 (qm_X9_ofNote l hl9 D _ xp3 _ _ w) rfl ⟨Nat.le_of_ble_eq_true rfl, Nat.le_of_ble_eq_true rfl⟩ ⟨rfl, rfl⟩ (by exact Nat.le_of_ble_eq_true rfl) rfl dX9_withInserted_19 ⟨Nat.le_of_ble_eq_true rfl, Nat.le_of_ble_eq_true rfl⟩ ⟨Nat.le_of_ble_eq_true rfl, Nat.le_of_ble_eq_true rfl⟩ (fun j2 h H locs S w => ?_)
  refine W.cs (cells' := 0) (slots' := 0) rfl rfl ?_
  refine lv_iconst (v := (3 : Int32)) C.1.1 C.1.2.1 dX9_withInserted_22 (by decide) ?_
  refine lv_iload_n C.1.1 C.1.2.1 dX9_withInserted_23 rfl (lv_at hl 2 rfl) ?_
  refine lv_imul C.1.1 C.1.2.1 dX9_withInserted_24 ?_
  refine lv_lshl C.1.1 C.1.2.1 dX9_withInserted_25 rfl ?_
  refine lv_lor C.1.1 C.1.2.1 dX9_withInserted_26 ?_
  refine lv_lload C.1.1 C.1.2.1 dX9_withInserted_27 (lv_at hl 0 rfl) ?_
  refine lv_lor C.1.1 C.1.2.1 dX9_withInserted_29 ?_
  exact ql_lret C S hr hlocks dX9_withInserted_30 ⟨Nat.le_of_ble_eq_true rfl, Nat.le_of_ble_eq_true rfl⟩ w
def qw_X3_addVersion (a0 : Nat) (xp1 : Int32) (jp2 : Int64) (h : ql_H) (Q : ql_H → Prop) : Prop :=
ql_rv h (some a0) 6 fun b1 => qw_X3_countVersions b1  h (fun x1 h =>
if (8 : Int32) ≤ x1 then (Q h) else (ql_gR h (some a0) 6 5 fun r3 =>
ql_sI h r3 0 x1 xp1 fun h =>
ql_gR h (some a0) 6 6 fun r4 =>
ql_sJ h r4 x1 jp2 fun h =>
Q h))
set_option maxHeartbeats 4000000 in
set_option maxRecDepth 100000 in
theorem qm_X3_addVersion (l : Launch) (hl9 : l.stackTraces = false) (D : ql_D) (h0 : ql_H) (a0 : Nat) (xp1 : Int32) (jp2 : Int64) (Q : ql_H → Prop) (X : String → ql_H → Prop) (w : qw_X3_addVersion a0 xp1 jp2 h0 Q) : ql_M D l yX3_addVersion cX3_addVersion 5 none ({ frames := 4, cells := 0, slots := 0, locals := 77 } : Room) h0 [.ref a0, .int xp1, .long jp2] (ql_rV Q) X 0 0 := by
  refine ql_ofW (by decide) (Nat.le_of_ble_eq_true rfl) ?_
  intro p e s m below meth c ls C hr hlocks hnm htab S hl
  have hl : lv_has ls 5 [(0, .ref a0), (1, .int xp1), (2, .long jp2)] := hl
  unfold qw_X3_addVersion at w
  refine ql_aload_n (r := (some a0)) C dX3_addVersion_0 rfl (lv_at hl 0 rfl) ?_
  refine ql_VI (As := []) (rest := []) C S htab hlocks hl qy_X3_countVersions qi_X3_countVersions qs_X3_countVersions gw_467 (ci := 6) rfl w (fun b w => qm_X3_countVersions l hl9 D _ b _ _ w) rfl ⟨Nat.le_of_ble_eq_true rfl, Nat.le_of_ble_eq_true rfl⟩ ⟨rfl, rfl⟩ (by exact Nat.le_of_ble_eq_true rfl) (fun b e9 => by cases e9; rfl) dX3_addVersion_1 ⟨Nat.le_of_ble_eq_true rfl, Nat.le_of_ble_eq_true rfl⟩ ⟨Nat.le_of_ble_eq_true rfl, Nat.le_of_ble_eq_true rfl⟩ (fun x1 h H locs S w => ?_)
  refine W.cs (cells' := 0) (slots' := 0) rfl rfl ?_
  refine lv_istore (lv' := [(4, .int x1), (0, .ref a0), (1, .int xp1), (2, .long jp2)]) C.1.1 C.1.2.1 dX3_addVersion_4 hl (by decide) rfl (fun ls hl => ?_)
  refine lv_iload C.1.1 C.1.2.1 dX3_addVersion_6 (lv_at hl 0 rfl) ?_
  refine lv_bipush (v := (8 : Int32)) C.1.1 C.1.2.1 dX3_addVersion_8 (by decide) ?_
  refine lv_icmp_ge (tgt := 29) C.1.1 C.1.2.1 dX3_addVersion_10 (by decide) (fun c9 => ?_) (fun c9 => ?_)
  · replace w := ql_if w c9
    exact ql_vret C S hr hlocks dX3_addVersion_29 ⟨Nat.le_of_ble_eq_true rfl, Nat.le_of_ble_eq_true rfl⟩ w
  · replace w := ql_ifn w c9
    refine ql_aload_n (r := (some a0)) C dX3_addVersion_13 rfl (lv_at hl 1 rfl) ?_
    refine ql_getR C S qf_6_5 gw_144 dX3_addVersion_14 w (fun r3 w => ?_)
    refine lv_iload C.1.1 C.1.2.1 dX3_addVersion_17 (lv_at hl 0 rfl) ?_
    refine lv_iload_n C.1.1 C.1.2.1 dX3_addVersion_19 rfl (lv_at hl 2 rfl) ?_
    refine ql_iast C S dX3_addVersion_20 w (fun h H locs S w => ?_)
    refine ql_aload_n (r := (some a0)) C dX3_addVersion_21 rfl (lv_at hl 1 rfl) ?_
    refine ql_getR C S qf_6_6 gw_145 dX3_addVersion_22 w (fun r4 w => ?_)
    refine lv_iload C.1.1 C.1.2.1 dX3_addVersion_25 (lv_at hl 0 rfl) ?_
    refine lv_lload_n C.1.1 C.1.2.1 dX3_addVersion_27 rfl (lv_at hl 3 rfl) ?_
    refine ql_last C S dX3_addVersion_28 w (fun h H locs S w => ?_)
    exact ql_vret C S hr hlocks dX3_addVersion_29 ⟨Nat.le_of_ble_eq_true rfl, Nat.le_of_ble_eq_true rfl⟩ w
def qw_X1_amend (a0 : Nat) (rp1 : Option Nat) (jp2 : Int64) (h : ql_H) (Q : Int32 → ql_H → Prop) : Prop :=
ql_gI h (some a0) 4 2 fun x1 =>
ql_rv h rp1 6 fun b1 => qw_X3_addVersion b1 x1 jp2 h (fun h =>
ql_gI h (some a0) 4 4 fun x3 =>
ql_pV h (some a0) 4 4 (.int (x3 + (1 : Int32))) fun h =>
ql_rv h rp1 6 fun b4 => qw_X3_countVersions b4  h (fun x4 h =>
Q x4 h))
set_option maxHeartbeats 4000000 in
set_option maxRecDepth 100000 in
theorem qm_X1_amend (l : Launch) (hl9 : l.stackTraces = false) (D : ql_D) (h0 : ql_H) (a0 : Nat) (rp1 : Option Nat) (jp2 : Int64) (Q : Int32 → ql_H → Prop) (X : String → ql_H → Prop) (w : qw_X1_amend a0 rp1 jp2 h0 Q) : ql_M D l yX1_amend cX1_amend 4 (some .int) ({ frames := 6, cells := 0, slots := 0, locals := 109 } : Room) h0 [.ref a0, va_rf rp1, .long jp2] (ql_rI Q) X 0 0 := by
  refine ql_ofW (by decide) (by cases rp1 <;> exact Nat.le_of_ble_eq_true rfl) ?_
  intro p e s m below meth c ls C hr hlocks hnm htab S hl
  rw [show lv_args 0 [.ref a0, va_rf rp1, .long jp2] = [(0, .ref a0), (1, va_rf rp1), (2, .long jp2)] from by cases rp1 <;> rfl] at hl
  unfold qw_X1_amend at w
  refine ql_aload_n (r := rp1) C dX1_amend_0 rfl (lv_at hl 1 rfl) ?_
  refine ql_aload_n (r := (some a0)) C dX1_amend_1 rfl (lv_at hl 0 rfl) ?_
  refine ql_getI C S qf_4_2 gw_170 dX1_amend_2 w (fun x1 w => ?_)
  refine lv_lload_n C.1.1 C.1.2.1 dX1_amend_5 rfl (lv_at hl 2 rfl) ?_
  refine ql_VV (As := [.int x1, .long jp2]) (rest := []) C S htab hlocks hl qy_X3_addVersion qi_X3_addVersion qs_X3_addVersion gw_866 (ci := 6) rfl w (fun b w => qm_X3_addVersion l hl9 D _ b x1 jp2 _ _ w) rfl ⟨Nat.le_of_ble_eq_true rfl, Nat.le_of_ble_eq_true rfl⟩ ⟨rfl, rfl⟩ (by exact Nat.le_of_ble_eq_true rfl) (fun b e9 => by cases e9; rfl) dX1_amend_6 ⟨Nat.le_of_ble_eq_true rfl, Nat.le_of_ble_eq_true rfl⟩ ⟨Nat.le_of_ble_eq_true rfl, Nat.le_of_ble_eq_true rfl⟩ (fun h H locs S w => ?_)
  refine W.cs (cells' := 0) (slots' := 0) rfl rfl ?_
  refine ql_aload_n (r := (some a0)) C dX1_amend_9 rfl (lv_at hl 0 rfl) ?_
  refine lv_dup C.1.1 C.1.2.1 dX1_amend_10 (ql_catR _) ?_
  refine ql_getI C S qf_4_4 gw_174 dX1_amend_11 w (fun x3 w => ?_)
  refine lv_iconst (v := (1 : Int32)) C.1.1 C.1.2.1 dX1_amend_14 (by decide) ?_
  refine lv_iadd C.1.1 C.1.2.1 dX1_amend_15 ?_
  refine ql_putV C S qf_4_4 gw_174 (tyX1) tyX1_ok nmX1 rfl dX1_amend_16 (v := .int (x3 + (1 : Int32))) rfl rfl w (fun h H locs S w => ?_)
  refine ql_aload_n (r := rp1) C dX1_amend_19 rfl (lv_at hl 1 rfl) ?_
  refine ql_VI (As := []) (rest := []) C S htab hlocks hl qy_X3_countVersions qi_X3_countVersions qs_X3_countVersions gw_870 (ci := 6) rfl w (fun b w => qm_X3_countVersions l hl9 D _ b _ _ w) rfl ⟨Nat.le_of_ble_eq_true rfl, Nat.le_of_ble_eq_true rfl⟩ ⟨rfl, rfl⟩ (by exact Nat.le_of_ble_eq_true rfl) (fun b e9 => by cases e9; rfl) dX1_amend_20 ⟨Nat.le_of_ble_eq_true rfl, Nat.le_of_ble_eq_true rfl⟩ ⟨Nat.le_of_ble_eq_true rfl, Nat.le_of_ble_eq_true rfl⟩ (fun x4 h H locs S w => ?_)
  refine W.cs (cells' := 0) (slots' := 0) rfl rfl ?_
  exact ql_iret C S hr hlocks dX1_amend_23 ⟨Nat.le_of_ble_eq_true rfl, Nat.le_of_ble_eq_true rfl⟩ w
def qw_X1_tryInsert (a0 : Nat) (xp1 : Int32) (xp2 : Int32) (xp3 : Int32) (h : ql_H) (Q : Int32 → ql_H → Prop) : Prop :=
ql_rv h (some a0) 4 fun b1 => qw_X1_clauseWithId b1 xp1 h (fun r1 h =>
if r1 = none then (Q (-1 : Int32) h) else (ql_rv h r1 6 fun b3 => qw_X3_latestText b3  h (fun j3 h =>
qw_X9_lengthOf j3 h (fun x5 h =>
if xp2 < 0 then (Q (-2 : Int32) h) else (if xp2 ≤ x5 then (qw_X9_isNote xp3 h (fun x6 h =>
if x6 = 0 then (Q (-3 : Int32) h) else (ql_rv h (some a0) 4 fun b7 => qw_X1_isAmendable b7 r1 h (fun x7 h =>
if x7 = 0 then (Q (-4 : Int32) h) else (if x5 < (12 : Int32) then (qw_X9_withInserted j3 xp2 xp3 h (fun j9 h =>
ql_rv h (some a0) 4 fun b10 => qw_X1_amend b10 r1 j9 h (fun x10 h =>
Q x10 h))) else (Q (-5 : Int32) h)))))) else (Q (-2 : Int32) h))))))
set_option maxHeartbeats 4000000 in
set_option maxRecDepth 100000 in
theorem qm_X1_tryInsert (l : Launch) (hl9 : l.stackTraces = false) (D : ql_D) (h0 : ql_H) (a0 : Nat) (xp1 : Int32) (xp2 : Int32) (xp3 : Int32) (Q : Int32 → ql_H → Prop) (X : String → ql_H → Prop) (w : qw_X1_tryInsert a0 xp1 xp2 xp3 h0 Q) : ql_M D l yX1_tryInsert cX1_tryInsert 8 (some .int) ({ frames := 8, cells := 0, slots := 0, locals := 140 } : Room) h0 [.ref a0, .int xp1, .int xp2, .int xp3] (ql_rI Q) X 0 0 := by
  refine ql_ofW (by decide) (Nat.le_of_ble_eq_true rfl) ?_
  intro p e s m below meth c ls C hr hlocks hnm htab S hl
  have hl : lv_has ls 8 [(0, .ref a0), (1, .int xp1), (2, .int xp2), (3, .int xp3)] := hl
  unfold qw_X1_tryInsert at w
  refine ql_aload_n (r := (some a0)) C dX1_tryInsert_0 rfl (lv_at hl 0 rfl) ?_
  refine lv_iload_n C.1.1 C.1.2.1 dX1_tryInsert_1 rfl (lv_at hl 1 rfl) ?_
  refine ql_VR (As := [.int xp1]) (rest := []) C S htab hlocks hl qy_X1_clauseWithId qi_X1_clauseWithId qs_X1_clauseWithId gw_430 (ci := 4) rfl w (fun b w => qm_X1_clauseWithId l hl9 D _ b xp1 _ _ w) rfl ⟨Nat.le_of_ble_eq_true rfl, Nat.le_of_ble_eq_true rfl⟩ ⟨rfl, rfl⟩ (by exact Nat.le_of_ble_eq_true rfl) (fun b e9 => by cases e9; rfl) dX1_tryInsert_2 ⟨Nat.le_of_ble_eq_true rfl, Nat.le_of_ble_eq_true rfl⟩ ⟨Nat.le_of_ble_eq_true rfl, Nat.le_of_ble_eq_true rfl⟩ (fun r1 h H locs S w => ?_)
  refine W.cs (cells' := 0) (slots' := 0) rfl rfl ?_
  refine ql_astore (lv' := [(4, va_rf r1), (0, .ref a0), (1, .int xp1), (2, .int xp2), (3, .int xp3)]) C dX1_tryInsert_5 hl (by decide) rfl (fun ls hl => ?_)
  refine ql_aload (r := r1) C dX1_tryInsert_7 (lv_at hl 0 rfl) ?_
  refine ql_ifnonnull (tgt := 14) C dX1_tryInsert_9 (by decide) (fun c9 => ?_) (fun c9 => ?_)
  · replace w := ql_ifn w c9
    refine ql_aload (r := r1) C dX1_tryInsert_14 (lv_at hl 0 rfl) ?_
    refine ql_VJ (As := []) (rest := []) C S htab hlocks hl qy_X3_latestText qi_X3_latestText qs_X3_latestText gw_845 (ci := 6) rfl w (fun b w => qm_X3_latestText l hl9 D _ b _ _ w) rfl ⟨Nat.le_of_ble_eq_true rfl, Nat.le_of_ble_eq_true rfl⟩ ⟨rfl, rfl⟩ (by exact Nat.le_of_ble_eq_true rfl) (fun b e9 => by cases e9; rfl) dX1_tryInsert_16 ⟨Nat.le_of_ble_eq_true rfl, Nat.le_of_ble_eq_true rfl⟩ ⟨Nat.le_of_ble_eq_true rfl, Nat.le_of_ble_eq_true rfl⟩ (fun j3 h H locs S w => ?_)
    refine W.cs (cells' := 0) (slots' := 0) rfl rfl ?_
    refine lv_lstore (lv' := [(5, .long j3), (4, va_rf r1), (0, .ref a0), (1, .int xp1), (2, .int xp2), (3, .int xp3)]) C.1.1 C.1.2.1 dX1_tryInsert_19 hl (by decide) (by generalize r1 = z9; cases z9 <;> rfl) (fun ls hl => ?_)
    refine lv_lload C.1.1 C.1.2.1 dX1_tryInsert_21 (lv_at hl 0 rfl) ?_
    refine ql_SI (As := [.long j3]) (rest := []) C S htab hlocks hl qy_X9_lengthOf qi_X9_lengthOf gw_846 (qm_X9_lengthOf l hl9 D _ j3 _ _ w) rfl ⟨Nat.le_of_ble_eq_true rfl, Nat.le_of_ble_eq_true rfl⟩ ⟨rfl, rfl⟩ (by exact Nat.le_of_ble_eq_true rfl) rfl dX1_tryInsert_23 ⟨Nat.le_of_ble_eq_true rfl, Nat.le_of_ble_eq_true rfl⟩ ⟨Nat.le_of_ble_eq_true rfl, Nat.le_of_ble_eq_true rfl⟩ (fun x5 h H locs S w => ?_)
    refine W.cs (cells' := 0) (slots' := 0) rfl rfl ?_
    refine lv_istore (lv' := [(7, .int x5), (5, .long j3), (4, va_rf r1), (0, .ref a0), (1, .int xp1), (2, .int xp2), (3, .int xp3)]) C.1.1 C.1.2.1 dX1_tryInsert_26 hl (by decide) rfl (fun ls hl => ?_)
    refine lv_iload_n C.1.1 C.1.2.1 dX1_tryInsert_28 rfl (lv_at hl 5 rfl) ?_
    refine lv_if_lt (tgt := 38) C.1.1 C.1.2.1 dX1_tryInsert_29 (by decide) (fun c9 => ?_) (fun c9 => ?_)
    · replace w := ql_if w c9
      refine lv_bipush (v := (-2 : Int32)) C.1.1 C.1.2.1 dX1_tryInsert_38 (by decide) ?_
      exact ql_iret C S hr hlocks dX1_tryInsert_40 ⟨Nat.le_of_ble_eq_true rfl, Nat.le_of_ble_eq_true rfl⟩ w
    · replace w := ql_ifn w c9
      refine lv_iload_n C.1.1 C.1.2.1 dX1_tryInsert_32 rfl (lv_at hl 5 rfl) ?_
      refine lv_iload C.1.1 C.1.2.1 dX1_tryInsert_33 (lv_at hl 0 rfl) ?_
      refine lv_icmp_le (tgt := 41) C.1.1 C.1.2.1 dX1_tryInsert_35 (by decide) (fun c9 => ?_) (fun c9 => ?_)
      · replace w := ql_if w c9
        refine lv_iload_n C.1.1 C.1.2.1 dX1_tryInsert_41 rfl (lv_at hl 6 rfl) ?_
        refine ql_SI (As := [.int xp3]) (rest := []) C S htab hlocks hl qy_X9_isNote qi_X9_isNote gw_783 (qm_X9_isNote l hl9 D _ xp3 _ _ w) rfl ⟨Nat.le_of_ble_eq_true rfl, Nat.le_of_ble_eq_true rfl⟩ ⟨rfl, rfl⟩ (by exact Nat.le_of_ble_eq_true rfl) rfl dX1_tryInsert_42 ⟨Nat.le_of_ble_eq_true rfl, Nat.le_of_ble_eq_true rfl⟩ ⟨Nat.le_of_ble_eq_true rfl, Nat.le_of_ble_eq_true rfl⟩ (fun x6 h H locs S w => ?_)
        refine W.cs (cells' := 0) (slots' := 0) rfl rfl ?_
        refine lv_if_ne (tgt := 51) C.1.1 C.1.2.1 dX1_tryInsert_45 (by decide) (fun c9 => ?_) (fun c9 => ?_)
        · replace w := ql_ifn w c9
          refine ql_aload_n (r := (some a0)) C dX1_tryInsert_51 rfl (lv_at hl 3 rfl) ?_
          refine ql_aload (r := r1) C dX1_tryInsert_52 (lv_at hl 2 rfl) ?_
          refine ql_VI (As := [va_rf r1]) (rest := []) C S htab hlocks hl qy_X1_isAmendable qi_X1_isAmendable qs_X1_isAmendable gw_847 (ci := 4) rfl w (fun b w => qm_X1_isAmendable l hl9 D _ b r1 _ _ w) rfl ⟨Nat.le_of_ble_eq_true rfl, Nat.le_of_ble_eq_true rfl⟩ ⟨rfl, rfl⟩ (by exact Nat.le_of_ble_eq_true rfl) (fun b e9 => by cases e9; rfl) dX1_tryInsert_54 ⟨Nat.le_of_ble_eq_true rfl, Nat.le_of_ble_eq_true rfl⟩ ⟨Nat.le_of_ble_eq_true rfl, Nat.le_of_ble_eq_true rfl⟩ (fun x7 h H locs S w => ?_)
          refine W.cs (cells' := 0) (slots' := 0) rfl rfl ?_
          refine lv_if_ne (tgt := 63) C.1.1 C.1.2.1 dX1_tryInsert_57 (by decide) (fun c9 => ?_) (fun c9 => ?_)
          · replace w := ql_ifn w c9
            refine lv_iload C.1.1 C.1.2.1 dX1_tryInsert_63 (lv_at hl 0 rfl) ?_
            refine lv_bipush (v := (12 : Int32)) C.1.1 C.1.2.1 dX1_tryInsert_65 (by decide) ?_
            refine lv_icmp_lt (tgt := 73) C.1.1 C.1.2.1 dX1_tryInsert_67 (by decide) (fun c9 => ?_) (fun c9 => ?_)
            · replace w := ql_if w c9
              refine ql_aload_n (r := (some a0)) C dX1_tryInsert_73 rfl (lv_at hl 3 rfl) ?_
              refine ql_aload (r := r1) C dX1_tryInsert_74 (lv_at hl 2 rfl) ?_
              refine lv_lload C.1.1 C.1.2.1 dX1_tryInsert_76 (lv_at hl 1 rfl) ?_
              refine lv_iload_n C.1.1 C.1.2.1 dX1_tryInsert_78 rfl (lv_at hl 5 rfl) ?_
              refine lv_iload_n C.1.1 C.1.2.1 dX1_tryInsert_79 rfl (lv_at hl 6 rfl) ?_
              refine ql_SJ (As := [.long j3, .int xp2, .int xp3]) (rest := [va_rf r1, .ref a0]) C S htab hlocks hl qy_X9_withInserted qi_X9_withInserted gw_855 (qm_X9_withInserted l hl9 D _ j3 xp2 xp3 _ _ w) rfl ⟨Nat.le_of_ble_eq_true rfl, Nat.le_of_ble_eq_true rfl⟩ ⟨rfl, rfl⟩ (by generalize r1 = z0; cases z0 <;> exact Nat.le_of_ble_eq_true rfl) rfl dX1_tryInsert_80 ⟨Nat.le_of_ble_eq_true rfl, Nat.le_of_ble_eq_true rfl⟩ ⟨Nat.le_of_ble_eq_true rfl, Nat.le_of_ble_eq_true rfl⟩ (fun j9 h H locs S w => ?_)
              refine W.cs (cells' := 0) (slots' := 0) rfl rfl ?_
              refine ql_VI (As := [va_rf r1, .long j9]) (rest := []) C S htab hlocks hl qy_X1_amend qi_X1_amend qs_X1_amend gw_862 (ci := 4) rfl w (fun b w => qm_X1_amend l hl9 D _ b r1 j9 _ _ w) rfl ⟨Nat.le_of_ble_eq_true rfl, Nat.le_of_ble_eq_true rfl⟩ ⟨rfl, rfl⟩ (by exact Nat.le_of_ble_eq_true rfl) (fun b e9 => by cases e9; rfl) dX1_tryInsert_83 ⟨Nat.le_of_ble_eq_true rfl, Nat.le_of_ble_eq_true rfl⟩ ⟨Nat.le_of_ble_eq_true rfl, Nat.le_of_ble_eq_true rfl⟩ (fun x10 h H locs S w => ?_)
              refine W.cs (cells' := 0) (slots' := 0) rfl rfl ?_
              exact ql_iret C S hr hlocks dX1_tryInsert_86 ⟨Nat.le_of_ble_eq_true rfl, Nat.le_of_ble_eq_true rfl⟩ w
            · replace w := ql_ifn w c9
              refine lv_bipush (v := (-5 : Int32)) C.1.1 C.1.2.1 dX1_tryInsert_70 (by decide) ?_
              exact ql_iret C S hr hlocks dX1_tryInsert_72 ⟨Nat.le_of_ble_eq_true rfl, Nat.le_of_ble_eq_true rfl⟩ w
          · replace w := ql_if w c9
            refine lv_bipush (v := (-4 : Int32)) C.1.1 C.1.2.1 dX1_tryInsert_60 (by decide) ?_
            exact ql_iret C S hr hlocks dX1_tryInsert_62 ⟨Nat.le_of_ble_eq_true rfl, Nat.le_of_ble_eq_true rfl⟩ w
        · replace w := ql_if w c9
          refine lv_bipush (v := (-3 : Int32)) C.1.1 C.1.2.1 dX1_tryInsert_48 (by decide) ?_
          exact ql_iret C S hr hlocks dX1_tryInsert_50 ⟨Nat.le_of_ble_eq_true rfl, Nat.le_of_ble_eq_true rfl⟩ w
      · replace w := ql_ifn w c9
        refine lv_bipush (v := (-2 : Int32)) C.1.1 C.1.2.1 dX1_tryInsert_38 (by decide) ?_
        exact ql_iret C S hr hlocks dX1_tryInsert_40 ⟨Nat.le_of_ble_eq_true rfl, Nat.le_of_ble_eq_true rfl⟩ w
  · replace w := ql_if w c9
    refine lv_iconst (v := (-1 : Int32)) C.1.1 C.1.2.1 dX1_tryInsert_12 (by decide) ?_
    exact ql_iret C S hr hlocks dX1_tryInsert_13 ⟨Nat.le_of_ble_eq_true rfl, Nat.le_of_ble_eq_true rfl⟩ w
def qw_X9_withDeleted (jp0 : Int64) (xp2 : Int32) (h : ql_H) (Q : Int64 → ql_H → Prop) : Prop :=
qw_X9_before jp0 xp2 h (fun j1 h =>
Q (j1 ||| ((jp0.toUInt64 >>> (((3 : Int32) * (xp2 + (1 : Int32))).toInt64.toUInt64 &&& Int64.toUInt64 63)).toInt64 <<< (((3 : Int32) * xp2).toInt64 &&& 63))) h)
set_option maxHeartbeats 4000000 in
set_option maxRecDepth 100000 in
theorem qm_X9_withDeleted (l : Launch) (hl9 : l.stackTraces = false) (D : ql_D) (h0 : ql_H) (jp0 : Int64) (xp2 : Int32) (Q : Int64 → ql_H → Prop) (X : String → ql_H → Prop) (w : qw_X9_withDeleted jp0 xp2 h0 Q) : ql_M D l yX9_withDeleted cX9_withDeleted 5 (some .long) ({ frames := 4, cells := 0, slots := 0, locals := 78 } : Room) h0 [.long jp0, .int xp2] (ql_rJ Q) X 0 0 := by
  refine ql_ofW (by decide) (Nat.le_of_ble_eq_true rfl) ?_
  intro p e s m below meth c ls C hr hlocks hnm htab S hl
  have hl : lv_has ls 5 [(0, .long jp0), (2, .int xp2)] := hl
  unfold qw_X9_withDeleted at w
  refine lv_lload_n C.1.1 C.1.2.1 dX9_withDeleted_0 rfl (lv_at hl 0 rfl) ?_
  refine lv_iconst (v := (3 : Int32)) C.1.1 C.1.2.1 dX9_withDeleted_1 (by decide) ?_
  refine lv_iload_n C.1.1 C.1.2.1 dX9_withDeleted_2 rfl (lv_at hl 1 rfl) ?_
  refine lv_iconst (v := (1 : Int32)) C.1.1 C.1.2.1 dX9_withDeleted_3 (by decide) ?_
  refine lv_iadd C.1.1 C.1.2.1 dX9_withDeleted_4 ?_
  refine lv_imul C.1.1 C.1.2.1 dX9_withDeleted_5 ?_
  refine lv_lushr C.1.1 C.1.2.1 dX9_withDeleted_6 rfl ?_
  refine lv_iconst (v := (3 : Int32)) C.1.1 C.1.2.1 dX9_withDeleted_7 (by decide) ?_
  refine lv_iload_n C.1.1 C.1.2.1 dX9_withDeleted_8 rfl (lv_at hl 1 rfl) ?_
  refine lv_imul C.1.1 C.1.2.1 dX9_withDeleted_9 ?_
  refine lv_lshl C.1.1 C.1.2.1 dX9_withDeleted_10 rfl ?_
  refine lv_lstore_n (lv' := [(3, .long ((jp0.toUInt64 >>> (((3 : Int32) * (xp2 + (1 : Int32))).toInt64.toUInt64 &&& Int64.toUInt64 63)).toInt64 <<< (((3 : Int32) * xp2).toInt64 &&& 63))), (0, .long jp0), (2, .int xp2)]) C.1.1 C.1.2.1 dX9_withDeleted_11 rfl hl (by decide) rfl (fun ls hl => ?_)
  refine lv_lload_n C.1.1 C.1.2.1 dX9_withDeleted_12 rfl (lv_at hl 1 rfl) ?_
  refine lv_iload_n C.1.1 C.1.2.1 dX9_withDeleted_13 rfl (lv_at hl 2 rfl) ?_
  refine ql_SJ (As := [.long jp0, .int xp2]) (rest := []) C S htab hlocks hl qy_X9_before qi_X9_before gw_858 (qm_X9_before l hl9 D _ jp0 xp2 _ _ w) rfl ⟨Nat.le_of_ble_eq_true rfl, Nat.le_of_ble_eq_true rfl⟩ ⟨rfl, rfl⟩ (by exact Nat.le_of_ble_eq_true rfl) rfl dX9_withDeleted_14 ⟨Nat.le_of_ble_eq_true rfl, Nat.le_of_ble_eq_true rfl⟩ ⟨Nat.le_of_ble_eq_true rfl, Nat.le_of_ble_eq_true rfl⟩ (fun j1 h H locs S w => ?_)
  refine W.cs (cells' := 0) (slots' := 0) rfl rfl ?_
  refine lv_lload_n C.1.1 C.1.2.1 dX9_withDeleted_17 rfl (lv_at hl 0 rfl) ?_
  refine lv_lor C.1.1 C.1.2.1 dX9_withDeleted_18 ?_
  exact ql_lret C S hr hlocks dX9_withDeleted_19 ⟨Nat.le_of_ble_eq_true rfl, Nat.le_of_ble_eq_true rfl⟩ w
def qw_X9_withReplaced (jp0 : Int64) (xp2 : Int32) (xp3 : Int32) (h : ql_H) (Q : Int64 → ql_H → Prop) : Prop :=
qw_X9_withDeleted jp0 xp2 h (fun j1 h =>
qw_X9_withInserted j1 xp2 xp3 h (fun j2 h =>
Q j2 h))
set_option maxHeartbeats 4000000 in
set_option maxRecDepth 100000 in
theorem qm_X9_withReplaced (l : Launch) (hl9 : l.stackTraces = false) (D : ql_D) (h0 : ql_H) (jp0 : Int64) (xp2 : Int32) (xp3 : Int32) (Q : Int64 → ql_H → Prop) (X : String → ql_H → Prop) (w : qw_X9_withReplaced jp0 xp2 xp3 h0 Q) : ql_M D l yX9_withReplaced cX9_withReplaced 4 (some .long) ({ frames := 6, cells := 0, slots := 0, locals := 111 } : Room) h0 [.long jp0, .int xp2, .int xp3] (ql_rJ Q) X 0 0 := by
  refine ql_ofW (by decide) (Nat.le_of_ble_eq_true rfl) ?_
  intro p e s m below meth c ls C hr hlocks hnm htab S hl
  have hl : lv_has ls 4 [(0, .long jp0), (2, .int xp2), (3, .int xp3)] := hl
  unfold qw_X9_withReplaced at w
  refine lv_lload_n C.1.1 C.1.2.1 dX9_withReplaced_0 rfl (lv_at hl 0 rfl) ?_
  refine lv_iload_n C.1.1 C.1.2.1 dX9_withReplaced_1 rfl (lv_at hl 1 rfl) ?_
  refine ql_SJ (As := [.long jp0, .int xp2]) (rest := []) C S htab hlocks hl qy_X9_withDeleted qi_X9_withDeleted gw_885 (qm_X9_withDeleted l hl9 D _ jp0 xp2 _ _ w) rfl ⟨Nat.le_of_ble_eq_true rfl, Nat.le_of_ble_eq_true rfl⟩ ⟨rfl, rfl⟩ (by exact Nat.le_of_ble_eq_true rfl) rfl dX9_withReplaced_2 ⟨Nat.le_of_ble_eq_true rfl, Nat.le_of_ble_eq_true rfl⟩ ⟨Nat.le_of_ble_eq_true rfl, Nat.le_of_ble_eq_true rfl⟩ (fun j1 h H locs S w => ?_)
  refine W.cs (cells' := 0) (slots' := 0) rfl rfl ?_
  refine lv_iload_n C.1.1 C.1.2.1 dX9_withReplaced_5 rfl (lv_at hl 1 rfl) ?_
  refine lv_iload_n C.1.1 C.1.2.1 dX9_withReplaced_6 rfl (lv_at hl 2 rfl) ?_
  refine ql_SJ (As := [.long j1, .int xp2, .int xp3]) (rest := []) C S htab hlocks hl qy_X9_withInserted qi_X9_withInserted gw_888 (qm_X9_withInserted l hl9 D _ j1 xp2 xp3 _ _ w) rfl ⟨Nat.le_of_ble_eq_true rfl, Nat.le_of_ble_eq_true rfl⟩ ⟨rfl, rfl⟩ (by exact Nat.le_of_ble_eq_true rfl) rfl dX9_withReplaced_7 ⟨Nat.le_of_ble_eq_true rfl, Nat.le_of_ble_eq_true rfl⟩ ⟨Nat.le_of_ble_eq_true rfl, Nat.le_of_ble_eq_true rfl⟩ (fun j2 h H locs S w => ?_)
  refine W.cs (cells' := 0) (slots' := 0) rfl rfl ?_
  exact ql_lret C S hr hlocks dX9_withReplaced_10 ⟨Nat.le_of_ble_eq_true rfl, Nat.le_of_ble_eq_true rfl⟩ w
def qw_X1_tryReplace (a0 : Nat) (xp1 : Int32) (xp2 : Int32) (xp3 : Int32) (h : ql_H) (Q : Int32 → ql_H → Prop) : Prop :=
ql_rv h (some a0) 4 fun b1 => qw_X1_clauseWithId b1 xp1 h (fun r1 h =>
if r1 = none then (Q (-1 : Int32) h) else (ql_rv h r1 6 fun b3 => qw_X3_latestText b3  h (fun j3 h =>
if xp2 < 0 then (Q (-2 : Int32) h) else (qw_X9_lengthOf j3 h (fun x5 h =>
if xp2 < x5 then (qw_X9_isNote xp3 h (fun x6 h =>
if x6 = 0 then (Q (-3 : Int32) h) else (ql_rv h (some a0) 4 fun b7 => qw_X1_isAmendable b7 r1 h (fun x7 h =>
if x7 = 0 then (Q (-4 : Int32) h) else (qw_X9_withReplaced j3 xp2 xp3 h (fun j9 h =>
ql_rv h (some a0) 4 fun b10 => qw_X1_amend b10 r1 j9 h (fun x10 h =>
Q x10 h))))))) else (Q (-2 : Int32) h))))))
set_option maxHeartbeats 4000000 in
set_option maxRecDepth 100000 in
theorem qm_X1_tryReplace (l : Launch) (hl9 : l.stackTraces = false) (D : ql_D) (h0 : ql_H) (a0 : Nat) (xp1 : Int32) (xp2 : Int32) (xp3 : Int32) (Q : Int32 → ql_H → Prop) (X : String → ql_H → Prop) (w : qw_X1_tryReplace a0 xp1 xp2 xp3 h0 Q) : ql_M D l yX1_tryReplace cX1_tryReplace 7 (some .int) ({ frames := 8, cells := 0, slots := 0, locals := 142 } : Room) h0 [.ref a0, .int xp1, .int xp2, .int xp3] (ql_rI Q) X 0 0 := by
  refine ql_ofW (by decide) (Nat.le_of_ble_eq_true rfl) ?_
  intro p e s m below meth c ls C hr hlocks hnm htab S hl
  have hl : lv_has ls 7 [(0, .ref a0), (1, .int xp1), (2, .int xp2), (3, .int xp3)] := hl
  unfold qw_X1_tryReplace at w
  refine ql_aload_n (r := (some a0)) C dX1_tryReplace_0 rfl (lv_at hl 0 rfl) ?_
  refine lv_iload_n C.1.1 C.1.2.1 dX1_tryReplace_1 rfl (lv_at hl 1 rfl) ?_
  refine ql_VR (As := [.int xp1]) (rest := []) C S htab hlocks hl qy_X1_clauseWithId qi_X1_clauseWithId qs_X1_clauseWithId gw_430 (ci := 4) rfl w (fun b w => qm_X1_clauseWithId l hl9 D _ b xp1 _ _ w) rfl ⟨Nat.le_of_ble_eq_true rfl, Nat.le_of_ble_eq_true rfl⟩ ⟨rfl, rfl⟩ (by exact Nat.le_of_ble_eq_true rfl) (fun b e9 => by cases e9; rfl) dX1_tryReplace_2 ⟨Nat.le_of_ble_eq_true rfl, Nat.le_of_ble_eq_true rfl⟩ ⟨Nat.le_of_ble_eq_true rfl, Nat.le_of_ble_eq_true rfl⟩ (fun r1 h H locs S w => ?_)
  refine W.cs (cells' := 0) (slots' := 0) rfl rfl ?_
  refine ql_astore (lv' := [(4, va_rf r1), (0, .ref a0), (1, .int xp1), (2, .int xp2), (3, .int xp3)]) C dX1_tryReplace_5 hl (by decide) rfl (fun ls hl => ?_)
  refine ql_aload (r := r1) C dX1_tryReplace_7 (lv_at hl 0 rfl) ?_
  refine ql_ifnonnull (tgt := 14) C dX1_tryReplace_9 (by decide) (fun c9 => ?_) (fun c9 => ?_)
  · replace w := ql_ifn w c9
    refine ql_aload (r := r1) C dX1_tryReplace_14 (lv_at hl 0 rfl) ?_
    refine ql_VJ (As := []) (rest := []) C S htab hlocks hl qy_X3_latestText qi_X3_latestText qs_X3_latestText gw_845 (ci := 6) rfl w (fun b w => qm_X3_latestText l hl9 D _ b _ _ w) rfl ⟨Nat.le_of_ble_eq_true rfl, Nat.le_of_ble_eq_true rfl⟩ ⟨rfl, rfl⟩ (by exact Nat.le_of_ble_eq_true rfl) (fun b e9 => by cases e9; rfl) dX1_tryReplace_16 ⟨Nat.le_of_ble_eq_true rfl, Nat.le_of_ble_eq_true rfl⟩ ⟨Nat.le_of_ble_eq_true rfl, Nat.le_of_ble_eq_true rfl⟩ (fun j3 h H locs S w => ?_)
    refine W.cs (cells' := 0) (slots' := 0) rfl rfl ?_
    refine lv_lstore (lv' := [(5, .long j3), (4, va_rf r1), (0, .ref a0), (1, .int xp1), (2, .int xp2), (3, .int xp3)]) C.1.1 C.1.2.1 dX1_tryReplace_19 hl (by decide) (by generalize r1 = z9; cases z9 <;> rfl) (fun ls hl => ?_)
    refine lv_iload_n C.1.1 C.1.2.1 dX1_tryReplace_21 rfl (lv_at hl 4 rfl) ?_
    refine lv_if_lt (tgt := 34) C.1.1 C.1.2.1 dX1_tryReplace_22 (by decide) (fun c9 => ?_) (fun c9 => ?_)
    · replace w := ql_if w c9
      refine lv_bipush (v := (-2 : Int32)) C.1.1 C.1.2.1 dX1_tryReplace_34 (by decide) ?_
      exact ql_iret C S hr hlocks dX1_tryReplace_36 ⟨Nat.le_of_ble_eq_true rfl, Nat.le_of_ble_eq_true rfl⟩ w
    · replace w := ql_ifn w c9
      refine lv_iload_n C.1.1 C.1.2.1 dX1_tryReplace_25 rfl (lv_at hl 4 rfl) ?_
      refine lv_lload C.1.1 C.1.2.1 dX1_tryReplace_26 (lv_at hl 0 rfl) ?_
      refine ql_SI (As := [.long j3]) (rest := [.int xp2]) C S htab hlocks hl qy_X9_lengthOf qi_X9_lengthOf gw_846 (qm_X9_lengthOf l hl9 D _ j3 _ _ w) rfl ⟨Nat.le_of_ble_eq_true rfl, Nat.le_of_ble_eq_true rfl⟩ ⟨rfl, rfl⟩ (by exact Nat.le_of_ble_eq_true rfl) rfl dX1_tryReplace_28 ⟨Nat.le_of_ble_eq_true rfl, Nat.le_of_ble_eq_true rfl⟩ ⟨Nat.le_of_ble_eq_true rfl, Nat.le_of_ble_eq_true rfl⟩ (fun x5 h H locs S w => ?_)
      refine W.cs (cells' := 0) (slots' := 0) rfl rfl ?_
      refine lv_icmp_lt (tgt := 37) C.1.1 C.1.2.1 dX1_tryReplace_31 (by decide) (fun c9 => ?_) (fun c9 => ?_)
      · replace w := ql_if w c9
        refine lv_iload_n C.1.1 C.1.2.1 dX1_tryReplace_37 rfl (lv_at hl 5 rfl) ?_
        refine ql_SI (As := [.int xp3]) (rest := []) C S htab hlocks hl qy_X9_isNote qi_X9_isNote gw_783 (qm_X9_isNote l hl9 D _ xp3 _ _ w) rfl ⟨Nat.le_of_ble_eq_true rfl, Nat.le_of_ble_eq_true rfl⟩ ⟨rfl, rfl⟩ (by exact Nat.le_of_ble_eq_true rfl) rfl dX1_tryReplace_38 ⟨Nat.le_of_ble_eq_true rfl, Nat.le_of_ble_eq_true rfl⟩ ⟨Nat.le_of_ble_eq_true rfl, Nat.le_of_ble_eq_true rfl⟩ (fun x6 h H locs S w => ?_)
        refine W.cs (cells' := 0) (slots' := 0) rfl rfl ?_
        refine lv_if_ne (tgt := 47) C.1.1 C.1.2.1 dX1_tryReplace_41 (by decide) (fun c9 => ?_) (fun c9 => ?_)
        · replace w := ql_ifn w c9
          refine ql_aload_n (r := (some a0)) C dX1_tryReplace_47 rfl (lv_at hl 2 rfl) ?_
          refine ql_aload (r := r1) C dX1_tryReplace_48 (lv_at hl 1 rfl) ?_
          refine ql_VI (As := [va_rf r1]) (rest := []) C S htab hlocks hl qy_X1_isAmendable qi_X1_isAmendable qs_X1_isAmendable gw_847 (ci := 4) rfl w (fun b w => qm_X1_isAmendable l hl9 D _ b r1 _ _ w) rfl ⟨Nat.le_of_ble_eq_true rfl, Nat.le_of_ble_eq_true rfl⟩ ⟨rfl, rfl⟩ (by exact Nat.le_of_ble_eq_true rfl) (fun b e9 => by cases e9; rfl) dX1_tryReplace_50 ⟨Nat.le_of_ble_eq_true rfl, Nat.le_of_ble_eq_true rfl⟩ ⟨Nat.le_of_ble_eq_true rfl, Nat.le_of_ble_eq_true rfl⟩ (fun x7 h H locs S w => ?_)
          refine W.cs (cells' := 0) (slots' := 0) rfl rfl ?_
          refine lv_if_ne (tgt := 59) C.1.1 C.1.2.1 dX1_tryReplace_53 (by decide) (fun c9 => ?_) (fun c9 => ?_)
          · replace w := ql_ifn w c9
            refine ql_aload_n (r := (some a0)) C dX1_tryReplace_59 rfl (lv_at hl 2 rfl) ?_
            refine ql_aload (r := r1) C dX1_tryReplace_60 (lv_at hl 1 rfl) ?_
            refine lv_lload C.1.1 C.1.2.1 dX1_tryReplace_62 (lv_at hl 0 rfl) ?_
            refine lv_iload_n C.1.1 C.1.2.1 dX1_tryReplace_64 rfl (lv_at hl 4 rfl) ?_
            refine lv_iload_n C.1.1 C.1.2.1 dX1_tryReplace_65 rfl (lv_at hl 5 rfl) ?_
            refine ql_SJ (As := [.long j3, .int xp2, .int xp3]) (rest := [va_rf r1, .ref a0]) C S htab hlocks hl qy_X9_withReplaced qi_X9_withReplaced gw_882 (qm_X9_withReplaced l hl9 D _ j3 xp2 xp3 _ _ w) rfl ⟨Nat.le_of_ble_eq_true rfl, Nat.le_of_ble_eq_true rfl⟩ ⟨rfl, rfl⟩ (by generalize r1 = z0; cases z0 <;> exact Nat.le_of_ble_eq_true rfl) rfl dX1_tryReplace_66 ⟨Nat.le_of_ble_eq_true rfl, Nat.le_of_ble_eq_true rfl⟩ ⟨Nat.le_of_ble_eq_true rfl, Nat.le_of_ble_eq_true rfl⟩ (fun j9 h H locs S w => ?_)
            refine W.cs (cells' := 0) (slots' := 0) rfl rfl ?_
            refine ql_VI (As := [va_rf r1, .long j9]) (rest := []) C S htab hlocks hl qy_X1_amend qi_X1_amend qs_X1_amend gw_862 (ci := 4) rfl w (fun b w => qm_X1_amend l hl9 D _ b r1 j9 _ _ w) rfl ⟨Nat.le_of_ble_eq_true rfl, Nat.le_of_ble_eq_true rfl⟩ ⟨rfl, rfl⟩ (by exact Nat.le_of_ble_eq_true rfl) (fun b e9 => by cases e9; rfl) dX1_tryReplace_69 ⟨Nat.le_of_ble_eq_true rfl, Nat.le_of_ble_eq_true rfl⟩ ⟨Nat.le_of_ble_eq_true rfl, Nat.le_of_ble_eq_true rfl⟩ (fun x10 h H locs S w => ?_)
            refine W.cs (cells' := 0) (slots' := 0) rfl rfl ?_
            exact ql_iret C S hr hlocks dX1_tryReplace_72 ⟨Nat.le_of_ble_eq_true rfl, Nat.le_of_ble_eq_true rfl⟩ w
          · replace w := ql_if w c9
            refine lv_bipush (v := (-4 : Int32)) C.1.1 C.1.2.1 dX1_tryReplace_56 (by decide) ?_
            exact ql_iret C S hr hlocks dX1_tryReplace_58 ⟨Nat.le_of_ble_eq_true rfl, Nat.le_of_ble_eq_true rfl⟩ w
        · replace w := ql_if w c9
          refine lv_bipush (v := (-3 : Int32)) C.1.1 C.1.2.1 dX1_tryReplace_44 (by decide) ?_
          exact ql_iret C S hr hlocks dX1_tryReplace_46 ⟨Nat.le_of_ble_eq_true rfl, Nat.le_of_ble_eq_true rfl⟩ w
      · replace w := ql_ifn w c9
        refine lv_bipush (v := (-2 : Int32)) C.1.1 C.1.2.1 dX1_tryReplace_34 (by decide) ?_
        exact ql_iret C S hr hlocks dX1_tryReplace_36 ⟨Nat.le_of_ble_eq_true rfl, Nat.le_of_ble_eq_true rfl⟩ w
  · replace w := ql_if w c9
    refine lv_iconst (v := (-1 : Int32)) C.1.1 C.1.2.1 dX1_tryReplace_12 (by decide) ?_
    exact ql_iret C S hr hlocks dX1_tryReplace_13 ⟨Nat.le_of_ble_eq_true rfl, Nat.le_of_ble_eq_true rfl⟩ w
def qw_X1_tryDelete (a0 : Nat) (xp1 : Int32) (xp2 : Int32) (h : ql_H) (Q : Int32 → ql_H → Prop) : Prop :=
ql_rv h (some a0) 4 fun b1 => qw_X1_clauseWithId b1 xp1 h (fun r1 h =>
if r1 = none then (Q (-1 : Int32) h) else (ql_rv h r1 6 fun b3 => qw_X3_latestText b3  h (fun j3 h =>
qw_X9_lengthOf j3 h (fun x5 h =>
if xp2 < 0 then (Q (-2 : Int32) h) else (if xp2 < x5 then (ql_rv h (some a0) 4 fun b6 => qw_X1_isAmendable b6 r1 h (fun x6 h =>
if x6 = 0 then (Q (-4 : Int32) h) else (if (1 : Int32) < x5 then (qw_X9_withDeleted j3 xp2 h (fun j8 h =>
ql_rv h (some a0) 4 fun b9 => qw_X1_amend b9 r1 j8 h (fun x9 h =>
Q x9 h))) else (Q (-5 : Int32) h)))) else (Q (-2 : Int32) h))))))
set_option maxHeartbeats 4000000 in
set_option maxRecDepth 100000 in
theorem qm_X1_tryDelete (l : Launch) (hl9 : l.stackTraces = false) (D : ql_D) (h0 : ql_H) (a0 : Nat) (xp1 : Int32) (xp2 : Int32) (Q : Int32 → ql_H → Prop) (X : String → ql_H → Prop) (w : qw_X1_tryDelete a0 xp1 xp2 h0 Q) : ql_M D l yX1_tryDelete cX1_tryDelete 7 (some .int) ({ frames := 8, cells := 0, slots := 0, locals := 140 } : Room) h0 [.ref a0, .int xp1, .int xp2] (ql_rI Q) X 0 0 := by
  refine ql_ofW (by decide) (Nat.le_of_ble_eq_true rfl) ?_
  intro p e s m below meth c ls C hr hlocks hnm htab S hl
  have hl : lv_has ls 7 [(0, .ref a0), (1, .int xp1), (2, .int xp2)] := hl
  unfold qw_X1_tryDelete at w
  refine ql_aload_n (r := (some a0)) C dX1_tryDelete_0 rfl (lv_at hl 0 rfl) ?_
  refine lv_iload_n C.1.1 C.1.2.1 dX1_tryDelete_1 rfl (lv_at hl 1 rfl) ?_
  refine ql_VR (As := [.int xp1]) (rest := []) C S htab hlocks hl qy_X1_clauseWithId qi_X1_clauseWithId qs_X1_clauseWithId gw_430 (ci := 4) rfl w (fun b w => qm_X1_clauseWithId l hl9 D _ b xp1 _ _ w) rfl ⟨Nat.le_of_ble_eq_true rfl, Nat.le_of_ble_eq_true rfl⟩ ⟨rfl, rfl⟩ (by exact Nat.le_of_ble_eq_true rfl) (fun b e9 => by cases e9; rfl) dX1_tryDelete_2 ⟨Nat.le_of_ble_eq_true rfl, Nat.le_of_ble_eq_true rfl⟩ ⟨Nat.le_of_ble_eq_true rfl, Nat.le_of_ble_eq_true rfl⟩ (fun r1 h H locs S w => ?_)
  refine W.cs (cells' := 0) (slots' := 0) rfl rfl ?_
  refine ql_astore_n (lv' := [(3, va_rf r1), (0, .ref a0), (1, .int xp1), (2, .int xp2)]) C dX1_tryDelete_5 rfl hl (by decide) rfl (fun ls hl => ?_)
  refine ql_aload_n (r := r1) C dX1_tryDelete_6 rfl (lv_at hl 0 rfl) ?_
  refine ql_ifnonnull (tgt := 12) C dX1_tryDelete_7 (by decide) (fun c9 => ?_) (fun c9 => ?_)
  · replace w := ql_ifn w c9
    refine ql_aload_n (r := r1) C dX1_tryDelete_12 rfl (lv_at hl 0 rfl) ?_
    refine ql_VJ (As := []) (rest := []) C S htab hlocks hl qy_X3_latestText qi_X3_latestText qs_X3_latestText gw_845 (ci := 6) rfl w (fun b w => qm_X3_latestText l hl9 D _ b _ _ w) rfl ⟨Nat.le_of_ble_eq_true rfl, Nat.le_of_ble_eq_true rfl⟩ ⟨rfl, rfl⟩ (by exact Nat.le_of_ble_eq_true rfl) (fun b e9 => by cases e9; rfl) dX1_tryDelete_13 ⟨Nat.le_of_ble_eq_true rfl, Nat.le_of_ble_eq_true rfl⟩ ⟨Nat.le_of_ble_eq_true rfl, Nat.le_of_ble_eq_true rfl⟩ (fun j3 h H locs S w => ?_)
    refine W.cs (cells' := 0) (slots' := 0) rfl rfl ?_
    refine lv_lstore (lv' := [(4, .long j3), (3, va_rf r1), (0, .ref a0), (1, .int xp1), (2, .int xp2)]) C.1.1 C.1.2.1 dX1_tryDelete_16 hl (by decide) (by generalize r1 = z9; cases z9 <;> rfl) (fun ls hl => ?_)
    refine lv_lload C.1.1 C.1.2.1 dX1_tryDelete_18 (lv_at hl 0 rfl) ?_
    refine ql_SI (As := [.long j3]) (rest := []) C S htab hlocks hl qy_X9_lengthOf qi_X9_lengthOf gw_846 (qm_X9_lengthOf l hl9 D _ j3 _ _ w) rfl ⟨Nat.le_of_ble_eq_true rfl, Nat.le_of_ble_eq_true rfl⟩ ⟨rfl, rfl⟩ (by exact Nat.le_of_ble_eq_true rfl) rfl dX1_tryDelete_20 ⟨Nat.le_of_ble_eq_true rfl, Nat.le_of_ble_eq_true rfl⟩ ⟨Nat.le_of_ble_eq_true rfl, Nat.le_of_ble_eq_true rfl⟩ (fun x5 h H locs S w => ?_)
    refine W.cs (cells' := 0) (slots' := 0) rfl rfl ?_
    refine lv_istore (lv' := [(6, .int x5), (4, .long j3), (3, va_rf r1), (0, .ref a0), (1, .int xp1), (2, .int xp2)]) C.1.1 C.1.2.1 dX1_tryDelete_23 hl (by decide) rfl (fun ls hl => ?_)
    refine lv_iload_n C.1.1 C.1.2.1 dX1_tryDelete_25 rfl (lv_at hl 5 rfl) ?_
    refine lv_if_lt (tgt := 35) C.1.1 C.1.2.1 dX1_tryDelete_26 (by decide) (fun c9 => ?_) (fun c9 => ?_)
    · replace w := ql_if w c9
      refine lv_bipush (v := (-2 : Int32)) C.1.1 C.1.2.1 dX1_tryDelete_35 (by decide) ?_
      exact ql_iret C S hr hlocks dX1_tryDelete_37 ⟨Nat.le_of_ble_eq_true rfl, Nat.le_of_ble_eq_true rfl⟩ w
    · replace w := ql_ifn w c9
      refine lv_iload_n C.1.1 C.1.2.1 dX1_tryDelete_29 rfl (lv_at hl 5 rfl) ?_
      refine lv_iload C.1.1 C.1.2.1 dX1_tryDelete_30 (lv_at hl 0 rfl) ?_
      refine lv_icmp_lt (tgt := 38) C.1.1 C.1.2.1 dX1_tryDelete_32 (by decide) (fun c9 => ?_) (fun c9 => ?_)
      · replace w := ql_if w c9
        refine ql_aload_n (r := (some a0)) C dX1_tryDelete_38 rfl (lv_at hl 3 rfl) ?_
        refine ql_aload_n (r := r1) C dX1_tryDelete_39 rfl (lv_at hl 2 rfl) ?_
        refine ql_VI (As := [va_rf r1]) (rest := []) C S htab hlocks hl qy_X1_isAmendable qi_X1_isAmendable qs_X1_isAmendable gw_847 (ci := 4) rfl w (fun b w => qm_X1_isAmendable l hl9 D _ b r1 _ _ w) rfl ⟨Nat.le_of_ble_eq_true rfl, Nat.le_of_ble_eq_true rfl⟩ ⟨rfl, rfl⟩ (by exact Nat.le_of_ble_eq_true rfl) (fun b e9 => by cases e9; rfl) dX1_tryDelete_40 ⟨Nat.le_of_ble_eq_true rfl, Nat.le_of_ble_eq_true rfl⟩ ⟨Nat.le_of_ble_eq_true rfl, Nat.le_of_ble_eq_true rfl⟩ (fun x6 h H locs S w => ?_)
        refine W.cs (cells' := 0) (slots' := 0) rfl rfl ?_
        refine lv_if_ne (tgt := 49) C.1.1 C.1.2.1 dX1_tryDelete_43 (by decide) (fun c9 => ?_) (fun c9 => ?_)
        · replace w := ql_ifn w c9
          refine lv_iload C.1.1 C.1.2.1 dX1_tryDelete_49 (lv_at hl 0 rfl) ?_
          refine lv_iconst (v := (1 : Int32)) C.1.1 C.1.2.1 dX1_tryDelete_51 (by decide) ?_
          refine lv_icmp_gt (tgt := 58) C.1.1 C.1.2.1 dX1_tryDelete_52 (by decide) (fun c9 => ?_) (fun c9 => ?_)
          · replace w := ql_if w c9
            refine ql_aload_n (r := (some a0)) C dX1_tryDelete_58 rfl (lv_at hl 3 rfl) ?_
            refine ql_aload_n (r := r1) C dX1_tryDelete_59 rfl (lv_at hl 2 rfl) ?_
            refine lv_lload C.1.1 C.1.2.1 dX1_tryDelete_60 (lv_at hl 1 rfl) ?_
            refine lv_iload_n C.1.1 C.1.2.1 dX1_tryDelete_62 rfl (lv_at hl 5 rfl) ?_
            refine ql_SJ (As := [.long j3, .int xp2]) (rest := [va_rf r1, .ref a0]) C S htab hlocks hl qy_X9_withDeleted qi_X9_withDeleted gw_900 (qm_X9_withDeleted l hl9 D _ j3 xp2 _ _ w) rfl ⟨Nat.le_of_ble_eq_true rfl, Nat.le_of_ble_eq_true rfl⟩ ⟨rfl, rfl⟩ (by generalize r1 = z0; cases z0 <;> exact Nat.le_of_ble_eq_true rfl) rfl dX1_tryDelete_63 ⟨Nat.le_of_ble_eq_true rfl, Nat.le_of_ble_eq_true rfl⟩ ⟨Nat.le_of_ble_eq_true rfl, Nat.le_of_ble_eq_true rfl⟩ (fun j8 h H locs S w => ?_)
            refine W.cs (cells' := 0) (slots' := 0) rfl rfl ?_
            refine ql_VI (As := [va_rf r1, .long j8]) (rest := []) C S htab hlocks hl qy_X1_amend qi_X1_amend qs_X1_amend gw_862 (ci := 4) rfl w (fun b w => qm_X1_amend l hl9 D _ b r1 j8 _ _ w) rfl ⟨Nat.le_of_ble_eq_true rfl, Nat.le_of_ble_eq_true rfl⟩ ⟨rfl, rfl⟩ (by exact Nat.le_of_ble_eq_true rfl) (fun b e9 => by cases e9; rfl) dX1_tryDelete_66 ⟨Nat.le_of_ble_eq_true rfl, Nat.le_of_ble_eq_true rfl⟩ ⟨Nat.le_of_ble_eq_true rfl, Nat.le_of_ble_eq_true rfl⟩ (fun x9 h H locs S w => ?_)
            refine W.cs (cells' := 0) (slots' := 0) rfl rfl ?_
            exact ql_iret C S hr hlocks dX1_tryDelete_69 ⟨Nat.le_of_ble_eq_true rfl, Nat.le_of_ble_eq_true rfl⟩ w
          · replace w := ql_ifn w c9
            refine lv_bipush (v := (-5 : Int32)) C.1.1 C.1.2.1 dX1_tryDelete_55 (by decide) ?_
            exact ql_iret C S hr hlocks dX1_tryDelete_57 ⟨Nat.le_of_ble_eq_true rfl, Nat.le_of_ble_eq_true rfl⟩ w
        · replace w := ql_if w c9
          refine lv_bipush (v := (-4 : Int32)) C.1.1 C.1.2.1 dX1_tryDelete_46 (by decide) ?_
          exact ql_iret C S hr hlocks dX1_tryDelete_48 ⟨Nat.le_of_ble_eq_true rfl, Nat.le_of_ble_eq_true rfl⟩ w
      · replace w := ql_ifn w c9
        refine lv_bipush (v := (-2 : Int32)) C.1.1 C.1.2.1 dX1_tryDelete_35 (by decide) ?_
        exact ql_iret C S hr hlocks dX1_tryDelete_37 ⟨Nat.le_of_ble_eq_true rfl, Nat.le_of_ble_eq_true rfl⟩ w
  · replace w := ql_if w c9
    refine lv_iconst (v := (-1 : Int32)) C.1.1 C.1.2.1 dX1_tryDelete_10 (by decide) ?_
    exact ql_iret C S hr hlocks dX1_tryDelete_11 ⟨Nat.le_of_ble_eq_true rfl, Nat.le_of_ble_eq_true rfl⟩ w
def qw_X3_lapsedBy (a0 : Nat) (xp1 : Int32) (h : ql_H) (Q : Int32 → ql_H → Prop) : Prop :=
ql_rv h (some a0) 6 fun b1 => qw_X3_hasSunset b1  h (fun x1 h =>
if x1 = 0 then (ql_nz .boolean (0 : Int32) ∧ Q (0 : Int32) h) else (ql_gI h (some a0) 6 4 fun x3 =>
if xp1 ≤ x3 then (ql_nz .boolean (0 : Int32) ∧ Q (0 : Int32) h) else (ql_nz .boolean (1 : Int32) ∧ Q (1 : Int32) h)))
set_option maxHeartbeats 4000000 in
set_option maxRecDepth 100000 in
theorem qm_X3_lapsedBy (l : Launch) (hl9 : l.stackTraces = false) (D : ql_D) (h0 : ql_H) (a0 : Nat) (xp1 : Int32) (Q : Int32 → ql_H → Prop) (X : String → ql_H → Prop) (w : qw_X3_lapsedBy a0 xp1 h0 Q) : ql_M D l yX3_lapsedBy cX3_lapsedBy 2 (some .boolean) ({ frames := 4, cells := 0, slots := 0, locals := 76 } : Room) h0 [.ref a0, .int xp1] (ql_rI Q) X 0 0 := by
  refine ql_ofW (by decide) (Nat.le_of_ble_eq_true rfl) ?_
  intro p e s m below meth c ls C hr hlocks hnm htab S hl
  have hl : lv_has ls 2 [(0, .ref a0), (1, .int xp1)] := hl
  unfold qw_X3_lapsedBy at w
  refine ql_aload_n (r := (some a0)) C dX3_lapsedBy_0 rfl (lv_at hl 0 rfl) ?_
  refine ql_VI (As := []) (rest := []) C S htab hlocks hl qy_X3_hasSunset qi_X3_hasSunset qs_X3_hasSunset gw_414 (ci := 6) rfl w (fun b w => qm_X3_hasSunset l hl9 D _ b _ _ w) rfl ⟨Nat.le_of_ble_eq_true rfl, Nat.le_of_ble_eq_true rfl⟩ ⟨rfl, rfl⟩ (by exact Nat.le_of_ble_eq_true rfl) (fun b e9 => by cases e9; rfl) dX3_lapsedBy_1 ⟨Nat.le_of_ble_eq_true rfl, Nat.le_of_ble_eq_true rfl⟩ ⟨Nat.le_of_ble_eq_true rfl, Nat.le_of_ble_eq_true rfl⟩ (fun x1 h H locs S w => ?_)
  refine W.cs (cells' := 0) (slots' := 0) rfl rfl ?_
  refine lv_if_eq (tgt := 19) C.1.1 C.1.2.1 dX3_lapsedBy_4 (by decide) (fun c9 => ?_) (fun c9 => ?_)
  · replace w := ql_if w c9
    refine lv_iconst (v := (0 : Int32)) C.1.1 C.1.2.1 dX3_lapsedBy_19 (by decide) ?_
    exact ql_zret C S hr hlocks dX3_lapsedBy_20 ⟨Nat.le_of_ble_eq_true rfl, Nat.le_of_ble_eq_true rfl⟩ w
  · replace w := ql_ifn w c9
    refine ql_aload_n (r := (some a0)) C dX3_lapsedBy_7 rfl (lv_at hl 0 rfl) ?_
    refine ql_getI C S qf_6_4 gw_141 dX3_lapsedBy_8 w (fun x3 w => ?_)
    refine lv_iload_n C.1.1 C.1.2.1 dX3_lapsedBy_11 rfl (lv_at hl 1 rfl) ?_
    refine lv_icmp_ge (tgt := 19) C.1.1 C.1.2.1 dX3_lapsedBy_12 (by decide) (fun c9 => ?_) (fun c9 => ?_)
    · replace w := ql_if w c9
      refine lv_iconst (v := (0 : Int32)) C.1.1 C.1.2.1 dX3_lapsedBy_19 (by decide) ?_
      exact ql_zret C S hr hlocks dX3_lapsedBy_20 ⟨Nat.le_of_ble_eq_true rfl, Nat.le_of_ble_eq_true rfl⟩ w
    · replace w := ql_ifn w c9
      refine lv_iconst (v := (1 : Int32)) C.1.1 C.1.2.1 dX3_lapsedBy_15 (by decide) ?_
      refine lv_goto (tgt := 20) C.1.1 C.1.2.1 dX3_lapsedBy_16 (by decide) ?_
      exact ql_zret C S hr hlocks dX3_lapsedBy_20 ⟨Nat.le_of_ble_eq_true rfl, Nat.le_of_ble_eq_true rfl⟩ w
def qw_X1_trySunset (a0 : Nat) (xp1 : Int32) (xp2 : Int32) (h : ql_H) (Q : Int32 → ql_H → Prop) : Prop :=
ql_rv h (some a0) 4 fun b1 => qw_X1_clauseWithId b1 xp1 h (fun r1 h =>
if r1 = none then (Q (-1 : Int32) h) else (ql_gI h (some a0) 4 2 fun x3 =>
if xp2 < x3 then (Q (-3 : Int32) h) else (ql_gI h (some a0) 4 2 fun x4 =>
if (xp2 - x4) ≤ (9999 : Int32) then (ql_gI h (some a0) 4 2 fun x5 =>
ql_rv h r1 6 fun b6 => qw_X3_lapsedBy b6 x5 h (fun x6 h =>
if x6 = 0 then (ql_pV h r1 6 4 (.int xp2) fun h =>
ql_gI h (some a0) 4 2 fun x8 =>
Q (xp2 - x8) h) else (Q (-4 : Int32) h))) else (Q (-3 : Int32) h))))
set_option maxHeartbeats 4000000 in
set_option maxRecDepth 100000 in
theorem qm_X1_trySunset (l : Launch) (hl9 : l.stackTraces = false) (D : ql_D) (h0 : ql_H) (a0 : Nat) (xp1 : Int32) (xp2 : Int32) (Q : Int32 → ql_H → Prop) (X : String → ql_H → Prop) (w : qw_X1_trySunset a0 xp1 xp2 h0 Q) : ql_M D l yX1_trySunset cX1_trySunset 4 (some .int) ({ frames := 6, cells := 0, slots := 0, locals := 108 } : Room) h0 [.ref a0, .int xp1, .int xp2] (ql_rI Q) X 0 0 := by
  refine ql_ofW (by decide) (Nat.le_of_ble_eq_true rfl) ?_
  intro p e s m below meth c ls C hr hlocks hnm htab S hl
  have hl : lv_has ls 4 [(0, .ref a0), (1, .int xp1), (2, .int xp2)] := hl
  unfold qw_X1_trySunset at w
  refine ql_aload_n (r := (some a0)) C dX1_trySunset_0 rfl (lv_at hl 0 rfl) ?_
  refine lv_iload_n C.1.1 C.1.2.1 dX1_trySunset_1 rfl (lv_at hl 1 rfl) ?_
  refine ql_VR (As := [.int xp1]) (rest := []) C S htab hlocks hl qy_X1_clauseWithId qi_X1_clauseWithId qs_X1_clauseWithId gw_430 (ci := 4) rfl w (fun b w => qm_X1_clauseWithId l hl9 D _ b xp1 _ _ w) rfl ⟨Nat.le_of_ble_eq_true rfl, Nat.le_of_ble_eq_true rfl⟩ ⟨rfl, rfl⟩ (by exact Nat.le_of_ble_eq_true rfl) (fun b e9 => by cases e9; rfl) dX1_trySunset_2 ⟨Nat.le_of_ble_eq_true rfl, Nat.le_of_ble_eq_true rfl⟩ ⟨Nat.le_of_ble_eq_true rfl, Nat.le_of_ble_eq_true rfl⟩ (fun r1 h H locs S w => ?_)
  refine W.cs (cells' := 0) (slots' := 0) rfl rfl ?_
  refine ql_astore_n (lv' := [(3, va_rf r1), (0, .ref a0), (1, .int xp1), (2, .int xp2)]) C dX1_trySunset_5 rfl hl (by decide) rfl (fun ls hl => ?_)
  refine ql_aload_n (r := r1) C dX1_trySunset_6 rfl (lv_at hl 0 rfl) ?_
  refine ql_ifnonnull (tgt := 12) C dX1_trySunset_7 (by decide) (fun c9 => ?_) (fun c9 => ?_)
  · replace w := ql_ifn w c9
    refine lv_iload_n C.1.1 C.1.2.1 dX1_trySunset_12 rfl (lv_at hl 3 rfl) ?_
    refine ql_aload_n (r := (some a0)) C dX1_trySunset_13 rfl (lv_at hl 1 rfl) ?_
    refine ql_getI C S qf_4_2 gw_170 dX1_trySunset_14 w (fun x3 w => ?_)
    refine lv_icmp_lt (tgt := 32) C.1.1 C.1.2.1 dX1_trySunset_17 (by decide) (fun c9 => ?_) (fun c9 => ?_)
    · replace w := ql_if w c9
      refine lv_bipush (v := (-3 : Int32)) C.1.1 C.1.2.1 dX1_trySunset_32 (by decide) ?_
      exact ql_iret C S hr hlocks dX1_trySunset_34 ⟨Nat.le_of_ble_eq_true rfl, Nat.le_of_ble_eq_true rfl⟩ w
    · replace w := ql_ifn w c9
      refine lv_iload_n C.1.1 C.1.2.1 dX1_trySunset_20 rfl (lv_at hl 3 rfl) ?_
      refine ql_aload_n (r := (some a0)) C dX1_trySunset_21 rfl (lv_at hl 1 rfl) ?_
      refine ql_getI C S qf_4_2 gw_170 dX1_trySunset_22 w (fun x4 w => ?_)
      refine lv_isub C.1.1 C.1.2.1 dX1_trySunset_25 ?_
      refine lv_sipush (v := (9999 : Int32)) C.1.1 C.1.2.1 dX1_trySunset_26 (by decide) ?_
      refine lv_icmp_le (tgt := 35) C.1.1 C.1.2.1 dX1_trySunset_29 (by decide) (fun c9 => ?_) (fun c9 => ?_)
      · replace w := ql_if w c9
        refine ql_aload_n (r := r1) C dX1_trySunset_35 rfl (lv_at hl 0 rfl) ?_
        refine ql_aload_n (r := (some a0)) C dX1_trySunset_36 rfl (lv_at hl 1 rfl) ?_
        refine ql_getI C S qf_4_2 gw_170 dX1_trySunset_37 w (fun x5 w => ?_)
        refine ql_VI (As := [.int x5]) (rest := []) C S htab hlocks hl qy_X3_lapsedBy qi_X3_lapsedBy qs_X3_lapsedBy gw_410 (ci := 6) rfl w (fun b w => qm_X3_lapsedBy l hl9 D _ b x5 _ _ w) rfl ⟨Nat.le_of_ble_eq_true rfl, Nat.le_of_ble_eq_true rfl⟩ ⟨rfl, rfl⟩ (by exact Nat.le_of_ble_eq_true rfl) (fun b e9 => by cases e9; rfl) dX1_trySunset_40 ⟨Nat.le_of_ble_eq_true rfl, Nat.le_of_ble_eq_true rfl⟩ ⟨Nat.le_of_ble_eq_true rfl, Nat.le_of_ble_eq_true rfl⟩ (fun x6 h H locs S w => ?_)
        refine W.cs (cells' := 0) (slots' := 0) rfl rfl ?_
        refine lv_if_eq (tgt := 49) C.1.1 C.1.2.1 dX1_trySunset_43 (by decide) (fun c9 => ?_) (fun c9 => ?_)
        · replace w := ql_if w c9
          refine ql_aload_n (r := r1) C dX1_trySunset_49 rfl (lv_at hl 0 rfl) ?_
          refine lv_iload_n C.1.1 C.1.2.1 dX1_trySunset_50 rfl (lv_at hl 3 rfl) ?_
          refine ql_putVN C S qf_6_4 (qn_RX1_128) (tyX3) tyX3_ok nmX3 rfl dX1_trySunset_51 (v := .int xp2) rfl rfl w (fun h H locs S w => ?_)
          refine lv_iload_n C.1.1 C.1.2.1 dX1_trySunset_54 rfl (lv_at hl 3 rfl) ?_
          refine ql_aload_n (r := (some a0)) C dX1_trySunset_55 rfl (lv_at hl 1 rfl) ?_
          refine ql_getI C S qf_4_2 gw_170 dX1_trySunset_56 w (fun x8 w => ?_)
          refine lv_isub C.1.1 C.1.2.1 dX1_trySunset_59 ?_
          exact ql_iret C S hr hlocks dX1_trySunset_60 ⟨Nat.le_of_ble_eq_true rfl, Nat.le_of_ble_eq_true rfl⟩ w
        · replace w := ql_ifn w c9
          refine lv_bipush (v := (-4 : Int32)) C.1.1 C.1.2.1 dX1_trySunset_46 (by decide) ?_
          exact ql_iret C S hr hlocks dX1_trySunset_48 ⟨Nat.le_of_ble_eq_true rfl, Nat.le_of_ble_eq_true rfl⟩ w
      · replace w := ql_ifn w c9
        refine lv_bipush (v := (-3 : Int32)) C.1.1 C.1.2.1 dX1_trySunset_32 (by decide) ?_
        exact ql_iret C S hr hlocks dX1_trySunset_34 ⟨Nat.le_of_ble_eq_true rfl, Nat.le_of_ble_eq_true rfl⟩ w
  · replace w := ql_if w c9
    refine lv_iconst (v := (-1 : Int32)) C.1.1 C.1.2.1 dX1_trySunset_10 (by decide) ?_
    exact ql_iret C S hr hlocks dX1_trySunset_11 ⟨Nat.le_of_ble_eq_true rfl, Nat.le_of_ble_eq_true rfl⟩ w
def qw_X3_countCites_2 (a0 : Nat) (Q : Int32 → ql_H → Prop) : Nat → Int32 → ql_H → Prop
  | 0, _, _ => False
  | n + 1, xl1, h =>
    ql_gR h (some a0) 6 7 fun r1 =>
    ql_len h r1 0 fun x2 =>
    if x2 ≤ xl1 then (Q xl1 h) else (ql_gR h (some a0) 6 7 fun r3 =>
    ql_lI h r3 0 xl1 fun x4 =>
    if x4 = (-1 : Int32) then (Q xl1 h) else (qw_X3_countCites_2 a0 Q n (xl1 + (1 : Int32)) h))
def qw_X3_countCites (a0 : Nat) (h : ql_H) (Q : Int32 → ql_H → Prop) : Prop :=
qw_X3_countCites_2 a0 Q ql_FU (0 : Int32) h
set_option maxHeartbeats 4000000 in
set_option maxRecDepth 100000 in
theorem qm_X3_countCites (l : Launch) (hl9 : l.stackTraces = false) (D : ql_D) (h0 : ql_H) (a0 : Nat) (Q : Int32 → ql_H → Prop) (X : String → ql_H → Prop) (w : qw_X3_countCites a0 h0 Q) : ql_M D l yX3_countCites cX3_countCites 2 (some .int) ({ frames := 2, cells := 0, slots := 0, locals := 48 } : Room) h0 [.ref a0] (ql_rI Q) X 0 0 := by
  refine ql_ofW (by decide) (Nat.le_of_ble_eq_true rfl) ?_
  intro p e s m below meth c ls C hr hlocks hnm htab S hl
  have hl : lv_has ls 2 [(0, .ref a0)] := hl
  have hB2 : ∀ n : Nat, ∀ (xl1 : Int32) (h : ql_H) (H : Heap) (locs : List Loc) (ls : Array Slot), ql_S D h0 s H locs h → lv_has ls 2 [(0, .ref a0), (1, .int xl1)] → qw_X3_countCites_2 a0 Q n xl1 h → W p l e ({ frames := 2, cells := 0, slots := 0, locals := 48 } : Room) s m ([.ref a0] : List Value).toArray below meth c H locs 0 0 (vx_MQ below (ql_Q D h0 (ql_rI Q)) (ql_X D h0 X) ([.ref a0] : List Value).toArray s 0 0 (ql_A h0)) (F0 m 2 ls []) := by
    intro n
    induction n with
    | zero => intro xl1 h H locs ls S hl w; rw [qw_X3_countCites_2] at w; exact w.elim
    | succ n ih =>
      intro xl1 h H locs ls S hl w
      rw [qw_X3_countCites_2] at w
      refine lv_iload_n C.1.1 C.1.2.1 dX3_countCites_2 rfl (lv_at hl 1 rfl) ?_
      refine ql_aload_n (r := (some a0)) C dX3_countCites_3 rfl (lv_at hl 0 rfl) ?_
      refine ql_getR C S qf_6_7 gw_146 dX3_countCites_4 w (fun r1 w => ?_)
      refine ql_alen (kd := 0) C S rfl dX3_countCites_7 w (fun x2 w => ?_)
      refine lv_icmp_ge (tgt := 27) C.1.1 C.1.2.1 dX3_countCites_8 (by decide) (fun c9 => ?_) (fun c9 => ?_)
      · replace w := ql_if w c9
        refine lv_iload_n C.1.1 C.1.2.1 dX3_countCites_27 rfl (lv_at hl 1 rfl) ?_
        exact ql_iret C S hr hlocks dX3_countCites_28 ⟨Nat.le_of_ble_eq_true rfl, Nat.le_of_ble_eq_true rfl⟩ w
      · replace w := ql_ifn w c9
        refine ql_aload_n (r := (some a0)) C dX3_countCites_11 rfl (lv_at hl 0 rfl) ?_
        refine ql_getR C S qf_6_7 gw_146 dX3_countCites_12 w (fun r3 w => ?_)
        refine lv_iload_n C.1.1 C.1.2.1 dX3_countCites_15 rfl (lv_at hl 1 rfl) ?_
        refine ql_iald C S dX3_countCites_16 w (fun x4 w => ?_)
        refine lv_iconst (v := (-1 : Int32)) C.1.1 C.1.2.1 dX3_countCites_17 (by decide) ?_
        refine lv_icmp_eq (tgt := 27) C.1.1 C.1.2.1 dX3_countCites_18 (by decide) (fun c9 => ?_) (fun c9 => ?_)
        · replace w := ql_if w c9
          refine lv_iload_n C.1.1 C.1.2.1 dX3_countCites_27 rfl (lv_at hl 1 rfl) ?_
          exact ql_iret C S hr hlocks dX3_countCites_28 ⟨Nat.le_of_ble_eq_true rfl, Nat.le_of_ble_eq_true rfl⟩ w
        · replace w := ql_ifn w c9
          refine lv_iinc (v := (xl1 + (1 : Int32))) (lv' := [(1, .int (xl1 + (1 : Int32))), (0, .ref a0)]) C.1.1 C.1.2.1 dX3_countCites_21 hl (k := 1) rfl rfl (by decide) rfl (fun ls hl => ?_)
          refine lv_goto (tgt := 2) C.1.1 C.1.2.1 dX3_countCites_24 (by decide) ?_
          exact ih (xl1 + (1 : Int32)) _ _ _ _ S (lv_sub hl [1, 0] rfl) w
  unfold qw_X3_countCites at w
  refine lv_iconst (v := (0 : Int32)) C.1.1 C.1.2.1 dX3_countCites_0 (by decide) ?_
  refine lv_istore_n (lv' := [(1, .int (0 : Int32)), (0, .ref a0)]) C.1.1 C.1.2.1 dX3_countCites_1 rfl hl (by decide) rfl (fun ls hl => ?_)
  exact hB2 ql_FU (0 : Int32) _ _ _ _ S (lv_sub hl [1, 0] rfl) w
def qw_X3_placeOfCite_7 (a0 : Nat) (Q : Int32 → ql_H → Prop) : Nat → Int32 → Int32 → Int32 → ql_H → Prop
  | 0, _, _, _, _ => False
  | n + 1, xl1, xl2, xl3, h =>
    if xl2 ≤ xl3 then (Q (-1 : Int32) h) else (ql_gR h (some a0) 6 7 fun r1 =>
    ql_lI h r1 0 xl3 fun x2 =>
    if x2 = xl1 then (Q xl3 h) else (qw_X3_placeOfCite_7 a0 Q n xl1 xl2 (xl3 + (1 : Int32)) h))
def qw_X3_placeOfCite (a0 : Nat) (xp1 : Int32) (h : ql_H) (Q : Int32 → ql_H → Prop) : Prop :=
ql_rv h (some a0) 6 fun b3 => qw_X3_countCites b3  h (fun x3 h =>
qw_X3_placeOfCite_7 a0 Q ql_FU xp1 x3 (0 : Int32) h)
set_option maxHeartbeats 4000000 in
set_option maxRecDepth 100000 in
theorem qm_X3_placeOfCite (l : Launch) (hl9 : l.stackTraces = false) (D : ql_D) (h0 : ql_H) (a0 : Nat) (xp1 : Int32) (Q : Int32 → ql_H → Prop) (X : String → ql_H → Prop) (w : qw_X3_placeOfCite a0 xp1 h0 Q) : ql_M D l yX3_placeOfCite cX3_placeOfCite 4 (some .int) ({ frames := 4, cells := 0, slots := 0, locals := 77 } : Room) h0 [.ref a0, .int xp1] (ql_rI Q) X 0 0 := by
  refine ql_ofW (by decide) (Nat.le_of_ble_eq_true rfl) ?_
  intro p e s m below meth c ls C hr hlocks hnm htab S hl
  have hl : lv_has ls 4 [(0, .ref a0), (1, .int xp1)] := hl
  have hB7 : ∀ n : Nat, ∀ (xl1 : Int32) (xl2 : Int32) (xl3 : Int32) (h : ql_H) (H : Heap) (locs : List Loc) (ls : Array Slot), ql_S D h0 s H locs h → lv_has ls 4 [(0, .ref a0), (1, .int xl1), (2, .int xl2), (3, .int xl3)] → qw_X3_placeOfCite_7 a0 Q n xl1 xl2 xl3 h → W p l e ({ frames := 4, cells := 0, slots := 0, locals := 77 } : Room) s m ([.ref a0, .int xp1] : List Value).toArray below meth c H locs 0 0 (vx_MQ below (ql_Q D h0 (ql_rI Q)) (ql_X D h0 X) ([.ref a0, .int xp1] : List Value).toArray s 0 0 (ql_A h0)) (F0 m 7 ls []) := by
    intro n
    induction n with
    | zero => intro xl1 xl2 xl3 h H locs ls S hl w; rw [qw_X3_placeOfCite_7] at w; exact w.elim
    | succ n ih =>
      intro xl1 xl2 xl3 h H locs ls S hl w
      rw [qw_X3_placeOfCite_7] at w
      refine lv_iload_n C.1.1 C.1.2.1 dX3_placeOfCite_7 rfl (lv_at hl 3 rfl) ?_
      refine lv_iload_n C.1.1 C.1.2.1 dX3_placeOfCite_8 rfl (lv_at hl 2 rfl) ?_
      refine lv_icmp_ge (tgt := 30) C.1.1 C.1.2.1 dX3_placeOfCite_9 (by decide) (fun c9 => ?_) (fun c9 => ?_)
      · replace w := ql_if w c9
        refine lv_iconst (v := (-1 : Int32)) C.1.1 C.1.2.1 dX3_placeOfCite_30 (by decide) ?_
        exact ql_iret C S hr hlocks dX3_placeOfCite_31 ⟨Nat.le_of_ble_eq_true rfl, Nat.le_of_ble_eq_true rfl⟩ w
      · replace w := ql_ifn w c9
        refine ql_aload_n (r := (some a0)) C dX3_placeOfCite_12 rfl (lv_at hl 0 rfl) ?_
        refine ql_getR C S qf_6_7 gw_146 dX3_placeOfCite_13 w (fun r1 w => ?_)
        refine lv_iload_n C.1.1 C.1.2.1 dX3_placeOfCite_16 rfl (lv_at hl 3 rfl) ?_
        refine ql_iald C S dX3_placeOfCite_17 w (fun x2 w => ?_)
        refine lv_iload_n C.1.1 C.1.2.1 dX3_placeOfCite_18 rfl (lv_at hl 1 rfl) ?_
        refine lv_icmp_ne (tgt := 24) C.1.1 C.1.2.1 dX3_placeOfCite_19 (by decide) (fun c9 => ?_) (fun c9 => ?_)
        · replace w := ql_ifn w c9
          refine lv_iinc (v := (xl3 + (1 : Int32))) (lv' := [(3, .int (xl3 + (1 : Int32))), (0, .ref a0), (1, .int xl1), (2, .int xl2)]) C.1.1 C.1.2.1 dX3_placeOfCite_24 hl (k := 3) rfl rfl (by decide) rfl (fun ls hl => ?_)
          refine lv_goto (tgt := 7) C.1.1 C.1.2.1 dX3_placeOfCite_27 (by decide) ?_
          exact ih xl1 xl2 (xl3 + (1 : Int32)) _ _ _ _ S (lv_sub hl [1, 2, 3, 0] rfl) w
        · replace w := ql_if w c9
          refine lv_iload_n C.1.1 C.1.2.1 dX3_placeOfCite_22 rfl (lv_at hl 3 rfl) ?_
          exact ql_iret C S hr hlocks dX3_placeOfCite_23 ⟨Nat.le_of_ble_eq_true rfl, Nat.le_of_ble_eq_true rfl⟩ w
  unfold qw_X3_placeOfCite at w
  refine ql_aload_n (r := (some a0)) C dX3_placeOfCite_0 rfl (lv_at hl 0 rfl) ?_
  refine ql_VI (As := []) (rest := []) C S htab hlocks hl qy_X3_countCites qi_X3_countCites qs_X3_countCites gw_446 (ci := 6) rfl w (fun b w => qm_X3_countCites l hl9 D _ b _ _ w) rfl ⟨Nat.le_of_ble_eq_true rfl, Nat.le_of_ble_eq_true rfl⟩ ⟨rfl, rfl⟩ (by exact Nat.le_of_ble_eq_true rfl) (fun b e9 => by cases e9; rfl) dX3_placeOfCite_1 ⟨Nat.le_of_ble_eq_true rfl, Nat.le_of_ble_eq_true rfl⟩ ⟨Nat.le_of_ble_eq_true rfl, Nat.le_of_ble_eq_true rfl⟩ (fun x3 h H locs S w => ?_)
  refine W.cs (cells' := 0) (slots' := 0) rfl rfl ?_
  refine lv_istore_n (lv' := [(2, .int x3), (0, .ref a0), (1, .int xp1)]) C.1.1 C.1.2.1 dX3_placeOfCite_4 rfl hl (by decide) rfl (fun ls hl => ?_)
  refine lv_iconst (v := (0 : Int32)) C.1.1 C.1.2.1 dX3_placeOfCite_5 (by decide) ?_
  refine lv_istore_n (lv' := [(3, .int (0 : Int32)), (2, .int x3), (0, .ref a0), (1, .int xp1)]) C.1.1 C.1.2.1 dX3_placeOfCite_6 rfl hl (by decide) rfl (fun ls hl => ?_)
  exact hB7 ql_FU xp1 x3 (0 : Int32) _ _ _ _ S (lv_sub hl [2, 3, 1, 0] rfl) w
def qw_X3_citesId (a0 : Nat) (xp1 : Int32) (h : ql_H) (Q : Int32 → ql_H → Prop) : Prop :=
ql_rv h (some a0) 6 fun b1 => qw_X3_placeOfCite b1 xp1 h (fun x1 h =>
if x1 = (-1 : Int32) then (ql_nz .boolean (0 : Int32) ∧ Q (0 : Int32) h) else (ql_nz .boolean (1 : Int32) ∧ Q (1 : Int32) h))
set_option maxHeartbeats 4000000 in
set_option maxRecDepth 100000 in
theorem qm_X3_citesId (l : Launch) (hl9 : l.stackTraces = false) (D : ql_D) (h0 : ql_H) (a0 : Nat) (xp1 : Int32) (Q : Int32 → ql_H → Prop) (X : String → ql_H → Prop) (w : qw_X3_citesId a0 xp1 h0 Q) : ql_M D l yX3_citesId cX3_citesId 2 (some .boolean) ({ frames := 6, cells := 0, slots := 0, locals := 108 } : Room) h0 [.ref a0, .int xp1] (ql_rI Q) X 0 0 := by
  refine ql_ofW (by decide) (Nat.le_of_ble_eq_true rfl) ?_
  intro p e s m below meth c ls C hr hlocks hnm htab S hl
  have hl : lv_has ls 2 [(0, .ref a0), (1, .int xp1)] := hl
  unfold qw_X3_citesId at w
  refine ql_aload_n (r := (some a0)) C dX3_citesId_0 rfl (lv_at hl 0 rfl) ?_
  refine lv_iload_n C.1.1 C.1.2.1 dX3_citesId_1 rfl (lv_at hl 1 rfl) ?_
  refine ql_VI (As := [.int xp1]) (rest := []) C S htab hlocks hl qy_X3_placeOfCite qi_X3_placeOfCite qs_X3_placeOfCite gw_442 (ci := 6) rfl w (fun b w => qm_X3_placeOfCite l hl9 D _ b xp1 _ _ w) rfl ⟨Nat.le_of_ble_eq_true rfl, Nat.le_of_ble_eq_true rfl⟩ ⟨rfl, rfl⟩ (by exact Nat.le_of_ble_eq_true rfl) (fun b e9 => by cases e9; rfl) dX3_citesId_2 ⟨Nat.le_of_ble_eq_true rfl, Nat.le_of_ble_eq_true rfl⟩ ⟨Nat.le_of_ble_eq_true rfl, Nat.le_of_ble_eq_true rfl⟩ (fun x1 h H locs S w => ?_)
  refine W.cs (cells' := 0) (slots' := 0) rfl rfl ?_
  refine lv_iconst (v := (-1 : Int32)) C.1.1 C.1.2.1 dX3_citesId_5 (by decide) ?_
  refine lv_icmp_eq (tgt := 13) C.1.1 C.1.2.1 dX3_citesId_6 (by decide) (fun c9 => ?_) (fun c9 => ?_)
  · replace w := ql_if w c9
    refine lv_iconst (v := (0 : Int32)) C.1.1 C.1.2.1 dX3_citesId_13 (by decide) ?_
    exact ql_zret C S hr hlocks dX3_citesId_14 ⟨Nat.le_of_ble_eq_true rfl, Nat.le_of_ble_eq_true rfl⟩ w
  · replace w := ql_ifn w c9
    refine lv_iconst (v := (1 : Int32)) C.1.1 C.1.2.1 dX3_citesId_9 (by decide) ?_
    refine lv_goto (tgt := 14) C.1.1 C.1.2.1 dX3_citesId_10 (by decide) ?_
    exact ql_zret C S hr hlocks dX3_citesId_14 ⟨Nat.le_of_ble_eq_true rfl, Nat.le_of_ble_eq_true rfl⟩ w
def qw_X3_addCite (a0 : Nat) (xp1 : Int32) (h : ql_H) (Q : ql_H → Prop) : Prop :=
ql_rv h (some a0) 6 fun b1 => qw_X3_countCites b1  h (fun x1 h =>
ql_gR h (some a0) 6 7 fun r3 =>
ql_len h r3 0 fun x4 =>
if x4 ≤ x1 then (Q h) else (ql_gR h (some a0) 6 7 fun r5 =>
ql_sI h r5 0 x1 xp1 fun h =>
Q h))
set_option maxHeartbeats 4000000 in
set_option maxRecDepth 100000 in
theorem qm_X3_addCite (l : Launch) (hl9 : l.stackTraces = false) (D : ql_D) (h0 : ql_H) (a0 : Nat) (xp1 : Int32) (Q : ql_H → Prop) (X : String → ql_H → Prop) (w : qw_X3_addCite a0 xp1 h0 Q) : ql_M D l yX3_addCite cX3_addCite 3 none ({ frames := 4, cells := 0, slots := 0, locals := 77 } : Room) h0 [.ref a0, .int xp1] (ql_rV Q) X 0 0 := by
  refine ql_ofW (by decide) (Nat.le_of_ble_eq_true rfl) ?_
  intro p e s m below meth c ls C hr hlocks hnm htab S hl
  have hl : lv_has ls 3 [(0, .ref a0), (1, .int xp1)] := hl
  unfold qw_X3_addCite at w
  refine ql_aload_n (r := (some a0)) C dX3_addCite_0 rfl (lv_at hl 0 rfl) ?_
  refine ql_VI (As := []) (rest := []) C S htab hlocks hl qy_X3_countCites qi_X3_countCites qs_X3_countCites gw_446 (ci := 6) rfl w (fun b w => qm_X3_countCites l hl9 D _ b _ _ w) rfl ⟨Nat.le_of_ble_eq_true rfl, Nat.le_of_ble_eq_true rfl⟩ ⟨rfl, rfl⟩ (by exact Nat.le_of_ble_eq_true rfl) (fun b e9 => by cases e9; rfl) dX3_addCite_1 ⟨Nat.le_of_ble_eq_true rfl, Nat.le_of_ble_eq_true rfl⟩ ⟨Nat.le_of_ble_eq_true rfl, Nat.le_of_ble_eq_true rfl⟩ (fun x1 h H locs S w => ?_)
  refine W.cs (cells' := 0) (slots' := 0) rfl rfl ?_
  refine lv_istore_n (lv' := [(2, .int x1), (0, .ref a0), (1, .int xp1)]) C.1.1 C.1.2.1 dX3_addCite_4 rfl hl (by decide) rfl (fun ls hl => ?_)
  refine lv_iload_n C.1.1 C.1.2.1 dX3_addCite_5 rfl (lv_at hl 0 rfl) ?_
  refine ql_aload_n (r := (some a0)) C dX3_addCite_6 rfl (lv_at hl 1 rfl) ?_
  refine ql_getR C S qf_6_7 gw_146 dX3_addCite_7 w (fun r3 w => ?_)
  refine ql_alen (kd := 0) C S rfl dX3_addCite_10 w (fun x4 w => ?_)
  refine lv_icmp_ge (tgt := 21) C.1.1 C.1.2.1 dX3_addCite_11 (by decide) (fun c9 => ?_) (fun c9 => ?_)
  · replace w := ql_if w c9
    exact ql_vret C S hr hlocks dX3_addCite_21 ⟨Nat.le_of_ble_eq_true rfl, Nat.le_of_ble_eq_true rfl⟩ w
  · replace w := ql_ifn w c9
    refine ql_aload_n (r := (some a0)) C dX3_addCite_14 rfl (lv_at hl 1 rfl) ?_
    refine ql_getR C S qf_6_7 gw_146 dX3_addCite_15 w (fun r5 w => ?_)
    refine lv_iload_n C.1.1 C.1.2.1 dX3_addCite_18 rfl (lv_at hl 0 rfl) ?_
    refine lv_iload_n C.1.1 C.1.2.1 dX3_addCite_19 rfl (lv_at hl 2 rfl) ?_
    refine ql_iast C S dX3_addCite_20 w (fun h H locs S w => ?_)
    exact ql_vret C S hr hlocks dX3_addCite_21 ⟨Nat.le_of_ble_eq_true rfl, Nat.le_of_ble_eq_true rfl⟩ w
def qw_X1_tryCite (a0 : Nat) (xp1 : Int32) (xp2 : Int32) (h : ql_H) (Q : Int32 → ql_H → Prop) : Prop :=
ql_rv h (some a0) 4 fun b1 => qw_X1_clauseWithId b1 xp1 h (fun r1 h =>
if r1 = none then (Q (-1 : Int32) h) else (ql_rv h (some a0) 4 fun b3 => qw_X1_clauseWithId b3 xp2 h (fun r3 h =>
if r3 = none then (Q (-1 : Int32) h) else (if xp1 = xp2 then (Q (-3 : Int32) h) else (ql_rv h r1 6 fun b5 => qw_X3_citesId b5 xp2 h (fun x5 h =>
if x5 = 0 then (ql_rv h r1 6 fun b7 => qw_X3_countCites b7  h (fun x7 h =>
if x7 < (4 : Int32) then (ql_rv h r1 6 fun b8 => qw_X3_addCite b8 xp2 h (fun h =>
ql_rv h r1 6 fun b10 => qw_X3_countCites b10  h (fun x10 h =>
Q x10 h))) else (Q (-4 : Int32) h))) else (Q (-4 : Int32) h)))))))
set_option maxHeartbeats 4000000 in
set_option maxRecDepth 100000 in
theorem qm_X1_tryCite (l : Launch) (hl9 : l.stackTraces = false) (D : ql_D) (h0 : ql_H) (a0 : Nat) (xp1 : Int32) (xp2 : Int32) (Q : Int32 → ql_H → Prop) (X : String → ql_H → Prop) (w : qw_X1_tryCite a0 xp1 xp2 h0 Q) : ql_M D l yX1_tryCite cX1_tryCite 4 (some .int) ({ frames := 8, cells := 0, slots := 0, locals := 137 } : Room) h0 [.ref a0, .int xp1, .int xp2] (ql_rI Q) X 0 0 := by
  refine ql_ofW (by decide) (Nat.le_of_ble_eq_true rfl) ?_
  intro p e s m below meth c ls C hr hlocks hnm htab S hl
  have hl : lv_has ls 4 [(0, .ref a0), (1, .int xp1), (2, .int xp2)] := hl
  unfold qw_X1_tryCite at w
  refine ql_aload_n (r := (some a0)) C dX1_tryCite_0 rfl (lv_at hl 0 rfl) ?_
  refine lv_iload_n C.1.1 C.1.2.1 dX1_tryCite_1 rfl (lv_at hl 1 rfl) ?_
  refine ql_VR (As := [.int xp1]) (rest := []) C S htab hlocks hl qy_X1_clauseWithId qi_X1_clauseWithId qs_X1_clauseWithId gw_430 (ci := 4) rfl w (fun b w => qm_X1_clauseWithId l hl9 D _ b xp1 _ _ w) rfl ⟨Nat.le_of_ble_eq_true rfl, Nat.le_of_ble_eq_true rfl⟩ ⟨rfl, rfl⟩ (by exact Nat.le_of_ble_eq_true rfl) (fun b e9 => by cases e9; rfl) dX1_tryCite_2 ⟨Nat.le_of_ble_eq_true rfl, Nat.le_of_ble_eq_true rfl⟩ ⟨Nat.le_of_ble_eq_true rfl, Nat.le_of_ble_eq_true rfl⟩ (fun r1 h H locs S w => ?_)
  refine W.cs (cells' := 0) (slots' := 0) rfl rfl ?_
  refine ql_astore_n (lv' := [(3, va_rf r1), (0, .ref a0), (1, .int xp1), (2, .int xp2)]) C dX1_tryCite_5 rfl hl (by decide) rfl (fun ls hl => ?_)
  refine ql_aload_n (r := r1) C dX1_tryCite_6 rfl (lv_at hl 0 rfl) ?_
  refine ql_ifnull (tgt := 18) C dX1_tryCite_7 (by decide) (fun c9 => ?_) (fun c9 => ?_)
  · replace w := ql_if w c9
    refine lv_iconst (v := (-1 : Int32)) C.1.1 C.1.2.1 dX1_tryCite_18 (by decide) ?_
    exact ql_iret C S hr hlocks dX1_tryCite_19 ⟨Nat.le_of_ble_eq_true rfl, Nat.le_of_ble_eq_true rfl⟩ w
  · replace w := ql_ifn w c9
    refine ql_aload_n (r := (some a0)) C dX1_tryCite_10 rfl (lv_at hl 1 rfl) ?_
    refine lv_iload_n C.1.1 C.1.2.1 dX1_tryCite_11 rfl (lv_at hl 3 rfl) ?_
    refine ql_VR (As := [.int xp2]) (rest := []) C S htab hlocks hl qy_X1_clauseWithId qi_X1_clauseWithId qs_X1_clauseWithId gw_430 (ci := 4) rfl w (fun b w => qm_X1_clauseWithId l hl9 D _ b xp2 _ _ w) rfl ⟨Nat.le_of_ble_eq_true rfl, Nat.le_of_ble_eq_true rfl⟩ ⟨rfl, rfl⟩ (by exact Nat.le_of_ble_eq_true rfl) (fun b e9 => by cases e9; rfl) dX1_tryCite_12 ⟨Nat.le_of_ble_eq_true rfl, Nat.le_of_ble_eq_true rfl⟩ ⟨Nat.le_of_ble_eq_true rfl, Nat.le_of_ble_eq_true rfl⟩ (fun r3 h H locs S w => ?_)
    refine W.cs (cells' := 0) (slots' := 0) rfl rfl ?_
    refine ql_ifnonnull (tgt := 20) C dX1_tryCite_15 (by decide) (fun c9 => ?_) (fun c9 => ?_)
    · replace w := ql_ifn w c9
      refine lv_iload_n C.1.1 C.1.2.1 dX1_tryCite_20 rfl (lv_at hl 2 rfl) ?_
      refine lv_iload_n C.1.1 C.1.2.1 dX1_tryCite_21 rfl (lv_at hl 3 rfl) ?_
      refine lv_icmp_ne (tgt := 28) C.1.1 C.1.2.1 dX1_tryCite_22 (by decide) (fun c9 => ?_) (fun c9 => ?_)
      · replace w := ql_ifn w c9
        refine ql_aload_n (r := r1) C dX1_tryCite_28 rfl (lv_at hl 0 rfl) ?_
        refine lv_iload_n C.1.1 C.1.2.1 dX1_tryCite_29 rfl (lv_at hl 3 rfl) ?_
        refine ql_VI (As := [.int xp2]) (rest := []) C S htab hlocks hl qy_X3_citesId qi_X3_citesId qs_X3_citesId gw_923 (ci := 6) rfl w (fun b w => qm_X3_citesId l hl9 D _ b xp2 _ _ w) rfl ⟨Nat.le_of_ble_eq_true rfl, Nat.le_of_ble_eq_true rfl⟩ ⟨rfl, rfl⟩ (by exact Nat.le_of_ble_eq_true rfl) (fun b e9 => by cases e9; rfl) dX1_tryCite_30 ⟨Nat.le_of_ble_eq_true rfl, Nat.le_of_ble_eq_true rfl⟩ ⟨Nat.le_of_ble_eq_true rfl, Nat.le_of_ble_eq_true rfl⟩ (fun x5 h H locs S w => ?_)
        refine W.cs (cells' := 0) (slots' := 0) rfl rfl ?_
        refine lv_if_ne (tgt := 44) C.1.1 C.1.2.1 dX1_tryCite_33 (by decide) (fun c9 => ?_) (fun c9 => ?_)
        · replace w := ql_ifn w c9
          refine lv_bipush (v := (-4 : Int32)) C.1.1 C.1.2.1 dX1_tryCite_44 (by decide) ?_
          exact ql_iret C S hr hlocks dX1_tryCite_46 ⟨Nat.le_of_ble_eq_true rfl, Nat.le_of_ble_eq_true rfl⟩ w
        · replace w := ql_if w c9
          refine ql_aload_n (r := r1) C dX1_tryCite_36 rfl (lv_at hl 0 rfl) ?_
          refine ql_VI (As := []) (rest := []) C S htab hlocks hl qy_X3_countCites qi_X3_countCites qs_X3_countCites gw_422 (ci := 6) rfl w (fun b w => qm_X3_countCites l hl9 D _ b _ _ w) rfl ⟨Nat.le_of_ble_eq_true rfl, Nat.le_of_ble_eq_true rfl⟩ ⟨rfl, rfl⟩ (by exact Nat.le_of_ble_eq_true rfl) (fun b e9 => by cases e9; rfl) dX1_tryCite_37 ⟨Nat.le_of_ble_eq_true rfl, Nat.le_of_ble_eq_true rfl⟩ ⟨Nat.le_of_ble_eq_true rfl, Nat.le_of_ble_eq_true rfl⟩ (fun x7 h H locs S w => ?_)
          refine W.cs (cells' := 0) (slots' := 0) rfl rfl ?_
          refine lv_iconst (v := (4 : Int32)) C.1.1 C.1.2.1 dX1_tryCite_40 (by decide) ?_
          refine lv_icmp_lt (tgt := 47) C.1.1 C.1.2.1 dX1_tryCite_41 (by decide) (fun c9 => ?_) (fun c9 => ?_)
          · replace w := ql_if w c9
            refine ql_aload_n (r := r1) C dX1_tryCite_47 rfl (lv_at hl 0 rfl) ?_
            refine lv_iload_n C.1.1 C.1.2.1 dX1_tryCite_48 rfl (lv_at hl 3 rfl) ?_
            refine ql_VV (As := [.int xp2]) (rest := []) C S htab hlocks hl qy_X3_addCite qi_X3_addCite qs_X3_addCite gw_927 (ci := 6) rfl w (fun b w => qm_X3_addCite l hl9 D _ b xp2 _ _ w) rfl ⟨Nat.le_of_ble_eq_true rfl, Nat.le_of_ble_eq_true rfl⟩ ⟨rfl, rfl⟩ (by exact Nat.le_of_ble_eq_true rfl) (fun b e9 => by cases e9; rfl) dX1_tryCite_49 ⟨Nat.le_of_ble_eq_true rfl, Nat.le_of_ble_eq_true rfl⟩ ⟨Nat.le_of_ble_eq_true rfl, Nat.le_of_ble_eq_true rfl⟩ (fun h H locs S w => ?_)
            refine W.cs (cells' := 0) (slots' := 0) rfl rfl ?_
            refine ql_aload_n (r := r1) C dX1_tryCite_52 rfl (lv_at hl 0 rfl) ?_
            refine ql_VI (As := []) (rest := []) C S htab hlocks hl qy_X3_countCites qi_X3_countCites qs_X3_countCites gw_422 (ci := 6) rfl w (fun b w => qm_X3_countCites l hl9 D _ b _ _ w) rfl ⟨Nat.le_of_ble_eq_true rfl, Nat.le_of_ble_eq_true rfl⟩ ⟨rfl, rfl⟩ (by exact Nat.le_of_ble_eq_true rfl) (fun b e9 => by cases e9; rfl) dX1_tryCite_53 ⟨Nat.le_of_ble_eq_true rfl, Nat.le_of_ble_eq_true rfl⟩ ⟨Nat.le_of_ble_eq_true rfl, Nat.le_of_ble_eq_true rfl⟩ (fun x10 h H locs S w => ?_)
            refine W.cs (cells' := 0) (slots' := 0) rfl rfl ?_
            exact ql_iret C S hr hlocks dX1_tryCite_56 ⟨Nat.le_of_ble_eq_true rfl, Nat.le_of_ble_eq_true rfl⟩ w
          · replace w := ql_ifn w c9
            refine lv_bipush (v := (-4 : Int32)) C.1.1 C.1.2.1 dX1_tryCite_44 (by decide) ?_
            exact ql_iret C S hr hlocks dX1_tryCite_46 ⟨Nat.le_of_ble_eq_true rfl, Nat.le_of_ble_eq_true rfl⟩ w
      · replace w := ql_if w c9
        refine lv_bipush (v := (-3 : Int32)) C.1.1 C.1.2.1 dX1_tryCite_25 (by decide) ?_
        exact ql_iret C S hr hlocks dX1_tryCite_27 ⟨Nat.le_of_ble_eq_true rfl, Nat.le_of_ble_eq_true rfl⟩ w
    · replace w := ql_if w c9
      refine lv_iconst (v := (-1 : Int32)) C.1.1 C.1.2.1 dX1_tryCite_18 (by decide) ?_
      exact ql_iret C S hr hlocks dX1_tryCite_19 ⟨Nat.le_of_ble_eq_true rfl, Nat.le_of_ble_eq_true rfl⟩ w
def qw_X3_removeCite_14 (a0 : Nat) (Q : ql_H → Prop) : Nat → Int32 → ql_H → Prop
  | 0, _, _ => False
  | n + 1, xl3, h =>
    ql_gR h (some a0) 6 7 fun r1 =>
    ql_len h r1 0 fun x2 =>
    if x2 ≤ (xl3 + (1 : Int32)) then (ql_gR h (some a0) 6 7 fun r3 =>
    ql_gR h (some a0) 6 7 fun r4 =>
    ql_len h r4 0 fun x5 =>
    ql_sI h r3 0 (x5 - (1 : Int32)) (-1 : Int32) fun h =>
    Q h) else (ql_gR h (some a0) 6 7 fun r6 =>
    ql_gR h (some a0) 6 7 fun r7 =>
    ql_lI h r7 0 (xl3 + (1 : Int32)) fun x8 =>
    ql_sI h r6 0 xl3 x8 fun h =>
    qw_X3_removeCite_14 a0 Q n (xl3 + (1 : Int32)) h)
def qw_X3_removeCite (a0 : Nat) (xp1 : Int32) (h : ql_H) (Q : ql_H → Prop) : Prop :=
ql_rv h (some a0) 6 fun b9 => qw_X3_placeOfCite b9 xp1 h (fun x9 h =>
if x9 = (-1 : Int32) then (Q h) else (qw_X3_removeCite_14 a0 Q ql_FU x9 h))
set_option maxHeartbeats 4000000 in
set_option maxRecDepth 100000 in
theorem qm_X3_removeCite (l : Launch) (hl9 : l.stackTraces = false) (D : ql_D) (h0 : ql_H) (a0 : Nat) (xp1 : Int32) (Q : ql_H → Prop) (X : String → ql_H → Prop) (w : qw_X3_removeCite a0 xp1 h0 Q) : ql_M D l yX3_removeCite cX3_removeCite 4 none ({ frames := 6, cells := 0, slots := 0, locals := 108 } : Room) h0 [.ref a0, .int xp1] (ql_rV Q) X 0 0 := by
  refine ql_ofW (by decide) (Nat.le_of_ble_eq_true rfl) ?_
  intro p e s m below meth c ls C hr hlocks hnm htab S hl
  have hl : lv_has ls 4 [(0, .ref a0), (1, .int xp1)] := hl
  have hB14 : ∀ n : Nat, ∀ (xl3 : Int32) (h : ql_H) (H : Heap) (locs : List Loc) (ls : Array Slot), ql_S D h0 s H locs h → lv_has ls 4 [(0, .ref a0), (3, .int xl3)] → qw_X3_removeCite_14 a0 Q n xl3 h → W p l e ({ frames := 6, cells := 0, slots := 0, locals := 108 } : Room) s m ([.ref a0, .int xp1] : List Value).toArray below meth c H locs 0 0 (vx_MQ below (ql_Q D h0 (ql_rV Q)) (ql_X D h0 X) ([.ref a0, .int xp1] : List Value).toArray s 0 0 (ql_A h0)) (F0 m 14 ls []) := by
    intro n
    induction n with
    | zero => intro xl3 h H locs ls S hl w; rw [qw_X3_removeCite_14] at w; exact w.elim
    | succ n ih =>
      intro xl3 h H locs ls S hl w
      rw [qw_X3_removeCite_14] at w
      refine lv_iload_n C.1.1 C.1.2.1 dX3_removeCite_14 rfl (lv_at hl 1 rfl) ?_
      refine lv_iconst (v := (1 : Int32)) C.1.1 C.1.2.1 dX3_removeCite_15 (by decide) ?_
      refine lv_iadd C.1.1 C.1.2.1 dX3_removeCite_16 ?_
      refine ql_aload_n (r := (some a0)) C dX3_removeCite_17 rfl (lv_at hl 0 rfl) ?_
      refine ql_getR C S qf_6_7 gw_146 dX3_removeCite_18 w (fun r1 w => ?_)
      refine ql_alen (kd := 0) C S rfl dX3_removeCite_21 w (fun x2 w => ?_)
      refine lv_icmp_ge (tgt := 45) C.1.1 C.1.2.1 dX3_removeCite_22 (by decide) (fun c9 => ?_) (fun c9 => ?_)
      · replace w := ql_if w c9
        refine ql_aload_n (r := (some a0)) C dX3_removeCite_45 rfl (lv_at hl 0 rfl) ?_
        refine ql_getR C S qf_6_7 gw_146 dX3_removeCite_46 w (fun r3 w => ?_)
        refine ql_aload_n (r := (some a0)) C dX3_removeCite_49 rfl (lv_at hl 0 rfl) ?_
        refine ql_getR C S qf_6_7 gw_146 dX3_removeCite_50 w (fun r4 w => ?_)
        refine ql_alen (kd := 0) C S rfl dX3_removeCite_53 w (fun x5 w => ?_)
        refine lv_iconst (v := (1 : Int32)) C.1.1 C.1.2.1 dX3_removeCite_54 (by decide) ?_
        refine lv_isub C.1.1 C.1.2.1 dX3_removeCite_55 ?_
        refine lv_iconst (v := (-1 : Int32)) C.1.1 C.1.2.1 dX3_removeCite_56 (by decide) ?_
        refine ql_iast C S dX3_removeCite_57 w (fun h H locs S w => ?_)
        exact ql_vret C S hr hlocks dX3_removeCite_58 ⟨Nat.le_of_ble_eq_true rfl, Nat.le_of_ble_eq_true rfl⟩ w
      · replace w := ql_ifn w c9
        refine ql_aload_n (r := (some a0)) C dX3_removeCite_25 rfl (lv_at hl 0 rfl) ?_
        refine ql_getR C S qf_6_7 gw_146 dX3_removeCite_26 w (fun r6 w => ?_)
        refine lv_iload_n C.1.1 C.1.2.1 dX3_removeCite_29 rfl (lv_at hl 1 rfl) ?_
        refine ql_aload_n (r := (some a0)) C dX3_removeCite_30 rfl (lv_at hl 0 rfl) ?_
        refine ql_getR C S qf_6_7 gw_146 dX3_removeCite_31 w (fun r7 w => ?_)
        refine lv_iload_n C.1.1 C.1.2.1 dX3_removeCite_34 rfl (lv_at hl 1 rfl) ?_
        refine lv_iconst (v := (1 : Int32)) C.1.1 C.1.2.1 dX3_removeCite_35 (by decide) ?_
        refine lv_iadd C.1.1 C.1.2.1 dX3_removeCite_36 ?_
        refine ql_iald C S dX3_removeCite_37 w (fun x8 w => ?_)
        refine ql_iast C S dX3_removeCite_38 w (fun h H locs S w => ?_)
        refine lv_iinc (v := (xl3 + (1 : Int32))) (lv' := [(3, .int (xl3 + (1 : Int32))), (0, .ref a0)]) C.1.1 C.1.2.1 dX3_removeCite_39 hl (k := 1) rfl rfl (by decide) rfl (fun ls hl => ?_)
        refine lv_goto (tgt := 14) C.1.1 C.1.2.1 dX3_removeCite_42 (by decide) ?_
        exact ih (xl3 + (1 : Int32)) _ _ _ _ S (lv_sub hl [1, 0] rfl) w
  unfold qw_X3_removeCite at w
  refine ql_aload_n (r := (some a0)) C dX3_removeCite_0 rfl (lv_at hl 0 rfl) ?_
  refine lv_iload_n C.1.1 C.1.2.1 dX3_removeCite_1 rfl (lv_at hl 1 rfl) ?_
  refine ql_VI (As := [.int xp1]) (rest := []) C S htab hlocks hl qy_X3_placeOfCite qi_X3_placeOfCite qs_X3_placeOfCite gw_442 (ci := 6) rfl w (fun b w => qm_X3_placeOfCite l hl9 D _ b xp1 _ _ w) rfl ⟨Nat.le_of_ble_eq_true rfl, Nat.le_of_ble_eq_true rfl⟩ ⟨rfl, rfl⟩ (by exact Nat.le_of_ble_eq_true rfl) (fun b e9 => by cases e9; rfl) dX3_removeCite_2 ⟨Nat.le_of_ble_eq_true rfl, Nat.le_of_ble_eq_true rfl⟩ ⟨Nat.le_of_ble_eq_true rfl, Nat.le_of_ble_eq_true rfl⟩ (fun x9 h H locs S w => ?_)
  refine W.cs (cells' := 0) (slots' := 0) rfl rfl ?_
  refine lv_istore_n (lv' := [(2, .int x9), (0, .ref a0), (1, .int xp1)]) C.1.1 C.1.2.1 dX3_removeCite_5 rfl hl (by decide) rfl (fun ls hl => ?_)
  refine lv_iload_n C.1.1 C.1.2.1 dX3_removeCite_6 rfl (lv_at hl 0 rfl) ?_
  refine lv_iconst (v := (-1 : Int32)) C.1.1 C.1.2.1 dX3_removeCite_7 (by decide) ?_
  refine lv_icmp_ne (tgt := 12) C.1.1 C.1.2.1 dX3_removeCite_8 (by decide) (fun c9 => ?_) (fun c9 => ?_)
  · replace w := ql_ifn w c9
    refine lv_iload_n C.1.1 C.1.2.1 dX3_removeCite_12 rfl (lv_at hl 0 rfl) ?_
    refine lv_istore_n (lv' := [(3, .int x9), (2, .int x9), (0, .ref a0), (1, .int xp1)]) C.1.1 C.1.2.1 dX3_removeCite_13 rfl hl (by decide) rfl (fun ls hl => ?_)
    exact hB14 ql_FU x9 _ _ _ _ S (lv_sub hl [2, 0] rfl) w
  · replace w := ql_if w c9
    exact ql_vret C S hr hlocks dX3_removeCite_11 ⟨Nat.le_of_ble_eq_true rfl, Nat.le_of_ble_eq_true rfl⟩ w
def qw_X1_tryUncite (a0 : Nat) (xp1 : Int32) (xp2 : Int32) (h : ql_H) (Q : Int32 → ql_H → Prop) : Prop :=
ql_rv h (some a0) 4 fun b1 => qw_X1_clauseWithId b1 xp1 h (fun r1 h =>
if r1 = none then (Q (-1 : Int32) h) else (ql_rv h r1 6 fun b3 => qw_X3_citesId b3 xp2 h (fun x3 h =>
if x3 = 0 then (Q (-1 : Int32) h) else (ql_rv h r1 6 fun b4 => qw_X3_removeCite b4 xp2 h (fun h =>
ql_rv h r1 6 fun b6 => qw_X3_countCites b6  h (fun x6 h =>
Q x6 h))))))
set_option maxHeartbeats 4000000 in
set_option maxRecDepth 100000 in
theorem qm_X1_tryUncite (l : Launch) (hl9 : l.stackTraces = false) (D : ql_D) (h0 : ql_H) (a0 : Nat) (xp1 : Int32) (xp2 : Int32) (Q : Int32 → ql_H → Prop) (X : String → ql_H → Prop) (w : qw_X1_tryUncite a0 xp1 xp2 h0 Q) : ql_M D l yX1_tryUncite cX1_tryUncite 4 (some .int) ({ frames := 8, cells := 0, slots := 0, locals := 139 } : Room) h0 [.ref a0, .int xp1, .int xp2] (ql_rI Q) X 0 0 := by
  refine ql_ofW (by decide) (Nat.le_of_ble_eq_true rfl) ?_
  intro p e s m below meth c ls C hr hlocks hnm htab S hl
  have hl : lv_has ls 4 [(0, .ref a0), (1, .int xp1), (2, .int xp2)] := hl
  unfold qw_X1_tryUncite at w
  refine ql_aload_n (r := (some a0)) C dX1_tryUncite_0 rfl (lv_at hl 0 rfl) ?_
  refine lv_iload_n C.1.1 C.1.2.1 dX1_tryUncite_1 rfl (lv_at hl 1 rfl) ?_
  refine ql_VR (As := [.int xp1]) (rest := []) C S htab hlocks hl qy_X1_clauseWithId qi_X1_clauseWithId qs_X1_clauseWithId gw_430 (ci := 4) rfl w (fun b w => qm_X1_clauseWithId l hl9 D _ b xp1 _ _ w) rfl ⟨Nat.le_of_ble_eq_true rfl, Nat.le_of_ble_eq_true rfl⟩ ⟨rfl, rfl⟩ (by exact Nat.le_of_ble_eq_true rfl) (fun b e9 => by cases e9; rfl) dX1_tryUncite_2 ⟨Nat.le_of_ble_eq_true rfl, Nat.le_of_ble_eq_true rfl⟩ ⟨Nat.le_of_ble_eq_true rfl, Nat.le_of_ble_eq_true rfl⟩ (fun r1 h H locs S w => ?_)
  refine W.cs (cells' := 0) (slots' := 0) rfl rfl ?_
  refine ql_astore_n (lv' := [(3, va_rf r1), (0, .ref a0), (1, .int xp1), (2, .int xp2)]) C dX1_tryUncite_5 rfl hl (by decide) rfl (fun ls hl => ?_)
  refine ql_aload_n (r := r1) C dX1_tryUncite_6 rfl (lv_at hl 0 rfl) ?_
  refine ql_ifnull (tgt := 18) C dX1_tryUncite_7 (by decide) (fun c9 => ?_) (fun c9 => ?_)
  · replace w := ql_if w c9
    refine lv_iconst (v := (-1 : Int32)) C.1.1 C.1.2.1 dX1_tryUncite_18 (by decide) ?_
    exact ql_iret C S hr hlocks dX1_tryUncite_19 ⟨Nat.le_of_ble_eq_true rfl, Nat.le_of_ble_eq_true rfl⟩ w
  · replace w := ql_ifn w c9
    refine ql_aload_n (r := r1) C dX1_tryUncite_10 rfl (lv_at hl 0 rfl) ?_
    refine lv_iload_n C.1.1 C.1.2.1 dX1_tryUncite_11 rfl (lv_at hl 3 rfl) ?_
    refine ql_VI (As := [.int xp2]) (rest := []) C S htab hlocks hl qy_X3_citesId qi_X3_citesId qs_X3_citesId gw_923 (ci := 6) rfl w (fun b w => qm_X3_citesId l hl9 D _ b xp2 _ _ w) rfl ⟨Nat.le_of_ble_eq_true rfl, Nat.le_of_ble_eq_true rfl⟩ ⟨rfl, rfl⟩ (by exact Nat.le_of_ble_eq_true rfl) (fun b e9 => by cases e9; rfl) dX1_tryUncite_12 ⟨Nat.le_of_ble_eq_true rfl, Nat.le_of_ble_eq_true rfl⟩ ⟨Nat.le_of_ble_eq_true rfl, Nat.le_of_ble_eq_true rfl⟩ (fun x3 h H locs S w => ?_)
    refine W.cs (cells' := 0) (slots' := 0) rfl rfl ?_
    refine lv_if_ne (tgt := 20) C.1.1 C.1.2.1 dX1_tryUncite_15 (by decide) (fun c9 => ?_) (fun c9 => ?_)
    · replace w := ql_ifn w c9
      refine ql_aload_n (r := r1) C dX1_tryUncite_20 rfl (lv_at hl 0 rfl) ?_
      refine lv_iload_n C.1.1 C.1.2.1 dX1_tryUncite_21 rfl (lv_at hl 3 rfl) ?_
      refine ql_VV (As := [.int xp2]) (rest := []) C S htab hlocks hl qy_X3_removeCite qi_X3_removeCite qs_X3_removeCite gw_438 (ci := 6) rfl w (fun b w => qm_X3_removeCite l hl9 D _ b xp2 _ _ w) rfl ⟨Nat.le_of_ble_eq_true rfl, Nat.le_of_ble_eq_true rfl⟩ ⟨rfl, rfl⟩ (by exact Nat.le_of_ble_eq_true rfl) (fun b e9 => by cases e9; rfl) dX1_tryUncite_22 ⟨Nat.le_of_ble_eq_true rfl, Nat.le_of_ble_eq_true rfl⟩ ⟨Nat.le_of_ble_eq_true rfl, Nat.le_of_ble_eq_true rfl⟩ (fun h H locs S w => ?_)
      refine W.cs (cells' := 0) (slots' := 0) rfl rfl ?_
      refine ql_aload_n (r := r1) C dX1_tryUncite_25 rfl (lv_at hl 0 rfl) ?_
      refine ql_VI (As := []) (rest := []) C S htab hlocks hl qy_X3_countCites qi_X3_countCites qs_X3_countCites gw_422 (ci := 6) rfl w (fun b w => qm_X3_countCites l hl9 D _ b _ _ w) rfl ⟨Nat.le_of_ble_eq_true rfl, Nat.le_of_ble_eq_true rfl⟩ ⟨rfl, rfl⟩ (by exact Nat.le_of_ble_eq_true rfl) (fun b e9 => by cases e9; rfl) dX1_tryUncite_26 ⟨Nat.le_of_ble_eq_true rfl, Nat.le_of_ble_eq_true rfl⟩ ⟨Nat.le_of_ble_eq_true rfl, Nat.le_of_ble_eq_true rfl⟩ (fun x6 h H locs S w => ?_)
      refine W.cs (cells' := 0) (slots' := 0) rfl rfl ?_
      exact ql_iret C S hr hlocks dX1_tryUncite_29 ⟨Nat.le_of_ble_eq_true rfl, Nat.le_of_ble_eq_true rfl⟩ w
    · replace w := ql_if w c9
      refine lv_iconst (v := (-1 : Int32)) C.1.1 C.1.2.1 dX1_tryUncite_18 (by decide) ?_
      exact ql_iret C S hr hlocks dX1_tryUncite_19 ⟨Nat.le_of_ble_eq_true rfl, Nat.le_of_ble_eq_true rfl⟩ w
def qw_X1_countClauses_36 (a0 : Nat) (Q : Int32 → ql_H → Prop) (k13 : Int32 → Option Nat → Int32 → Int32 → ql_H → Prop) (xl1 : Int32) (rl2 : Option Nat) (xl3 : Int32) (xl4 : Int32) (h : ql_H) : Prop :=
k13 xl1 rl2 xl3 (xl4 + (1 : Int32)) h
def qw_X1_countClauses_13 (a0 : Nat) (Q : Int32 → ql_H → Prop) : Nat → Int32 → Option Nat → Int32 → Int32 → ql_H → Prop
  | 0, _, _, _, _, _ => False
  | n + 1, xl1, rl2, xl3, xl4, h =>
    if xl3 ≤ xl4 then (Q xl1 h) else (ql_lR h rl2 5 xl4 fun r1 =>
    ql_gI h r1 6 0 fun x2 =>
    if x2 = 0 then (qw_X1_countClauses_36 a0 Q (qw_X1_countClauses_13 a0 Q n) xl1 rl2 xl3 xl4 h) else (qw_X1_countClauses_36 a0 Q (qw_X1_countClauses_13 a0 Q n) (xl1 + (1 : Int32)) rl2 xl3 xl4 h))
def qw_X1_countClauses (a0 : Nat) (h : ql_H) (Q : Int32 → ql_H → Prop) : Prop :=
ql_gR h (some a0) 4 0 fun r3 =>
ql_len h r3 5 fun x4 =>
qw_X1_countClauses_13 a0 Q ql_FU (0 : Int32) r3 x4 (0 : Int32) h
set_option maxHeartbeats 4000000 in
set_option maxRecDepth 100000 in
theorem qm_X1_countClauses (l : Launch) (hl9 : l.stackTraces = false) (D : ql_D) (h0 : ql_H) (a0 : Nat) (Q : Int32 → ql_H → Prop) (X : String → ql_H → Prop) (w : qw_X1_countClauses a0 h0 Q) : ql_M D l yX1_countClauses cX1_countClauses 6 (some .int) ({ frames := 2, cells := 0, slots := 0, locals := 48 } : Room) h0 [.ref a0] (ql_rI Q) X 0 0 := by
  refine ql_ofW (by decide) (Nat.le_of_ble_eq_true rfl) ?_
  intro p e s m below meth c ls C hr hlocks hnm htab S hl
  have hl : lv_has ls 6 [(0, .ref a0)] := hl
  have hB36 : ∀ (k13 : Int32 → Option Nat → Int32 → Int32 → ql_H → Prop) (hk13 : ∀ (xl1 : Int32) (rl2 : Option Nat) (xl3 : Int32) (xl4 : Int32) (h : ql_H) (H : Heap) (locs : List Loc) (ls : Array Slot), ql_S D h0 s H locs h → lv_has ls 6 [(1, .int xl1), (2, va_rf rl2), (3, .int xl3), (4, .int xl4)] → k13 xl1 rl2 xl3 xl4 h → W p l e ({ frames := 2, cells := 0, slots := 0, locals := 48 } : Room) s m ([.ref a0] : List Value).toArray below meth c H locs 0 0 (vx_MQ below (ql_Q D h0 (ql_rI Q)) (ql_X D h0 X) ([.ref a0] : List Value).toArray s 0 0 (ql_A h0)) (F0 m 13 ls [])) , ∀ (xl1 : Int32) (rl2 : Option Nat) (xl3 : Int32) (xl4 : Int32) (h : ql_H) (H : Heap) (locs : List Loc) (ls : Array Slot), ql_S D h0 s H locs h → lv_has ls 6 [(1, .int xl1), (2, va_rf rl2), (3, .int xl3), (4, .int xl4)] → qw_X1_countClauses_36 a0 Q k13 xl1 rl2 xl3 xl4 h → W p l e ({ frames := 2, cells := 0, slots := 0, locals := 48 } : Room) s m ([.ref a0] : List Value).toArray below meth c H locs 0 0 (vx_MQ below (ql_Q D h0 (ql_rI Q)) (ql_X D h0 X) ([.ref a0] : List Value).toArray s 0 0 (ql_A h0)) (F0 m 36 ls []) := by
    intro k13 hk13 xl1 rl2 xl3 xl4 h H locs ls S hl w
    unfold qw_X1_countClauses_36 at w
    refine lv_iinc (v := (xl4 + (1 : Int32))) (lv' := [(4, .int (xl4 + (1 : Int32))), (1, .int xl1), (2, va_rf rl2), (3, .int xl3)]) C.1.1 C.1.2.1 dX1_countClauses_36 hl (k := 3) rfl rfl (by decide) rfl (fun ls hl => ?_)
    refine lv_goto (tgt := 13) C.1.1 C.1.2.1 dX1_countClauses_39 (by decide) ?_
    exact hk13 xl1 rl2 xl3 (xl4 + (1 : Int32)) _ _ _ _ S (lv_sub hl [1, 2, 3, 0] rfl) w
  have hB13 : ∀ n : Nat, ∀ (xl1 : Int32) (rl2 : Option Nat) (xl3 : Int32) (xl4 : Int32) (h : ql_H) (H : Heap) (locs : List Loc) (ls : Array Slot), ql_S D h0 s H locs h → lv_has ls 6 [(1, .int xl1), (2, va_rf rl2), (3, .int xl3), (4, .int xl4)] → qw_X1_countClauses_13 a0 Q n xl1 rl2 xl3 xl4 h → W p l e ({ frames := 2, cells := 0, slots := 0, locals := 48 } : Room) s m ([.ref a0] : List Value).toArray below meth c H locs 0 0 (vx_MQ below (ql_Q D h0 (ql_rI Q)) (ql_X D h0 X) ([.ref a0] : List Value).toArray s 0 0 (ql_A h0)) (F0 m 13 ls []) := by
    intro n
    induction n with
    | zero => intro xl1 rl2 xl3 xl4 h H locs ls S hl w; rw [qw_X1_countClauses_13] at w; exact w.elim
    | succ n ih =>
      intro xl1 rl2 xl3 xl4 h H locs ls S hl w
      rw [qw_X1_countClauses_13] at w
      refine lv_iload C.1.1 C.1.2.1 dX1_countClauses_13 (lv_at hl 3 rfl) ?_
      refine lv_iload_n C.1.1 C.1.2.1 dX1_countClauses_15 rfl (lv_at hl 2 rfl) ?_
      refine lv_icmp_ge (tgt := 42) C.1.1 C.1.2.1 dX1_countClauses_16 (by decide) (fun c9 => ?_) (fun c9 => ?_)
      · replace w := ql_if w c9
        refine lv_iload_n C.1.1 C.1.2.1 dX1_countClauses_42 rfl (lv_at hl 0 rfl) ?_
        exact ql_iret C S hr hlocks dX1_countClauses_43 ⟨Nat.le_of_ble_eq_true rfl, Nat.le_of_ble_eq_true rfl⟩ w
      · replace w := ql_ifn w c9
        refine ql_aload_n (r := rl2) C dX1_countClauses_19 rfl (lv_at hl 1 rfl) ?_
        refine lv_iload C.1.1 C.1.2.1 dX1_countClauses_20 (lv_at hl 3 rfl) ?_
        refine ql_aald (kd := 5) C S rfl rfl dX1_countClauses_22 w (fun r1 w => ?_)
        refine ql_astore (lv' := [(5, va_rf r1), (1, .int xl1), (2, va_rf rl2), (3, .int xl3), (4, .int xl4)]) C dX1_countClauses_23 hl (by decide) rfl (fun ls hl => ?_)
        refine ql_aload (r := r1) C dX1_countClauses_25 (lv_at hl 0 rfl) ?_
        refine ql_getIN C S qf_6_0 (qn_RX1_144) dX1_countClauses_27 w (fun x2 w => ?_)
        refine lv_if_eq (tgt := 36) C.1.1 C.1.2.1 dX1_countClauses_30 (by decide) (fun c9 => ?_) (fun c9 => ?_)
        · replace w := ql_if w c9
          exact hB36 (qw_X1_countClauses_13 a0 Q n) ih xl1 rl2 xl3 xl4 _ _ _ _ S (lv_sub hl [1, 2, 3, 4] rfl) w
        · replace w := ql_ifn w c9
          refine lv_iinc (v := (xl1 + (1 : Int32))) (lv' := [(1, .int (xl1 + (1 : Int32))), (5, va_rf r1), (2, va_rf rl2), (3, .int xl3), (4, .int xl4)]) C.1.1 C.1.2.1 dX1_countClauses_33 hl (k := 1) rfl rfl (by decide) rfl (fun ls hl => ?_)
          exact hB36 (qw_X1_countClauses_13 a0 Q n) ih (xl1 + (1 : Int32)) rl2 xl3 xl4 _ _ _ _ S (lv_sub hl [0, 2, 3, 4] rfl) w
  unfold qw_X1_countClauses at w
  refine lv_iconst (v := (0 : Int32)) C.1.1 C.1.2.1 dX1_countClauses_0 (by decide) ?_
  refine lv_istore_n (lv' := [(1, .int (0 : Int32)), (0, .ref a0)]) C.1.1 C.1.2.1 dX1_countClauses_1 rfl hl (by decide) rfl (fun ls hl => ?_)
  refine ql_aload_n (r := (some a0)) C dX1_countClauses_2 rfl (lv_at hl 1 rfl) ?_
  refine ql_getR C S qf_4_0 gw_166 dX1_countClauses_3 w (fun r3 w => ?_)
  refine ql_astore_n (lv' := [(2, va_rf r3), (1, .int (0 : Int32)), (0, .ref a0)]) C dX1_countClauses_6 rfl hl (by decide) rfl (fun ls hl => ?_)
  refine ql_aload_n (r := r3) C dX1_countClauses_7 rfl (lv_at hl 0 rfl) ?_
  refine ql_alen (kd := 5) C S rfl dX1_countClauses_8 w (fun x4 w => ?_)
  refine lv_istore_n (lv' := [(3, .int x4), (2, va_rf r3), (1, .int (0 : Int32)), (0, .ref a0)]) C.1.1 C.1.2.1 dX1_countClauses_9 rfl hl (by decide) (by generalize r3 = z9; cases z9 <;> rfl) (fun ls hl => ?_)
  refine lv_iconst (v := (0 : Int32)) C.1.1 C.1.2.1 dX1_countClauses_10 (by decide) ?_
  refine lv_istore (lv' := [(4, .int (0 : Int32)), (3, .int x4), (2, va_rf r3), (1, .int (0 : Int32)), (0, .ref a0)]) C.1.1 C.1.2.1 dX1_countClauses_11 hl (by decide) rfl (fun ls hl => ?_)
  exact hB13 ql_FU (0 : Int32) r3 x4 (0 : Int32) _ _ _ _ S (lv_sub hl [3, 2, 1, 0] rfl) w
def qw_X1_tryRepeal (a0 : Nat) (xp1 : Int32) (h : ql_H) (Q : Int32 → ql_H → Prop) : Prop :=
ql_rv h (some a0) 4 fun b1 => qw_X1_clauseWithId b1 xp1 h (fun r1 h =>
if r1 = none then (Q (-1 : Int32) h) else (ql_pV h r1 6 0 (.int (0 : Int32)) fun h =>
ql_gI h (some a0) 4 5 fun x3 =>
ql_pV h (some a0) 4 5 (.int (x3 + (1 : Int32))) fun h =>
ql_rv h (some a0) 4 fun b4 => qw_X1_countClauses b4  h (fun x4 h =>
Q x4 h)))
set_option maxHeartbeats 4000000 in
set_option maxRecDepth 100000 in
theorem qm_X1_tryRepeal (l : Launch) (hl9 : l.stackTraces = false) (D : ql_D) (h0 : ql_H) (a0 : Nat) (xp1 : Int32) (Q : Int32 → ql_H → Prop) (X : String → ql_H → Prop) (w : qw_X1_tryRepeal a0 xp1 h0 Q) : ql_M D l yX1_tryRepeal cX1_tryRepeal 3 (some .int) ({ frames := 6, cells := 0, slots := 0, locals := 108 } : Room) h0 [.ref a0, .int xp1] (ql_rI Q) X 0 0 := by
  refine ql_ofW (by decide) (Nat.le_of_ble_eq_true rfl) ?_
  intro p e s m below meth c ls C hr hlocks hnm htab S hl
  have hl : lv_has ls 3 [(0, .ref a0), (1, .int xp1)] := hl
  unfold qw_X1_tryRepeal at w
  refine ql_aload_n (r := (some a0)) C dX1_tryRepeal_0 rfl (lv_at hl 0 rfl) ?_
  refine lv_iload_n C.1.1 C.1.2.1 dX1_tryRepeal_1 rfl (lv_at hl 1 rfl) ?_
  refine ql_VR (As := [.int xp1]) (rest := []) C S htab hlocks hl qy_X1_clauseWithId qi_X1_clauseWithId qs_X1_clauseWithId gw_430 (ci := 4) rfl w (fun b w => qm_X1_clauseWithId l hl9 D _ b xp1 _ _ w) rfl ⟨Nat.le_of_ble_eq_true rfl, Nat.le_of_ble_eq_true rfl⟩ ⟨rfl, rfl⟩ (by exact Nat.le_of_ble_eq_true rfl) (fun b e9 => by cases e9; rfl) dX1_tryRepeal_2 ⟨Nat.le_of_ble_eq_true rfl, Nat.le_of_ble_eq_true rfl⟩ ⟨Nat.le_of_ble_eq_true rfl, Nat.le_of_ble_eq_true rfl⟩ (fun r1 h H locs S w => ?_)
  refine W.cs (cells' := 0) (slots' := 0) rfl rfl ?_
  refine ql_astore_n (lv' := [(2, va_rf r1), (0, .ref a0), (1, .int xp1)]) C dX1_tryRepeal_5 rfl hl (by decide) rfl (fun ls hl => ?_)
  refine ql_aload_n (r := r1) C dX1_tryRepeal_6 rfl (lv_at hl 0 rfl) ?_
  refine ql_ifnonnull (tgt := 12) C dX1_tryRepeal_7 (by decide) (fun c9 => ?_) (fun c9 => ?_)
  · replace w := ql_ifn w c9
    refine ql_aload_n (r := r1) C dX1_tryRepeal_12 rfl (lv_at hl 0 rfl) ?_
    refine lv_iconst (v := (0 : Int32)) C.1.1 C.1.2.1 dX1_tryRepeal_13 (by decide) ?_
    refine ql_putVN C S qf_6_0 (qn_RX1_144) (tyX3) tyX3_ok nmX3 rfl dX1_tryRepeal_14 (v := .int (0 : Int32)) rfl rfl w (fun h H locs S w => ?_)
    refine ql_aload_n (r := (some a0)) C dX1_tryRepeal_17 rfl (lv_at hl 1 rfl) ?_
    refine lv_dup C.1.1 C.1.2.1 dX1_tryRepeal_18 (ql_catR _) ?_
    refine ql_getI C S qf_4_5 gw_176 dX1_tryRepeal_19 w (fun x3 w => ?_)
    refine lv_iconst (v := (1 : Int32)) C.1.1 C.1.2.1 dX1_tryRepeal_22 (by decide) ?_
    refine lv_iadd C.1.1 C.1.2.1 dX1_tryRepeal_23 ?_
    refine ql_putV C S qf_4_5 gw_176 (tyX1) tyX1_ok nmX1 rfl dX1_tryRepeal_24 (v := .int (x3 + (1 : Int32))) rfl rfl w (fun h H locs S w => ?_)
    refine ql_aload_n (r := (some a0)) C dX1_tryRepeal_27 rfl (lv_at hl 1 rfl) ?_
    refine ql_VI (As := []) (rest := []) C S htab hlocks hl qy_X1_countClauses qi_X1_countClauses qs_X1_countClauses gw_953 (ci := 4) rfl w (fun b w => qm_X1_countClauses l hl9 D _ b _ _ w) rfl ⟨Nat.le_of_ble_eq_true rfl, Nat.le_of_ble_eq_true rfl⟩ ⟨rfl, rfl⟩ (by exact Nat.le_of_ble_eq_true rfl) (fun b e9 => by cases e9; rfl) dX1_tryRepeal_28 ⟨Nat.le_of_ble_eq_true rfl, Nat.le_of_ble_eq_true rfl⟩ ⟨Nat.le_of_ble_eq_true rfl, Nat.le_of_ble_eq_true rfl⟩ (fun x4 h H locs S w => ?_)
    refine W.cs (cells' := 0) (slots' := 0) rfl rfl ?_
    exact ql_iret C S hr hlocks dX1_tryRepeal_31 ⟨Nat.le_of_ble_eq_true rfl, Nat.le_of_ble_eq_true rfl⟩ w
  · replace w := ql_if w c9
    refine lv_iconst (v := (-1 : Int32)) C.1.1 C.1.2.1 dX1_tryRepeal_10 (by decide) ?_
    exact ql_iret C S hr hlocks dX1_tryRepeal_11 ⟨Nat.le_of_ble_eq_true rfl, Nat.le_of_ble_eq_true rfl⟩ w
def qw_X1_countLapsed_48 (a0 : Nat) (Q : Int32 → ql_H → Prop) (k13 : Int32 → Option Nat → Int32 → Int32 → ql_H → Prop) (xl1 : Int32) (rl2 : Option Nat) (xl3 : Int32) (xl4 : Int32) (h : ql_H) : Prop :=
k13 xl1 rl2 xl3 (xl4 + (1 : Int32)) h
def qw_X1_countLapsed_13 (a0 : Nat) (Q : Int32 → ql_H → Prop) : Nat → Int32 → Option Nat → Int32 → Int32 → ql_H → Prop
  | 0, _, _, _, _, _ => False
  | n + 1, xl1, rl2, xl3, xl4, h =>
    if xl3 ≤ xl4 then (Q xl1 h) else (ql_lR h rl2 5 xl4 fun r1 =>
    ql_gI h r1 6 0 fun x2 =>
    if x2 = 0 then (qw_X1_countLapsed_48 a0 Q (qw_X1_countLapsed_13 a0 Q n) xl1 rl2 xl3 xl4 h) else (ql_gI h (some a0) 4 2 fun x3 =>
    ql_rv h r1 6 fun b4 => qw_X3_lapsedBy b4 x3 h (fun x4 h =>
    if x4 = 0 then (qw_X1_countLapsed_48 a0 Q (qw_X1_countLapsed_13 a0 Q n) xl1 rl2 xl3 xl4 h) else (qw_X1_countLapsed_48 a0 Q (qw_X1_countLapsed_13 a0 Q n) (xl1 + (1 : Int32)) rl2 xl3 xl4 h))))
def qw_X1_countLapsed (a0 : Nat) (h : ql_H) (Q : Int32 → ql_H → Prop) : Prop :=
ql_gR h (some a0) 4 0 fun r6 =>
ql_len h r6 5 fun x7 =>
qw_X1_countLapsed_13 a0 Q ql_FU (0 : Int32) r6 x7 (0 : Int32) h
set_option maxHeartbeats 4000000 in
set_option maxRecDepth 100000 in
theorem qm_X1_countLapsed (l : Launch) (hl9 : l.stackTraces = false) (D : ql_D) (h0 : ql_H) (a0 : Nat) (Q : Int32 → ql_H → Prop) (X : String → ql_H → Prop) (w : qw_X1_countLapsed a0 h0 Q) : ql_M D l yX1_countLapsed cX1_countLapsed 6 (some .int) ({ frames := 6, cells := 0, slots := 0, locals := 105 } : Room) h0 [.ref a0] (ql_rI Q) X 0 0 := by
  refine ql_ofW (by decide) (Nat.le_of_ble_eq_true rfl) ?_
  intro p e s m below meth c ls C hr hlocks hnm htab S hl
  have hl : lv_has ls 6 [(0, .ref a0)] := hl
  have hB48 : ∀ (k13 : Int32 → Option Nat → Int32 → Int32 → ql_H → Prop) (hk13 : ∀ (xl1 : Int32) (rl2 : Option Nat) (xl3 : Int32) (xl4 : Int32) (h : ql_H) (H : Heap) (locs : List Loc) (ls : Array Slot), ql_S D h0 s H locs h → lv_has ls 6 [(0, .ref a0), (1, .int xl1), (2, va_rf rl2), (3, .int xl3), (4, .int xl4)] → k13 xl1 rl2 xl3 xl4 h → W p l e ({ frames := 6, cells := 0, slots := 0, locals := 105 } : Room) s m ([.ref a0] : List Value).toArray below meth c H locs 0 0 (vx_MQ below (ql_Q D h0 (ql_rI Q)) (ql_X D h0 X) ([.ref a0] : List Value).toArray s 0 0 (ql_A h0)) (F0 m 13 ls [])) , ∀ (xl1 : Int32) (rl2 : Option Nat) (xl3 : Int32) (xl4 : Int32) (h : ql_H) (H : Heap) (locs : List Loc) (ls : Array Slot), ql_S D h0 s H locs h → lv_has ls 6 [(0, .ref a0), (1, .int xl1), (2, va_rf rl2), (3, .int xl3), (4, .int xl4)] → qw_X1_countLapsed_48 a0 Q k13 xl1 rl2 xl3 xl4 h → W p l e ({ frames := 6, cells := 0, slots := 0, locals := 105 } : Room) s m ([.ref a0] : List Value).toArray below meth c H locs 0 0 (vx_MQ below (ql_Q D h0 (ql_rI Q)) (ql_X D h0 X) ([.ref a0] : List Value).toArray s 0 0 (ql_A h0)) (F0 m 48 ls []) := by
    intro k13 hk13 xl1 rl2 xl3 xl4 h H locs ls S hl w
    unfold qw_X1_countLapsed_48 at w
    refine lv_iinc (v := (xl4 + (1 : Int32))) (lv' := [(4, .int (xl4 + (1 : Int32))), (0, .ref a0), (1, .int xl1), (2, va_rf rl2), (3, .int xl3)]) C.1.1 C.1.2.1 dX1_countLapsed_48 hl (k := 4) rfl rfl (by decide) rfl (fun ls hl => ?_)
    refine lv_goto (tgt := 13) C.1.1 C.1.2.1 dX1_countLapsed_51 (by decide) ?_
    exact hk13 xl1 rl2 xl3 (xl4 + (1 : Int32)) _ _ _ _ S (lv_sub hl [1, 2, 3, 4, 0] rfl) w
  have hB13 : ∀ n : Nat, ∀ (xl1 : Int32) (rl2 : Option Nat) (xl3 : Int32) (xl4 : Int32) (h : ql_H) (H : Heap) (locs : List Loc) (ls : Array Slot), ql_S D h0 s H locs h → lv_has ls 6 [(0, .ref a0), (1, .int xl1), (2, va_rf rl2), (3, .int xl3), (4, .int xl4)] → qw_X1_countLapsed_13 a0 Q n xl1 rl2 xl3 xl4 h → W p l e ({ frames := 6, cells := 0, slots := 0, locals := 105 } : Room) s m ([.ref a0] : List Value).toArray below meth c H locs 0 0 (vx_MQ below (ql_Q D h0 (ql_rI Q)) (ql_X D h0 X) ([.ref a0] : List Value).toArray s 0 0 (ql_A h0)) (F0 m 13 ls []) := by
    intro n
    induction n with
    | zero => intro xl1 rl2 xl3 xl4 h H locs ls S hl w; rw [qw_X1_countLapsed_13] at w; exact w.elim
    | succ n ih =>
      intro xl1 rl2 xl3 xl4 h H locs ls S hl w
      rw [qw_X1_countLapsed_13] at w
      refine lv_iload C.1.1 C.1.2.1 dX1_countLapsed_13 (lv_at hl 4 rfl) ?_
      refine lv_iload_n C.1.1 C.1.2.1 dX1_countLapsed_15 rfl (lv_at hl 3 rfl) ?_
      refine lv_icmp_ge (tgt := 54) C.1.1 C.1.2.1 dX1_countLapsed_16 (by decide) (fun c9 => ?_) (fun c9 => ?_)
      · replace w := ql_if w c9
        refine lv_iload_n C.1.1 C.1.2.1 dX1_countLapsed_54 rfl (lv_at hl 1 rfl) ?_
        exact ql_iret C S hr hlocks dX1_countLapsed_55 ⟨Nat.le_of_ble_eq_true rfl, Nat.le_of_ble_eq_true rfl⟩ w
      · replace w := ql_ifn w c9
        refine ql_aload_n (r := rl2) C dX1_countLapsed_19 rfl (lv_at hl 2 rfl) ?_
        refine lv_iload C.1.1 C.1.2.1 dX1_countLapsed_20 (lv_at hl 4 rfl) ?_
        refine ql_aald (kd := 5) C S rfl rfl dX1_countLapsed_22 w (fun r1 w => ?_)
        refine ql_astore (lv' := [(5, va_rf r1), (0, .ref a0), (1, .int xl1), (2, va_rf rl2), (3, .int xl3), (4, .int xl4)]) C dX1_countLapsed_23 hl (by decide) rfl (fun ls hl => ?_)
        refine ql_aload (r := r1) C dX1_countLapsed_25 (lv_at hl 0 rfl) ?_
        refine ql_getIN C S qf_6_0 (qn_RX1_144) dX1_countLapsed_27 w (fun x2 w => ?_)
        refine lv_if_eq (tgt := 48) C.1.1 C.1.2.1 dX1_countLapsed_30 (by decide) (fun c9 => ?_) (fun c9 => ?_)
        · replace w := ql_if w c9
          exact hB48 (qw_X1_countLapsed_13 a0 Q n) ih xl1 rl2 xl3 xl4 _ _ _ _ S (lv_sub hl [1, 2, 3, 4, 5] rfl) w
        · replace w := ql_ifn w c9
          refine ql_aload (r := r1) C dX1_countLapsed_33 (lv_at hl 0 rfl) ?_
          refine ql_aload_n (r := (some a0)) C dX1_countLapsed_35 rfl (lv_at hl 1 rfl) ?_
          refine ql_getI C S qf_4_2 gw_170 dX1_countLapsed_36 w (fun x3 w => ?_)
          refine ql_VI (As := [.int x3]) (rest := []) C S htab hlocks hl qy_X3_lapsedBy qi_X3_lapsedBy qs_X3_lapsedBy gw_410 (ci := 6) rfl w (fun b w => qm_X3_lapsedBy l hl9 D _ b x3 _ _ w) rfl ⟨Nat.le_of_ble_eq_true rfl, Nat.le_of_ble_eq_true rfl⟩ ⟨rfl, rfl⟩ (by exact Nat.le_of_ble_eq_true rfl) (fun b e9 => by cases e9; rfl) dX1_countLapsed_39 ⟨Nat.le_of_ble_eq_true rfl, Nat.le_of_ble_eq_true rfl⟩ ⟨Nat.le_of_ble_eq_true rfl, Nat.le_of_ble_eq_true rfl⟩ (fun x4 h H locs S w => ?_)
          refine W.cs (cells' := 0) (slots' := 0) rfl rfl ?_
          refine lv_if_eq (tgt := 48) C.1.1 C.1.2.1 dX1_countLapsed_42 (by decide) (fun c9 => ?_) (fun c9 => ?_)
          · replace w := ql_if w c9
            exact hB48 (qw_X1_countLapsed_13 a0 Q n) ih xl1 rl2 xl3 xl4 _ _ _ _ S (lv_sub hl [1, 2, 3, 4, 5] rfl) w
          · replace w := ql_ifn w c9
            refine lv_iinc (v := (xl1 + (1 : Int32))) (lv' := [(1, .int (xl1 + (1 : Int32))), (5, va_rf r1), (0, .ref a0), (2, va_rf rl2), (3, .int xl3), (4, .int xl4)]) C.1.1 C.1.2.1 dX1_countLapsed_45 hl (k := 2) rfl rfl (by decide) rfl (fun ls hl => ?_)
            exact hB48 (qw_X1_countLapsed_13 a0 Q n) ih (xl1 + (1 : Int32)) rl2 xl3 xl4 _ _ _ _ S (lv_sub hl [2, 0, 3, 4, 5] rfl) w
  unfold qw_X1_countLapsed at w
  refine lv_iconst (v := (0 : Int32)) C.1.1 C.1.2.1 dX1_countLapsed_0 (by decide) ?_
  refine lv_istore_n (lv' := [(1, .int (0 : Int32)), (0, .ref a0)]) C.1.1 C.1.2.1 dX1_countLapsed_1 rfl hl (by decide) rfl (fun ls hl => ?_)
  refine ql_aload_n (r := (some a0)) C dX1_countLapsed_2 rfl (lv_at hl 1 rfl) ?_
  refine ql_getR C S qf_4_0 gw_166 dX1_countLapsed_3 w (fun r6 w => ?_)
  refine ql_astore_n (lv' := [(2, va_rf r6), (1, .int (0 : Int32)), (0, .ref a0)]) C dX1_countLapsed_6 rfl hl (by decide) rfl (fun ls hl => ?_)
  refine ql_aload_n (r := r6) C dX1_countLapsed_7 rfl (lv_at hl 0 rfl) ?_
  refine ql_alen (kd := 5) C S rfl dX1_countLapsed_8 w (fun x7 w => ?_)
  refine lv_istore_n (lv' := [(3, .int x7), (2, va_rf r6), (1, .int (0 : Int32)), (0, .ref a0)]) C.1.1 C.1.2.1 dX1_countLapsed_9 rfl hl (by decide) (by generalize r6 = z9; cases z9 <;> rfl) (fun ls hl => ?_)
  refine lv_iconst (v := (0 : Int32)) C.1.1 C.1.2.1 dX1_countLapsed_10 (by decide) ?_
  refine lv_istore (lv' := [(4, .int (0 : Int32)), (3, .int x7), (2, va_rf r6), (1, .int (0 : Int32)), (0, .ref a0)]) C.1.1 C.1.2.1 dX1_countLapsed_11 hl (by decide) rfl (fun ls hl => ?_)
  exact hB13 ql_FU (0 : Int32) r6 x7 (0 : Int32) _ _ _ _ S (lv_sub hl [4, 3, 2, 1, 0] rfl) w
def qw_X1_tryAdvance (a0 : Nat) (xp1 : Int32) (h : ql_H) (Q : Int32 → ql_H → Prop) : Prop :=
if xp1 < (1 : Int32) then (Q (-3 : Int32) h) else (if xp1 ≤ (400 : Int32) then (ql_rv h (some a0) 4 fun b1 => qw_X1_countLapsed b1  h (fun x1 h =>
ql_gI h (some a0) 4 2 fun x3 =>
ql_pV h (some a0) 4 2 (.int (x3 + xp1)) fun h =>
ql_rv h (some a0) 4 fun b4 => qw_X1_countLapsed b4  h (fun x4 h =>
Q (x4 - x1) h))) else (Q (-3 : Int32) h))
set_option maxHeartbeats 4000000 in
set_option maxRecDepth 100000 in
theorem qm_X1_tryAdvance (l : Launch) (hl9 : l.stackTraces = false) (D : ql_D) (h0 : ql_H) (a0 : Nat) (xp1 : Int32) (Q : Int32 → ql_H → Prop) (X : String → ql_H → Prop) (w : qw_X1_tryAdvance a0 xp1 h0 Q) : ql_M D l yX1_tryAdvance cX1_tryAdvance 3 (some .int) ({ frames := 8, cells := 0, slots := 0, locals := 138 } : Room) h0 [.ref a0, .int xp1] (ql_rI Q) X 0 0 := by
  refine ql_ofW (by decide) (Nat.le_of_ble_eq_true rfl) ?_
  intro p e s m below meth c ls C hr hlocks hnm htab S hl
  have hl : lv_has ls 3 [(0, .ref a0), (1, .int xp1)] := hl
  unfold qw_X1_tryAdvance at w
  refine lv_iload_n C.1.1 C.1.2.1 dX1_tryAdvance_0 rfl (lv_at hl 1 rfl) ?_
  refine lv_iconst (v := (1 : Int32)) C.1.1 C.1.2.1 dX1_tryAdvance_1 (by decide) ?_
  refine lv_icmp_lt (tgt := 12) C.1.1 C.1.2.1 dX1_tryAdvance_2 (by decide) (fun c9 => ?_) (fun c9 => ?_)
  · replace w := ql_if w c9
    refine lv_bipush (v := (-3 : Int32)) C.1.1 C.1.2.1 dX1_tryAdvance_12 (by decide) ?_
    exact ql_iret C S hr hlocks dX1_tryAdvance_14 ⟨Nat.le_of_ble_eq_true rfl, Nat.le_of_ble_eq_true rfl⟩ w
  · replace w := ql_ifn w c9
    refine lv_iload_n C.1.1 C.1.2.1 dX1_tryAdvance_5 rfl (lv_at hl 1 rfl) ?_
    refine lv_sipush (v := (400 : Int32)) C.1.1 C.1.2.1 dX1_tryAdvance_6 (by decide) ?_
    refine lv_icmp_le (tgt := 15) C.1.1 C.1.2.1 dX1_tryAdvance_9 (by decide) (fun c9 => ?_) (fun c9 => ?_)
    · replace w := ql_if w c9
      refine ql_aload_n (r := (some a0)) C dX1_tryAdvance_15 rfl (lv_at hl 0 rfl) ?_
      refine ql_VI (As := []) (rest := []) C S htab hlocks hl qy_X1_countLapsed qi_X1_countLapsed qs_X1_countLapsed gw_965 (ci := 4) rfl w (fun b w => qm_X1_countLapsed l hl9 D _ b _ _ w) rfl ⟨Nat.le_of_ble_eq_true rfl, Nat.le_of_ble_eq_true rfl⟩ ⟨rfl, rfl⟩ (by exact Nat.le_of_ble_eq_true rfl) (fun b e9 => by cases e9; rfl) dX1_tryAdvance_16 ⟨Nat.le_of_ble_eq_true rfl, Nat.le_of_ble_eq_true rfl⟩ ⟨Nat.le_of_ble_eq_true rfl, Nat.le_of_ble_eq_true rfl⟩ (fun x1 h H locs S w => ?_)
      refine W.cs (cells' := 0) (slots' := 0) rfl rfl ?_
      refine lv_istore_n (lv' := [(2, .int x1), (0, .ref a0), (1, .int xp1)]) C.1.1 C.1.2.1 dX1_tryAdvance_19 rfl hl (by decide) rfl (fun ls hl => ?_)
      refine ql_aload_n (r := (some a0)) C dX1_tryAdvance_20 rfl (lv_at hl 1 rfl) ?_
      refine lv_dup C.1.1 C.1.2.1 dX1_tryAdvance_21 (ql_catR _) ?_
      refine ql_getI C S qf_4_2 gw_170 dX1_tryAdvance_22 w (fun x3 w => ?_)
      refine lv_iload_n C.1.1 C.1.2.1 dX1_tryAdvance_25 rfl (lv_at hl 2 rfl) ?_
      refine lv_iadd C.1.1 C.1.2.1 dX1_tryAdvance_26 ?_
      refine ql_putV C S qf_4_2 gw_170 (tyX1) tyX1_ok nmX1 rfl dX1_tryAdvance_27 (v := .int (x3 + xp1)) rfl rfl w (fun h H locs S w => ?_)
      refine ql_aload_n (r := (some a0)) C dX1_tryAdvance_30 rfl (lv_at hl 1 rfl) ?_
      refine ql_VI (As := []) (rest := []) C S htab hlocks hl qy_X1_countLapsed qi_X1_countLapsed qs_X1_countLapsed gw_965 (ci := 4) rfl w (fun b w => qm_X1_countLapsed l hl9 D _ b _ _ w) rfl ⟨Nat.le_of_ble_eq_true rfl, Nat.le_of_ble_eq_true rfl⟩ ⟨rfl, rfl⟩ (by exact Nat.le_of_ble_eq_true rfl) (fun b e9 => by cases e9; rfl) dX1_tryAdvance_31 ⟨Nat.le_of_ble_eq_true rfl, Nat.le_of_ble_eq_true rfl⟩ ⟨Nat.le_of_ble_eq_true rfl, Nat.le_of_ble_eq_true rfl⟩ (fun x4 h H locs S w => ?_)
      refine W.cs (cells' := 0) (slots' := 0) rfl rfl ?_
      refine lv_iload_n C.1.1 C.1.2.1 dX1_tryAdvance_34 rfl (lv_at hl 0 rfl) ?_
      refine lv_isub C.1.1 C.1.2.1 dX1_tryAdvance_35 ?_
      exact ql_iret C S hr hlocks dX1_tryAdvance_36 ⟨Nat.le_of_ble_eq_true rfl, Nat.le_of_ble_eq_true rfl⟩ w
    · replace w := ql_ifn w c9
      refine lv_bipush (v := (-3 : Int32)) C.1.1 C.1.2.1 dX1_tryAdvance_12 (by decide) ?_
      exact ql_iret C S hr hlocks dX1_tryAdvance_14 ⟨Nat.le_of_ble_eq_true rfl, Nat.le_of_ble_eq_true rfl⟩ w
def qw_X1_endLapsedClauses_56 (a0 : Nat) (Q : ql_H → Prop) (k10 : Option Nat → Int32 → Int32 → ql_H → Prop) (rl1 : Option Nat) (xl2 : Int32) (xl3 : Int32) (h : ql_H) : Prop :=
k10 rl1 xl2 (xl3 + (1 : Int32)) h
def qw_X1_endLapsedClauses_10 (a0 : Nat) (Q : ql_H → Prop) : Nat → Option Nat → Int32 → Int32 → ql_H → Prop
  | 0, _, _, _, _ => False
  | n + 1, rl1, xl2, xl3, h =>
    if xl2 ≤ xl3 then (Q h) else (ql_lR h rl1 5 xl3 fun r1 =>
    ql_gI h r1 6 0 fun x2 =>
    if x2 = 0 then (qw_X1_endLapsedClauses_56 a0 Q (qw_X1_endLapsedClauses_10 a0 Q n) rl1 xl2 xl3 h) else (ql_gI h (some a0) 4 2 fun x3 =>
    ql_rv h r1 6 fun b4 => qw_X3_lapsedBy b4 x3 h (fun x4 h =>
    if x4 = 0 then (qw_X1_endLapsedClauses_56 a0 Q (qw_X1_endLapsedClauses_10 a0 Q n) rl1 xl2 xl3 h) else (ql_pV h r1 6 0 (.int (0 : Int32)) fun h =>
    ql_gI h (some a0) 4 6 fun x6 =>
    ql_pV h (some a0) 4 6 (.int (x6 + (1 : Int32))) fun h =>
    qw_X1_endLapsedClauses_56 a0 Q (qw_X1_endLapsedClauses_10 a0 Q n) rl1 xl2 xl3 h))))
def qw_X1_endLapsedClauses (a0 : Nat) (h : ql_H) (Q : ql_H → Prop) : Prop :=
ql_gR h (some a0) 4 0 fun r7 =>
ql_len h r7 5 fun x8 =>
qw_X1_endLapsedClauses_10 a0 Q ql_FU r7 x8 (0 : Int32) h
set_option maxHeartbeats 4000000 in
set_option maxRecDepth 100000 in
theorem qm_X1_endLapsedClauses (l : Launch) (hl9 : l.stackTraces = false) (D : ql_D) (h0 : ql_H) (a0 : Nat) (Q : ql_H → Prop) (X : String → ql_H → Prop) (w : qw_X1_endLapsedClauses a0 h0 Q) : ql_M D l yX1_endLapsedClauses cX1_endLapsedClauses 5 none ({ frames := 6, cells := 0, slots := 0, locals := 105 } : Room) h0 [.ref a0] (ql_rV Q) X 0 0 := by
  refine ql_ofW (by decide) (Nat.le_of_ble_eq_true rfl) ?_
  intro p e s m below meth c ls C hr hlocks hnm htab S hl
  have hl : lv_has ls 5 [(0, .ref a0)] := hl
  have hB56 : ∀ (k10 : Option Nat → Int32 → Int32 → ql_H → Prop) (hk10 : ∀ (rl1 : Option Nat) (xl2 : Int32) (xl3 : Int32) (h : ql_H) (H : Heap) (locs : List Loc) (ls : Array Slot), ql_S D h0 s H locs h → lv_has ls 5 [(0, .ref a0), (1, va_rf rl1), (2, .int xl2), (3, .int xl3)] → k10 rl1 xl2 xl3 h → W p l e ({ frames := 6, cells := 0, slots := 0, locals := 105 } : Room) s m ([.ref a0] : List Value).toArray below meth c H locs 0 0 (vx_MQ below (ql_Q D h0 (ql_rV Q)) (ql_X D h0 X) ([.ref a0] : List Value).toArray s 0 0 (ql_A h0)) (F0 m 10 ls [])) , ∀ (rl1 : Option Nat) (xl2 : Int32) (xl3 : Int32) (h : ql_H) (H : Heap) (locs : List Loc) (ls : Array Slot), ql_S D h0 s H locs h → lv_has ls 5 [(0, .ref a0), (1, va_rf rl1), (2, .int xl2), (3, .int xl3)] → qw_X1_endLapsedClauses_56 a0 Q k10 rl1 xl2 xl3 h → W p l e ({ frames := 6, cells := 0, slots := 0, locals := 105 } : Room) s m ([.ref a0] : List Value).toArray below meth c H locs 0 0 (vx_MQ below (ql_Q D h0 (ql_rV Q)) (ql_X D h0 X) ([.ref a0] : List Value).toArray s 0 0 (ql_A h0)) (F0 m 56 ls []) := by
    intro k10 hk10 rl1 xl2 xl3 h H locs ls S hl w
    unfold qw_X1_endLapsedClauses_56 at w
    refine lv_iinc (v := (xl3 + (1 : Int32))) (lv' := [(3, .int (xl3 + (1 : Int32))), (0, .ref a0), (1, va_rf rl1), (2, .int xl2)]) C.1.1 C.1.2.1 dX1_endLapsedClauses_56 hl (k := 3) rfl rfl (by decide) rfl (fun ls hl => ?_)
    refine lv_goto (tgt := 10) C.1.1 C.1.2.1 dX1_endLapsedClauses_59 (by decide) ?_
    exact hk10 rl1 xl2 (xl3 + (1 : Int32)) _ _ _ _ S (lv_sub hl [1, 2, 3, 0] rfl) w
  have hB10 : ∀ n : Nat, ∀ (rl1 : Option Nat) (xl2 : Int32) (xl3 : Int32) (h : ql_H) (H : Heap) (locs : List Loc) (ls : Array Slot), ql_S D h0 s H locs h → lv_has ls 5 [(0, .ref a0), (1, va_rf rl1), (2, .int xl2), (3, .int xl3)] → qw_X1_endLapsedClauses_10 a0 Q n rl1 xl2 xl3 h → W p l e ({ frames := 6, cells := 0, slots := 0, locals := 105 } : Room) s m ([.ref a0] : List Value).toArray below meth c H locs 0 0 (vx_MQ below (ql_Q D h0 (ql_rV Q)) (ql_X D h0 X) ([.ref a0] : List Value).toArray s 0 0 (ql_A h0)) (F0 m 10 ls []) := by
    intro n
    induction n with
    | zero => intro rl1 xl2 xl3 h H locs ls S hl w; rw [qw_X1_endLapsedClauses_10] at w; exact w.elim
    | succ n ih =>
      intro rl1 xl2 xl3 h H locs ls S hl w
      rw [qw_X1_endLapsedClauses_10] at w
      refine lv_iload_n C.1.1 C.1.2.1 dX1_endLapsedClauses_10 rfl (lv_at hl 3 rfl) ?_
      refine lv_iload_n C.1.1 C.1.2.1 dX1_endLapsedClauses_11 rfl (lv_at hl 2 rfl) ?_
      refine lv_icmp_ge (tgt := 62) C.1.1 C.1.2.1 dX1_endLapsedClauses_12 (by decide) (fun c9 => ?_) (fun c9 => ?_)
      · replace w := ql_if w c9
        exact ql_vret C S hr hlocks dX1_endLapsedClauses_62 ⟨Nat.le_of_ble_eq_true rfl, Nat.le_of_ble_eq_true rfl⟩ w
      · replace w := ql_ifn w c9
        refine ql_aload_n (r := rl1) C dX1_endLapsedClauses_15 rfl (lv_at hl 1 rfl) ?_
        refine lv_iload_n C.1.1 C.1.2.1 dX1_endLapsedClauses_16 rfl (lv_at hl 3 rfl) ?_
        refine ql_aald (kd := 5) C S rfl rfl dX1_endLapsedClauses_17 w (fun r1 w => ?_)
        refine ql_astore (lv' := [(4, va_rf r1), (0, .ref a0), (1, va_rf rl1), (2, .int xl2), (3, .int xl3)]) C dX1_endLapsedClauses_18 hl (by decide) rfl (fun ls hl => ?_)
        refine ql_aload (r := r1) C dX1_endLapsedClauses_20 (lv_at hl 0 rfl) ?_
        refine ql_getIN C S qf_6_0 (qn_RX1_144) dX1_endLapsedClauses_22 w (fun x2 w => ?_)
        refine lv_if_eq (tgt := 56) C.1.1 C.1.2.1 dX1_endLapsedClauses_25 (by decide) (fun c9 => ?_) (fun c9 => ?_)
        · replace w := ql_if w c9
          exact hB56 (qw_X1_endLapsedClauses_10 a0 Q n) ih rl1 xl2 xl3 _ _ _ _ S (lv_sub hl [1, 2, 3, 4] rfl) w
        · replace w := ql_ifn w c9
          refine ql_aload (r := r1) C dX1_endLapsedClauses_28 (lv_at hl 0 rfl) ?_
          refine ql_aload_n (r := (some a0)) C dX1_endLapsedClauses_30 rfl (lv_at hl 1 rfl) ?_
          refine ql_getI C S qf_4_2 gw_170 dX1_endLapsedClauses_31 w (fun x3 w => ?_)
          refine ql_VI (As := [.int x3]) (rest := []) C S htab hlocks hl qy_X3_lapsedBy qi_X3_lapsedBy qs_X3_lapsedBy gw_410 (ci := 6) rfl w (fun b w => qm_X3_lapsedBy l hl9 D _ b x3 _ _ w) rfl ⟨Nat.le_of_ble_eq_true rfl, Nat.le_of_ble_eq_true rfl⟩ ⟨rfl, rfl⟩ (by exact Nat.le_of_ble_eq_true rfl) (fun b e9 => by cases e9; rfl) dX1_endLapsedClauses_34 ⟨Nat.le_of_ble_eq_true rfl, Nat.le_of_ble_eq_true rfl⟩ ⟨Nat.le_of_ble_eq_true rfl, Nat.le_of_ble_eq_true rfl⟩ (fun x4 h H locs S w => ?_)
          refine W.cs (cells' := 0) (slots' := 0) rfl rfl ?_
          refine lv_if_eq (tgt := 56) C.1.1 C.1.2.1 dX1_endLapsedClauses_37 (by decide) (fun c9 => ?_) (fun c9 => ?_)
          · replace w := ql_if w c9
            exact hB56 (qw_X1_endLapsedClauses_10 a0 Q n) ih rl1 xl2 xl3 _ _ _ _ S (lv_sub hl [1, 2, 3, 4] rfl) w
          · replace w := ql_ifn w c9
            refine ql_aload (r := r1) C dX1_endLapsedClauses_40 (lv_at hl 0 rfl) ?_
            refine lv_iconst (v := (0 : Int32)) C.1.1 C.1.2.1 dX1_endLapsedClauses_42 (by decide) ?_
            refine ql_putVN C S qf_6_0 (qn_RX1_144) (tyX3) tyX3_ok nmX3 rfl dX1_endLapsedClauses_43 (v := .int (0 : Int32)) rfl rfl w (fun h H locs S w => ?_)
            refine ql_aload_n (r := (some a0)) C dX1_endLapsedClauses_46 rfl (lv_at hl 1 rfl) ?_
            refine lv_dup C.1.1 C.1.2.1 dX1_endLapsedClauses_47 (ql_catR _) ?_
            refine ql_getI C S qf_4_6 gw_178 dX1_endLapsedClauses_48 w (fun x6 w => ?_)
            refine lv_iconst (v := (1 : Int32)) C.1.1 C.1.2.1 dX1_endLapsedClauses_51 (by decide) ?_
            refine lv_iadd C.1.1 C.1.2.1 dX1_endLapsedClauses_52 ?_
            refine ql_putV C S qf_4_6 gw_178 (tyX1) tyX1_ok nmX1 rfl dX1_endLapsedClauses_53 (v := .int (x6 + (1 : Int32))) rfl rfl w (fun h H locs S w => ?_)
            exact hB56 (qw_X1_endLapsedClauses_10 a0 Q n) ih rl1 xl2 xl3 _ _ _ _ S (lv_sub hl [1, 2, 3, 4] rfl) w
  unfold qw_X1_endLapsedClauses at w
  refine ql_aload_n (r := (some a0)) C dX1_endLapsedClauses_0 rfl (lv_at hl 0 rfl) ?_
  refine ql_getR C S qf_4_0 gw_166 dX1_endLapsedClauses_1 w (fun r7 w => ?_)
  refine ql_astore_n (lv' := [(1, va_rf r7), (0, .ref a0)]) C dX1_endLapsedClauses_4 rfl hl (by decide) rfl (fun ls hl => ?_)
  refine ql_aload_n (r := r7) C dX1_endLapsedClauses_5 rfl (lv_at hl 0 rfl) ?_
  refine ql_alen (kd := 5) C S rfl dX1_endLapsedClauses_6 w (fun x8 w => ?_)
  refine lv_istore_n (lv' := [(2, .int x8), (1, va_rf r7), (0, .ref a0)]) C.1.1 C.1.2.1 dX1_endLapsedClauses_7 rfl hl (by decide) (by generalize r7 = z9; cases z9 <;> rfl) (fun ls hl => ?_)
  refine lv_iconst (v := (0 : Int32)) C.1.1 C.1.2.1 dX1_endLapsedClauses_8 (by decide) ?_
  refine lv_istore_n (lv' := [(3, .int (0 : Int32)), (2, .int x8), (1, va_rf r7), (0, .ref a0)]) C.1.1 C.1.2.1 dX1_endLapsedClauses_9 rfl hl (by decide) rfl (fun ls hl => ?_)
  exact hB10 ql_FU r7 x8 (0 : Int32) _ _ _ _ S (lv_sub hl [3, 2, 1, 0] rfl) w
def qw_X3_citeAtPlace_13 (a0 : Nat) (Q : Int32 → ql_H → Prop) (h : ql_H) : Prop :=
Q (-1 : Int32) h
def qw_X3_citeAtPlace (a0 : Nat) (xp1 : Int32) (h : ql_H) (Q : Int32 → ql_H → Prop) : Prop :=
if xp1 < 0 then (qw_X3_citeAtPlace_13 a0 Q  h) else (ql_gR h (some a0) 6 7 fun r1 =>
ql_len h r1 0 fun x2 =>
if xp1 < x2 then (ql_gR h (some a0) 6 7 fun r3 =>
ql_lI h r3 0 xp1 fun x4 =>
Q x4 h) else (qw_X3_citeAtPlace_13 a0 Q  h))
set_option maxHeartbeats 4000000 in
set_option maxRecDepth 100000 in
theorem qm_X3_citeAtPlace (l : Launch) (hl9 : l.stackTraces = false) (D : ql_D) (h0 : ql_H) (a0 : Nat) (xp1 : Int32) (Q : Int32 → ql_H → Prop) (X : String → ql_H → Prop) (w : qw_X3_citeAtPlace a0 xp1 h0 Q) : ql_M D l yX3_citeAtPlace cX3_citeAtPlace 2 (some .int) ({ frames := 2, cells := 0, slots := 0, locals := 48 } : Room) h0 [.ref a0, .int xp1] (ql_rI Q) X 0 0 := by
  refine ql_ofW (by decide) (Nat.le_of_ble_eq_true rfl) ?_
  intro p e s m below meth c ls C hr hlocks hnm htab S hl
  have hl : lv_has ls 2 [(0, .ref a0), (1, .int xp1)] := hl
  have hB13 : ∀ (h : ql_H) (H : Heap) (locs : List Loc) (ls : Array Slot), ql_S D h0 s H locs h → lv_has ls 2 [] → qw_X3_citeAtPlace_13 a0 Q h → W p l e ({ frames := 2, cells := 0, slots := 0, locals := 48 } : Room) s m ([.ref a0, .int xp1] : List Value).toArray below meth c H locs 0 0 (vx_MQ below (ql_Q D h0 (ql_rI Q)) (ql_X D h0 X) ([.ref a0, .int xp1] : List Value).toArray s 0 0 (ql_A h0)) (F0 m 13 ls []) := by
    intro h H locs ls S hl w
    unfold qw_X3_citeAtPlace_13 at w
    refine lv_iconst (v := (-1 : Int32)) C.1.1 C.1.2.1 dX3_citeAtPlace_13 (by decide) ?_
    refine lv_goto (tgt := 23) C.1.1 C.1.2.1 dX3_citeAtPlace_14 (by decide) ?_
    exact ql_iret C S hr hlocks dX3_citeAtPlace_23 ⟨Nat.le_of_ble_eq_true rfl, Nat.le_of_ble_eq_true rfl⟩ w
  unfold qw_X3_citeAtPlace at w
  refine lv_iload_n C.1.1 C.1.2.1 dX3_citeAtPlace_0 rfl (lv_at hl 1 rfl) ?_
  refine lv_if_lt (tgt := 13) C.1.1 C.1.2.1 dX3_citeAtPlace_1 (by decide) (fun c9 => ?_) (fun c9 => ?_)
  · replace w := ql_if w c9
    exact hB13  _ _ _ _ S (lv_sub hl [] rfl) w
  · replace w := ql_ifn w c9
    refine lv_iload_n C.1.1 C.1.2.1 dX3_citeAtPlace_4 rfl (lv_at hl 1 rfl) ?_
    refine ql_aload_n (r := (some a0)) C dX3_citeAtPlace_5 rfl (lv_at hl 0 rfl) ?_
    refine ql_getR C S qf_6_7 gw_146 dX3_citeAtPlace_6 w (fun r1 w => ?_)
    refine ql_alen (kd := 0) C S rfl dX3_citeAtPlace_9 w (fun x2 w => ?_)
    refine lv_icmp_lt (tgt := 17) C.1.1 C.1.2.1 dX3_citeAtPlace_10 (by decide) (fun c9 => ?_) (fun c9 => ?_)
    · replace w := ql_if w c9
      refine ql_aload_n (r := (some a0)) C dX3_citeAtPlace_17 rfl (lv_at hl 0 rfl) ?_
      refine ql_getR C S qf_6_7 gw_146 dX3_citeAtPlace_18 w (fun r3 w => ?_)
      refine lv_iload_n C.1.1 C.1.2.1 dX3_citeAtPlace_21 rfl (lv_at hl 1 rfl) ?_
      refine ql_iald C S dX3_citeAtPlace_22 w (fun x4 w => ?_)
      exact ql_iret C S hr hlocks dX3_citeAtPlace_23 ⟨Nat.le_of_ble_eq_true rfl, Nat.le_of_ble_eq_true rfl⟩ w
    · replace w := ql_ifn w c9
      exact hB13  _ _ _ _ S (lv_sub hl [] rfl) w
def qw_X1_dropCitesOfNoClause_75 (a0 : Nat) (Q : ql_H → Prop) (k45 : Option Nat → Int32 → Int32 → Option Nat → Int32 → ql_H → Prop) (rl1 : Option Nat) (xl2 : Int32) (xl3 : Int32) (rl4 : Option Nat) (xl6 : Int32) (h : ql_H) : Prop :=
k45 rl1 xl2 xl3 rl4 (xl6 + (-1 : Int32)) h
def qw_X1_dropCitesOfNoClause_45 (a0 : Nat) (Q : ql_H → Prop) (k10 : Option Nat → Int32 → Int32 → ql_H → Prop) : Nat → Option Nat → Int32 → Int32 → Option Nat → Int32 → ql_H → Prop
  | 0, _, _, _, _, _, _ => False
  | n + 1, rl1, xl2, xl3, rl4, xl6, h =>
    if xl6 < 0 then (k10 rl1 xl2 (xl3 + (1 : Int32)) h) else (ql_rv h rl4 6 fun b1 => qw_X3_citeAtPlace b1 xl6 h (fun x1 h =>
    ql_rv h (some a0) 4 fun b3 => qw_X1_clauseWithId b3 x1 h (fun r3 h =>
    if r3 = none then (ql_rv h rl4 6 fun b4 => qw_X3_removeCite b4 x1 h (fun h =>
    qw_X1_dropCitesOfNoClause_75 a0 Q (qw_X1_dropCitesOfNoClause_45 a0 Q k10 n) rl1 xl2 xl3 rl4 xl6 h)) else (qw_X1_dropCitesOfNoClause_75 a0 Q (qw_X1_dropCitesOfNoClause_45 a0 Q k10 n) rl1 xl2 xl3 rl4 xl6 h))))
def qw_X1_dropCitesOfNoClause_37 (a0 : Nat) (Q : ql_H → Prop) (k10 : Option Nat → Int32 → Int32 → ql_H → Prop) (rl1 : Option Nat) (xl2 : Int32) (xl3 : Int32) (rl4 : Option Nat) (xs0 : Int32) (h : ql_H) : Prop :=
qw_X1_dropCitesOfNoClause_45 a0 Q k10 ql_FU rl1 xl2 xl3 rl4 (xs0 - (1 : Int32)) h
def qw_X1_dropCitesOfNoClause_10 (a0 : Nat) (Q : ql_H → Prop) : Nat → Option Nat → Int32 → Int32 → ql_H → Prop
  | 0, _, _, _, _ => False
  | n + 1, rl1, xl2, xl3, h =>
    if xl2 ≤ xl3 then (Q h) else (ql_lR h rl1 5 xl3 fun r6 =>
    ql_gI h r6 6 0 fun x7 =>
    if x7 = 0 then (qw_X1_dropCitesOfNoClause_37 a0 Q (qw_X1_dropCitesOfNoClause_10 a0 Q n) rl1 xl2 xl3 r6 (0 : Int32) h) else (ql_rv h r6 6 fun b8 => qw_X3_countCites b8  h (fun x8 h =>
    qw_X1_dropCitesOfNoClause_37 a0 Q (qw_X1_dropCitesOfNoClause_10 a0 Q n) rl1 xl2 xl3 r6 x8 h)))
def qw_X1_dropCitesOfNoClause (a0 : Nat) (h : ql_H) (Q : ql_H → Prop) : Prop :=
ql_gR h (some a0) 4 0 fun r10 =>
ql_len h r10 5 fun x11 =>
qw_X1_dropCitesOfNoClause_10 a0 Q ql_FU r10 x11 (0 : Int32) h
set_option maxHeartbeats 4000000 in
set_option maxRecDepth 100000 in
theorem qm_X1_dropCitesOfNoClause (l : Launch) (hl9 : l.stackTraces = false) (D : ql_D) (h0 : ql_H) (a0 : Nat) (Q : ql_H → Prop) (X : String → ql_H → Prop) (w : qw_X1_dropCitesOfNoClause a0 h0 Q) : ql_M D l yX1_dropCitesOfNoClause cX1_dropCitesOfNoClause 8 none ({ frames := 8, cells := 0, slots := 0, locals := 139 } : Room) h0 [.ref a0] (ql_rV Q) X 0 0 := by
  refine ql_ofW (by decide) (Nat.le_of_ble_eq_true rfl) ?_
  intro p e s m below meth c ls C hr hlocks hnm htab S hl
  have hl : lv_has ls 8 [(0, .ref a0)] := hl
  have hB75 : ∀ (k45 : Option Nat → Int32 → Int32 → Option Nat → Int32 → ql_H → Prop) (hk45 : ∀ (rl1 : Option Nat) (xl2 : Int32) (xl3 : Int32) (rl4 : Option Nat) (xl6 : Int32) (h : ql_H) (H : Heap) (locs : List Loc) (ls : Array Slot), ql_S D h0 s H locs h → lv_has ls 8 [(0, .ref a0), (1, va_rf rl1), (2, .int xl2), (3, .int xl3), (4, va_rf rl4), (6, .int xl6)] → k45 rl1 xl2 xl3 rl4 xl6 h → W p l e ({ frames := 8, cells := 0, slots := 0, locals := 139 } : Room) s m ([.ref a0] : List Value).toArray below meth c H locs 0 0 (vx_MQ below (ql_Q D h0 (ql_rV Q)) (ql_X D h0 X) ([.ref a0] : List Value).toArray s 0 0 (ql_A h0)) (F0 m 45 ls [])) , ∀ (rl1 : Option Nat) (xl2 : Int32) (xl3 : Int32) (rl4 : Option Nat) (xl6 : Int32) (h : ql_H) (H : Heap) (locs : List Loc) (ls : Array Slot), ql_S D h0 s H locs h → lv_has ls 8 [(0, .ref a0), (1, va_rf rl1), (2, .int xl2), (3, .int xl3), (4, va_rf rl4), (6, .int xl6)] → qw_X1_dropCitesOfNoClause_75 a0 Q k45 rl1 xl2 xl3 rl4 xl6 h → W p l e ({ frames := 8, cells := 0, slots := 0, locals := 139 } : Room) s m ([.ref a0] : List Value).toArray below meth c H locs 0 0 (vx_MQ below (ql_Q D h0 (ql_rV Q)) (ql_X D h0 X) ([.ref a0] : List Value).toArray s 0 0 (ql_A h0)) (F0 m 75 ls []) := by
    intro k45 hk45 rl1 xl2 xl3 rl4 xl6 h H locs ls S hl w
    unfold qw_X1_dropCitesOfNoClause_75 at w
    refine lv_iinc (v := (xl6 + (-1 : Int32))) (lv' := [(6, .int (xl6 + (-1 : Int32))), (0, .ref a0), (1, va_rf rl1), (2, .int xl2), (3, .int xl3), (4, va_rf rl4)]) C.1.1 C.1.2.1 dX1_dropCitesOfNoClause_75 hl (k := 5) rfl rfl (by decide) rfl (fun ls hl => ?_)
    refine lv_goto (tgt := 45) C.1.1 C.1.2.1 dX1_dropCitesOfNoClause_78 (by decide) ?_
    exact hk45 rl1 xl2 xl3 rl4 (xl6 + (-1 : Int32)) _ _ _ _ S (lv_sub hl [1, 2, 3, 4, 5, 0] rfl) w
  have hB45 : ∀ (k10 : Option Nat → Int32 → Int32 → ql_H → Prop) (hk10 : ∀ (rl1 : Option Nat) (xl2 : Int32) (xl3 : Int32) (h : ql_H) (H : Heap) (locs : List Loc) (ls : Array Slot), ql_S D h0 s H locs h → lv_has ls 8 [(0, .ref a0), (1, va_rf rl1), (2, .int xl2), (3, .int xl3)] → k10 rl1 xl2 xl3 h → W p l e ({ frames := 8, cells := 0, slots := 0, locals := 139 } : Room) s m ([.ref a0] : List Value).toArray below meth c H locs 0 0 (vx_MQ below (ql_Q D h0 (ql_rV Q)) (ql_X D h0 X) ([.ref a0] : List Value).toArray s 0 0 (ql_A h0)) (F0 m 10 ls [])) , ∀ n : Nat, ∀ (rl1 : Option Nat) (xl2 : Int32) (xl3 : Int32) (rl4 : Option Nat) (xl6 : Int32) (h : ql_H) (H : Heap) (locs : List Loc) (ls : Array Slot), ql_S D h0 s H locs h → lv_has ls 8 [(0, .ref a0), (1, va_rf rl1), (2, .int xl2), (3, .int xl3), (4, va_rf rl4), (6, .int xl6)] → qw_X1_dropCitesOfNoClause_45 a0 Q k10 n rl1 xl2 xl3 rl4 xl6 h → W p l e ({ frames := 8, cells := 0, slots := 0, locals := 139 } : Room) s m ([.ref a0] : List Value).toArray below meth c H locs 0 0 (vx_MQ below (ql_Q D h0 (ql_rV Q)) (ql_X D h0 X) ([.ref a0] : List Value).toArray s 0 0 (ql_A h0)) (F0 m 45 ls []) := by
    intro k10 hk10 n
    induction n with
    | zero => intro rl1 xl2 xl3 rl4 xl6 h H locs ls S hl w; rw [qw_X1_dropCitesOfNoClause_45] at w; exact w.elim
    | succ n ih =>
      intro rl1 xl2 xl3 rl4 xl6 h H locs ls S hl w
      rw [qw_X1_dropCitesOfNoClause_45] at w
      refine lv_iload C.1.1 C.1.2.1 dX1_dropCitesOfNoClause_45 (lv_at hl 5 rfl) ?_
      refine lv_if_lt (tgt := 81) C.1.1 C.1.2.1 dX1_dropCitesOfNoClause_47 (by decide) (fun c9 => ?_) (fun c9 => ?_)
      · replace w := ql_if w c9
        refine lv_iinc (v := (xl3 + (1 : Int32))) (lv' := [(3, .int (xl3 + (1 : Int32))), (0, .ref a0), (1, va_rf rl1), (2, .int xl2), (4, va_rf rl4), (6, .int xl6)]) C.1.1 C.1.2.1 dX1_dropCitesOfNoClause_81 hl (k := 3) rfl rfl (by decide) rfl (fun ls hl => ?_)
        refine lv_goto (tgt := 10) C.1.1 C.1.2.1 dX1_dropCitesOfNoClause_84 (by decide) ?_
        exact hk10 rl1 xl2 (xl3 + (1 : Int32)) _ _ _ _ S (lv_sub hl [1, 2, 3, 0] rfl) w
      · replace w := ql_ifn w c9
        refine ql_aload (r := rl4) C dX1_dropCitesOfNoClause_50 (lv_at hl 4 rfl) ?_
        refine lv_iload C.1.1 C.1.2.1 dX1_dropCitesOfNoClause_52 (lv_at hl 5 rfl) ?_
        refine ql_VI (As := [.int xl6]) (rest := []) C S htab hlocks hl qy_X3_citeAtPlace qi_X3_citeAtPlace qs_X3_citeAtPlace gw_426 (ci := 6) rfl w (fun b w => qm_X3_citeAtPlace l hl9 D _ b xl6 _ _ w) rfl ⟨Nat.le_of_ble_eq_true rfl, Nat.le_of_ble_eq_true rfl⟩ ⟨rfl, rfl⟩ (by exact Nat.le_of_ble_eq_true rfl) (fun b e9 => by cases e9; rfl) dX1_dropCitesOfNoClause_54 ⟨Nat.le_of_ble_eq_true rfl, Nat.le_of_ble_eq_true rfl⟩ ⟨Nat.le_of_ble_eq_true rfl, Nat.le_of_ble_eq_true rfl⟩ (fun x1 h H locs S w => ?_)
        refine W.cs (cells' := 0) (slots' := 0) rfl rfl ?_
        refine lv_istore (lv' := [(7, .int x1), (0, .ref a0), (1, va_rf rl1), (2, .int xl2), (3, .int xl3), (4, va_rf rl4), (6, .int xl6)]) C.1.1 C.1.2.1 dX1_dropCitesOfNoClause_57 hl (by decide) rfl (fun ls hl => ?_)
        refine ql_aload_n (r := (some a0)) C dX1_dropCitesOfNoClause_59 rfl (lv_at hl 1 rfl) ?_
        refine lv_iload C.1.1 C.1.2.1 dX1_dropCitesOfNoClause_60 (lv_at hl 0 rfl) ?_
        refine ql_VR (As := [.int x1]) (rest := []) C S htab hlocks hl qy_X1_clauseWithId qi_X1_clauseWithId qs_X1_clauseWithId gw_430 (ci := 4) rfl w (fun b w => qm_X1_clauseWithId l hl9 D _ b x1 _ _ w) rfl ⟨Nat.le_of_ble_eq_true rfl, Nat.le_of_ble_eq_true rfl⟩ ⟨rfl, rfl⟩ (by exact Nat.le_of_ble_eq_true rfl) (fun b e9 => by cases e9; rfl) dX1_dropCitesOfNoClause_62 ⟨Nat.le_of_ble_eq_true rfl, Nat.le_of_ble_eq_true rfl⟩ ⟨Nat.le_of_ble_eq_true rfl, Nat.le_of_ble_eq_true rfl⟩ (fun r3 h H locs S w => ?_)
        refine W.cs (cells' := 0) (slots' := 0) rfl rfl ?_
        refine ql_ifnonnull (tgt := 75) C dX1_dropCitesOfNoClause_65 (by decide) (fun c9 => ?_) (fun c9 => ?_)
        · replace w := ql_ifn w c9
          exact hB75 (qw_X1_dropCitesOfNoClause_45 a0 Q k10 n) ih rl1 xl2 xl3 rl4 xl6 _ _ _ _ S (lv_sub hl [1, 2, 3, 4, 5, 6] rfl) w
        · replace w := ql_if w c9
          refine ql_aload (r := rl4) C dX1_dropCitesOfNoClause_68 (lv_at hl 5 rfl) ?_
          refine lv_iload C.1.1 C.1.2.1 dX1_dropCitesOfNoClause_70 (lv_at hl 0 rfl) ?_
          refine ql_VV (As := [.int x1]) (rest := []) C S htab hlocks hl qy_X3_removeCite qi_X3_removeCite qs_X3_removeCite gw_438 (ci := 6) rfl w (fun b w => qm_X3_removeCite l hl9 D _ b x1 _ _ w) rfl ⟨Nat.le_of_ble_eq_true rfl, Nat.le_of_ble_eq_true rfl⟩ ⟨rfl, rfl⟩ (by exact Nat.le_of_ble_eq_true rfl) (fun b e9 => by cases e9; rfl) dX1_dropCitesOfNoClause_72 ⟨Nat.le_of_ble_eq_true rfl, Nat.le_of_ble_eq_true rfl⟩ ⟨Nat.le_of_ble_eq_true rfl, Nat.le_of_ble_eq_true rfl⟩ (fun h H locs S w => ?_)
          refine W.cs (cells' := 0) (slots' := 0) rfl rfl ?_
          exact hB75 (qw_X1_dropCitesOfNoClause_45 a0 Q k10 n) ih rl1 xl2 xl3 rl4 xl6 _ _ _ _ S (lv_sub hl [1, 2, 3, 4, 5, 6] rfl) w
  have hB37 : ∀ (k10 : Option Nat → Int32 → Int32 → ql_H → Prop) (hk10 : ∀ (rl1 : Option Nat) (xl2 : Int32) (xl3 : Int32) (h : ql_H) (H : Heap) (locs : List Loc) (ls : Array Slot), ql_S D h0 s H locs h → lv_has ls 8 [(0, .ref a0), (1, va_rf rl1), (2, .int xl2), (3, .int xl3)] → k10 rl1 xl2 xl3 h → W p l e ({ frames := 8, cells := 0, slots := 0, locals := 139 } : Room) s m ([.ref a0] : List Value).toArray below meth c H locs 0 0 (vx_MQ below (ql_Q D h0 (ql_rV Q)) (ql_X D h0 X) ([.ref a0] : List Value).toArray s 0 0 (ql_A h0)) (F0 m 10 ls [])) , ∀ (rl1 : Option Nat) (xl2 : Int32) (xl3 : Int32) (rl4 : Option Nat) (xs0 : Int32) (h : ql_H) (H : Heap) (locs : List Loc) (ls : Array Slot), ql_S D h0 s H locs h → lv_has ls 8 [(0, .ref a0), (1, va_rf rl1), (2, .int xl2), (3, .int xl3), (4, va_rf rl4)] → qw_X1_dropCitesOfNoClause_37 a0 Q k10 rl1 xl2 xl3 rl4 xs0 h → W p l e ({ frames := 8, cells := 0, slots := 0, locals := 139 } : Room) s m ([.ref a0] : List Value).toArray below meth c H locs 0 0 (vx_MQ below (ql_Q D h0 (ql_rV Q)) (ql_X D h0 X) ([.ref a0] : List Value).toArray s 0 0 (ql_A h0)) (F0 m 37 ls [.int xs0]) := by
    intro k10 hk10 rl1 xl2 xl3 rl4 xs0 h H locs ls S hl w
    unfold qw_X1_dropCitesOfNoClause_37 at w
    refine lv_istore (lv' := [(5, .int xs0), (0, .ref a0), (1, va_rf rl1), (2, .int xl2), (3, .int xl3), (4, va_rf rl4)]) C.1.1 C.1.2.1 dX1_dropCitesOfNoClause_37 hl (by decide) (by generalize rl4 = z9; cases z9 <;> rfl) (fun ls hl => ?_)
    refine lv_iload C.1.1 C.1.2.1 dX1_dropCitesOfNoClause_39 (lv_at hl 0 rfl) ?_
    refine lv_iconst (v := (1 : Int32)) C.1.1 C.1.2.1 dX1_dropCitesOfNoClause_41 (by decide) ?_
    refine lv_isub C.1.1 C.1.2.1 dX1_dropCitesOfNoClause_42 ?_
    refine lv_istore (lv' := [(6, .int (xs0 - (1 : Int32))), (5, .int xs0), (0, .ref a0), (1, va_rf rl1), (2, .int xl2), (3, .int xl3), (4, va_rf rl4)]) C.1.1 C.1.2.1 dX1_dropCitesOfNoClause_43 hl (by decide) rfl (fun ls hl => ?_)
    exact hB45 k10 hk10 ql_FU rl1 xl2 xl3 rl4 (xs0 - (1 : Int32)) _ _ _ _ S (lv_sub hl [2, 3, 4, 5, 6, 0] rfl) w
  have hB10 : ∀ n : Nat, ∀ (rl1 : Option Nat) (xl2 : Int32) (xl3 : Int32) (h : ql_H) (H : Heap) (locs : List Loc) (ls : Array Slot), ql_S D h0 s H locs h → lv_has ls 8 [(0, .ref a0), (1, va_rf rl1), (2, .int xl2), (3, .int xl3)] → qw_X1_dropCitesOfNoClause_10 a0 Q n rl1 xl2 xl3 h → W p l e ({ frames := 8, cells := 0, slots := 0, locals := 139 } : Room) s m ([.ref a0] : List Value).toArray below meth c H locs 0 0 (vx_MQ below (ql_Q D h0 (ql_rV Q)) (ql_X D h0 X) ([.ref a0] : List Value).toArray s 0 0 (ql_A h0)) (F0 m 10 ls []) := by
    intro n
    induction n with
    | zero => intro rl1 xl2 xl3 h H locs ls S hl w; rw [qw_X1_dropCitesOfNoClause_10] at w; exact w.elim
    | succ n ih =>
      intro rl1 xl2 xl3 h H locs ls S hl w
      rw [qw_X1_dropCitesOfNoClause_10] at w
      refine lv_iload_n C.1.1 C.1.2.1 dX1_dropCitesOfNoClause_10 rfl (lv_at hl 3 rfl) ?_
      refine lv_iload_n C.1.1 C.1.2.1 dX1_dropCitesOfNoClause_11 rfl (lv_at hl 2 rfl) ?_
      refine lv_icmp_ge (tgt := 87) C.1.1 C.1.2.1 dX1_dropCitesOfNoClause_12 (by decide) (fun c9 => ?_) (fun c9 => ?_)
      · replace w := ql_if w c9
        exact ql_vret C S hr hlocks dX1_dropCitesOfNoClause_87 ⟨Nat.le_of_ble_eq_true rfl, Nat.le_of_ble_eq_true rfl⟩ w
      · replace w := ql_ifn w c9
        refine ql_aload_n (r := rl1) C dX1_dropCitesOfNoClause_15 rfl (lv_at hl 1 rfl) ?_
        refine lv_iload_n C.1.1 C.1.2.1 dX1_dropCitesOfNoClause_16 rfl (lv_at hl 3 rfl) ?_
        refine ql_aald (kd := 5) C S rfl rfl dX1_dropCitesOfNoClause_17 w (fun r6 w => ?_)
        refine ql_astore (lv' := [(4, va_rf r6), (0, .ref a0), (1, va_rf rl1), (2, .int xl2), (3, .int xl3)]) C dX1_dropCitesOfNoClause_18 hl (by decide) rfl (fun ls hl => ?_)
        refine ql_aload (r := r6) C dX1_dropCitesOfNoClause_20 (lv_at hl 0 rfl) ?_
        refine ql_getIN C S qf_6_0 (qn_RX1_144) dX1_dropCitesOfNoClause_22 w (fun x7 w => ?_)
        refine lv_if_eq (tgt := 36) C.1.1 C.1.2.1 dX1_dropCitesOfNoClause_25 (by decide) (fun c9 => ?_) (fun c9 => ?_)
        · replace w := ql_if w c9
          refine lv_iconst (v := (0 : Int32)) C.1.1 C.1.2.1 dX1_dropCitesOfNoClause_36 (by decide) ?_
          exact hB37 (qw_X1_dropCitesOfNoClause_10 a0 Q n) ih rl1 xl2 xl3 r6 (0 : Int32) _ _ _ _ S (lv_sub hl [1, 2, 3, 4, 0] rfl) w
        · replace w := ql_ifn w c9
          refine ql_aload (r := r6) C dX1_dropCitesOfNoClause_28 (lv_at hl 0 rfl) ?_
          refine ql_VI (As := []) (rest := []) C S htab hlocks hl qy_X3_countCites qi_X3_countCites qs_X3_countCites gw_422 (ci := 6) rfl w (fun b w => qm_X3_countCites l hl9 D _ b _ _ w) rfl ⟨Nat.le_of_ble_eq_true rfl, Nat.le_of_ble_eq_true rfl⟩ ⟨rfl, rfl⟩ (by exact Nat.le_of_ble_eq_true rfl) (fun b e9 => by cases e9; rfl) dX1_dropCitesOfNoClause_30 ⟨Nat.le_of_ble_eq_true rfl, Nat.le_of_ble_eq_true rfl⟩ ⟨Nat.le_of_ble_eq_true rfl, Nat.le_of_ble_eq_true rfl⟩ (fun x8 h H locs S w => ?_)
          refine W.cs (cells' := 0) (slots' := 0) rfl rfl ?_
          refine lv_goto (tgt := 37) C.1.1 C.1.2.1 dX1_dropCitesOfNoClause_33 (by decide) ?_
          exact hB37 (qw_X1_dropCitesOfNoClause_10 a0 Q n) ih rl1 xl2 xl3 r6 x8 _ _ _ _ S (lv_sub hl [1, 2, 3, 4, 0] rfl) w
  unfold qw_X1_dropCitesOfNoClause at w
  refine ql_aload_n (r := (some a0)) C dX1_dropCitesOfNoClause_0 rfl (lv_at hl 0 rfl) ?_
  refine ql_getR C S qf_4_0 gw_166 dX1_dropCitesOfNoClause_1 w (fun r10 w => ?_)
  refine ql_astore_n (lv' := [(1, va_rf r10), (0, .ref a0)]) C dX1_dropCitesOfNoClause_4 rfl hl (by decide) rfl (fun ls hl => ?_)
  refine ql_aload_n (r := r10) C dX1_dropCitesOfNoClause_5 rfl (lv_at hl 0 rfl) ?_
  refine ql_alen (kd := 5) C S rfl dX1_dropCitesOfNoClause_6 w (fun x11 w => ?_)
  refine lv_istore_n (lv' := [(2, .int x11), (1, va_rf r10), (0, .ref a0)]) C.1.1 C.1.2.1 dX1_dropCitesOfNoClause_7 rfl hl (by decide) (by generalize r10 = z9; cases z9 <;> rfl) (fun ls hl => ?_)
  refine lv_iconst (v := (0 : Int32)) C.1.1 C.1.2.1 dX1_dropCitesOfNoClause_8 (by decide) ?_
  refine lv_istore_n (lv' := [(3, .int (0 : Int32)), (2, .int x11), (1, va_rf r10), (0, .ref a0)]) C.1.1 C.1.2.1 dX1_dropCitesOfNoClause_9 rfl hl (by decide) rfl (fun ls hl => ?_)
  exact hB10 ql_FU r10 x11 (0 : Int32) _ _ _ _ S (lv_sub hl [3, 2, 1, 0] rfl) w
def qw_X1_countSectionsBelow_47 (a0 : Nat) (Q : Int32 → ql_H → Prop) (k14 : Int32 → Int32 → Option Nat → Int32 → Int32 → ql_H → Prop) (xl1 : Int32) (xl2 : Int32) (rl3 : Option Nat) (xl4 : Int32) (xl5 : Int32) (h : ql_H) : Prop :=
k14 xl1 xl2 rl3 xl4 (xl5 + (1 : Int32)) h
def qw_X1_countSectionsBelow_14 (a0 : Nat) (Q : Int32 → ql_H → Prop) : Nat → Int32 → Int32 → Option Nat → Int32 → Int32 → ql_H → Prop
  | 0, _, _, _, _, _, _ => False
  | n + 1, xl1, xl2, rl3, xl4, xl5, h =>
    if xl4 ≤ xl5 then (Q xl2 h) else (ql_lR h rl3 5 xl5 fun r1 =>
    ql_gI h r1 6 0 fun x2 =>
    if x2 = 0 then (qw_X1_countSectionsBelow_47 a0 Q (qw_X1_countSectionsBelow_14 a0 Q n) xl1 xl2 rl3 xl4 xl5 h) else (ql_gI h r1 6 2 fun x3 =>
    if xl1 ≤ x3 then (qw_X1_countSectionsBelow_47 a0 Q (qw_X1_countSectionsBelow_14 a0 Q n) xl1 xl2 rl3 xl4 xl5 h) else (qw_X1_countSectionsBelow_47 a0 Q (qw_X1_countSectionsBelow_14 a0 Q n) xl1 (xl2 + (1 : Int32)) rl3 xl4 xl5 h)))
def qw_X1_countSectionsBelow (a0 : Nat) (xp1 : Int32) (h : ql_H) (Q : Int32 → ql_H → Prop) : Prop :=
ql_gR h (some a0) 4 0 fun r4 =>
ql_len h r4 5 fun x5 =>
qw_X1_countSectionsBelow_14 a0 Q ql_FU xp1 (0 : Int32) r4 x5 (0 : Int32) h
set_option maxHeartbeats 4000000 in
set_option maxRecDepth 100000 in
theorem qm_X1_countSectionsBelow (l : Launch) (hl9 : l.stackTraces = false) (D : ql_D) (h0 : ql_H) (a0 : Nat) (xp1 : Int32) (Q : Int32 → ql_H → Prop) (X : String → ql_H → Prop) (w : qw_X1_countSectionsBelow a0 xp1 h0 Q) : ql_M D l yX1_countSectionsBelow cX1_countSectionsBelow 7 (some .int) ({ frames := 2, cells := 0, slots := 0, locals := 48 } : Room) h0 [.ref a0, .int xp1] (ql_rI Q) X 0 0 := by
  refine ql_ofW (by decide) (Nat.le_of_ble_eq_true rfl) ?_
  intro p e s m below meth c ls C hr hlocks hnm htab S hl
  have hl : lv_has ls 7 [(0, .ref a0), (1, .int xp1)] := hl
  have hB47 : ∀ (k14 : Int32 → Int32 → Option Nat → Int32 → Int32 → ql_H → Prop) (hk14 : ∀ (xl1 : Int32) (xl2 : Int32) (rl3 : Option Nat) (xl4 : Int32) (xl5 : Int32) (h : ql_H) (H : Heap) (locs : List Loc) (ls : Array Slot), ql_S D h0 s H locs h → lv_has ls 7 [(1, .int xl1), (2, .int xl2), (3, va_rf rl3), (4, .int xl4), (5, .int xl5)] → k14 xl1 xl2 rl3 xl4 xl5 h → W p l e ({ frames := 2, cells := 0, slots := 0, locals := 48 } : Room) s m ([.ref a0, .int xp1] : List Value).toArray below meth c H locs 0 0 (vx_MQ below (ql_Q D h0 (ql_rI Q)) (ql_X D h0 X) ([.ref a0, .int xp1] : List Value).toArray s 0 0 (ql_A h0)) (F0 m 14 ls [])) , ∀ (xl1 : Int32) (xl2 : Int32) (rl3 : Option Nat) (xl4 : Int32) (xl5 : Int32) (h : ql_H) (H : Heap) (locs : List Loc) (ls : Array Slot), ql_S D h0 s H locs h → lv_has ls 7 [(1, .int xl1), (2, .int xl2), (3, va_rf rl3), (4, .int xl4), (5, .int xl5)] → qw_X1_countSectionsBelow_47 a0 Q k14 xl1 xl2 rl3 xl4 xl5 h → W p l e ({ frames := 2, cells := 0, slots := 0, locals := 48 } : Room) s m ([.ref a0, .int xp1] : List Value).toArray below meth c H locs 0 0 (vx_MQ below (ql_Q D h0 (ql_rI Q)) (ql_X D h0 X) ([.ref a0, .int xp1] : List Value).toArray s 0 0 (ql_A h0)) (F0 m 47 ls []) := by
    intro k14 hk14 xl1 xl2 rl3 xl4 xl5 h H locs ls S hl w
    unfold qw_X1_countSectionsBelow_47 at w
    refine lv_iinc (v := (xl5 + (1 : Int32))) (lv' := [(5, .int (xl5 + (1 : Int32))), (1, .int xl1), (2, .int xl2), (3, va_rf rl3), (4, .int xl4)]) C.1.1 C.1.2.1 dX1_countSectionsBelow_47 hl (k := 4) rfl rfl (by decide) rfl (fun ls hl => ?_)
    refine lv_goto (tgt := 14) C.1.1 C.1.2.1 dX1_countSectionsBelow_50 (by decide) ?_
    exact hk14 xl1 xl2 rl3 xl4 (xl5 + (1 : Int32)) _ _ _ _ S (lv_sub hl [1, 2, 3, 4, 0] rfl) w
  have hB14 : ∀ n : Nat, ∀ (xl1 : Int32) (xl2 : Int32) (rl3 : Option Nat) (xl4 : Int32) (xl5 : Int32) (h : ql_H) (H : Heap) (locs : List Loc) (ls : Array Slot), ql_S D h0 s H locs h → lv_has ls 7 [(1, .int xl1), (2, .int xl2), (3, va_rf rl3), (4, .int xl4), (5, .int xl5)] → qw_X1_countSectionsBelow_14 a0 Q n xl1 xl2 rl3 xl4 xl5 h → W p l e ({ frames := 2, cells := 0, slots := 0, locals := 48 } : Room) s m ([.ref a0, .int xp1] : List Value).toArray below meth c H locs 0 0 (vx_MQ below (ql_Q D h0 (ql_rI Q)) (ql_X D h0 X) ([.ref a0, .int xp1] : List Value).toArray s 0 0 (ql_A h0)) (F0 m 14 ls []) := by
    intro n
    induction n with
    | zero => intro xl1 xl2 rl3 xl4 xl5 h H locs ls S hl w; rw [qw_X1_countSectionsBelow_14] at w; exact w.elim
    | succ n ih =>
      intro xl1 xl2 rl3 xl4 xl5 h H locs ls S hl w
      rw [qw_X1_countSectionsBelow_14] at w
      refine lv_iload C.1.1 C.1.2.1 dX1_countSectionsBelow_14 (lv_at hl 4 rfl) ?_
      refine lv_iload C.1.1 C.1.2.1 dX1_countSectionsBelow_16 (lv_at hl 3 rfl) ?_
      refine lv_icmp_ge (tgt := 53) C.1.1 C.1.2.1 dX1_countSectionsBelow_18 (by decide) (fun c9 => ?_) (fun c9 => ?_)
      · replace w := ql_if w c9
        refine lv_iload_n C.1.1 C.1.2.1 dX1_countSectionsBelow_53 rfl (lv_at hl 1 rfl) ?_
        exact ql_iret C S hr hlocks dX1_countSectionsBelow_54 ⟨Nat.le_of_ble_eq_true rfl, Nat.le_of_ble_eq_true rfl⟩ w
      · replace w := ql_ifn w c9
        refine ql_aload_n (r := rl3) C dX1_countSectionsBelow_21 rfl (lv_at hl 2 rfl) ?_
        refine lv_iload C.1.1 C.1.2.1 dX1_countSectionsBelow_22 (lv_at hl 4 rfl) ?_
        refine ql_aald (kd := 5) C S rfl rfl dX1_countSectionsBelow_24 w (fun r1 w => ?_)
        refine ql_astore (lv' := [(6, va_rf r1), (1, .int xl1), (2, .int xl2), (3, va_rf rl3), (4, .int xl4), (5, .int xl5)]) C dX1_countSectionsBelow_25 hl (by decide) rfl (fun ls hl => ?_)
        refine ql_aload (r := r1) C dX1_countSectionsBelow_27 (lv_at hl 0 rfl) ?_
        refine ql_getIN C S qf_6_0 (qn_RX1_144) dX1_countSectionsBelow_29 w (fun x2 w => ?_)
        refine lv_if_eq (tgt := 47) C.1.1 C.1.2.1 dX1_countSectionsBelow_32 (by decide) (fun c9 => ?_) (fun c9 => ?_)
        · replace w := ql_if w c9
          exact hB47 (qw_X1_countSectionsBelow_14 a0 Q n) ih xl1 xl2 rl3 xl4 xl5 _ _ _ _ S (lv_sub hl [1, 2, 3, 4, 5] rfl) w
        · replace w := ql_ifn w c9
          refine ql_aload (r := r1) C dX1_countSectionsBelow_35 (lv_at hl 0 rfl) ?_
          refine ql_getIN C S qf_6_2 (qn_RX1_176) dX1_countSectionsBelow_37 w (fun x3 w => ?_)
          refine lv_iload_n C.1.1 C.1.2.1 dX1_countSectionsBelow_40 rfl (lv_at hl 1 rfl) ?_
          refine lv_icmp_ge (tgt := 47) C.1.1 C.1.2.1 dX1_countSectionsBelow_41 (by decide) (fun c9 => ?_) (fun c9 => ?_)
          · replace w := ql_if w c9
            exact hB47 (qw_X1_countSectionsBelow_14 a0 Q n) ih xl1 xl2 rl3 xl4 xl5 _ _ _ _ S (lv_sub hl [1, 2, 3, 4, 5] rfl) w
          · replace w := ql_ifn w c9
            refine lv_iinc (v := (xl2 + (1 : Int32))) (lv' := [(2, .int (xl2 + (1 : Int32))), (6, va_rf r1), (1, .int xl1), (3, va_rf rl3), (4, .int xl4), (5, .int xl5)]) C.1.1 C.1.2.1 dX1_countSectionsBelow_44 hl (k := 2) rfl rfl (by decide) rfl (fun ls hl => ?_)
            exact hB47 (qw_X1_countSectionsBelow_14 a0 Q n) ih xl1 (xl2 + (1 : Int32)) rl3 xl4 xl5 _ _ _ _ S (lv_sub hl [2, 0, 3, 4, 5] rfl) w
  unfold qw_X1_countSectionsBelow at w
  refine lv_iconst (v := (0 : Int32)) C.1.1 C.1.2.1 dX1_countSectionsBelow_0 (by decide) ?_
  refine lv_istore_n (lv' := [(2, .int (0 : Int32)), (0, .ref a0), (1, .int xp1)]) C.1.1 C.1.2.1 dX1_countSectionsBelow_1 rfl hl (by decide) rfl (fun ls hl => ?_)
  refine ql_aload_n (r := (some a0)) C dX1_countSectionsBelow_2 rfl (lv_at hl 1 rfl) ?_
  refine ql_getR C S qf_4_0 gw_166 dX1_countSectionsBelow_3 w (fun r4 w => ?_)
  refine ql_astore_n (lv' := [(3, va_rf r4), (2, .int (0 : Int32)), (0, .ref a0), (1, .int xp1)]) C dX1_countSectionsBelow_6 rfl hl (by decide) rfl (fun ls hl => ?_)
  refine ql_aload_n (r := r4) C dX1_countSectionsBelow_7 rfl (lv_at hl 0 rfl) ?_
  refine ql_alen (kd := 5) C S rfl dX1_countSectionsBelow_8 w (fun x5 w => ?_)
  refine lv_istore (lv' := [(4, .int x5), (3, va_rf r4), (2, .int (0 : Int32)), (0, .ref a0), (1, .int xp1)]) C.1.1 C.1.2.1 dX1_countSectionsBelow_9 hl (by decide) (by generalize r4 = z9; cases z9 <;> rfl) (fun ls hl => ?_)
  refine lv_iconst (v := (0 : Int32)) C.1.1 C.1.2.1 dX1_countSectionsBelow_11 (by decide) ?_
  refine lv_istore (lv' := [(5, .int (0 : Int32)), (4, .int x5), (3, va_rf r4), (2, .int (0 : Int32)), (0, .ref a0), (1, .int xp1)]) C.1.1 C.1.2.1 dX1_countSectionsBelow_12 hl (by decide) rfl (fun ls hl => ?_)
  exact hB14 ql_FU xp1 (0 : Int32) r4 x5 (0 : Int32) _ _ _ _ S (lv_sub hl [5, 3, 2, 1, 0] rfl) w
def qw_X1_clauseAtRank_47 (a0 : Nat) (Q : Option Nat → ql_H → Prop) (k11 : Int32 → Option Nat → Int32 → Int32 → ql_H → Prop) (xl1 : Int32) (rl2 : Option Nat) (xl3 : Int32) (xl4 : Int32) (h : ql_H) : Prop :=
k11 xl1 rl2 xl3 (xl4 + (1 : Int32)) h
def qw_X1_clauseAtRank_11 (a0 : Nat) (Q : Option Nat → ql_H → Prop) : Nat → Int32 → Option Nat → Int32 → Int32 → ql_H → Prop
  | 0, _, _, _, _, _ => False
  | n + 1, xl1, rl2, xl3, xl4, h =>
    if xl3 ≤ xl4 then (Q none h) else (ql_lR h rl2 5 xl4 fun r1 =>
    ql_gI h r1 6 0 fun x2 =>
    if x2 = 0 then (qw_X1_clauseAtRank_47 a0 Q (qw_X1_clauseAtRank_11 a0 Q n) xl1 rl2 xl3 xl4 h) else (ql_gI h r1 6 2 fun x3 =>
    ql_rv h (some a0) 4 fun b4 => qw_X1_countSectionsBelow b4 x3 h (fun x4 h =>
    if x4 = xl1 then (Q r1 h) else (qw_X1_clauseAtRank_47 a0 Q (qw_X1_clauseAtRank_11 a0 Q n) xl1 rl2 xl3 xl4 h))))
def qw_X1_clauseAtRank (a0 : Nat) (xp1 : Int32) (h : ql_H) (Q : Option Nat → ql_H → Prop) : Prop :=
ql_gR h (some a0) 4 0 fun r6 =>
ql_len h r6 5 fun x7 =>
qw_X1_clauseAtRank_11 a0 Q ql_FU xp1 r6 x7 (0 : Int32) h
set_option maxHeartbeats 4000000 in
set_option maxRecDepth 100000 in
theorem qm_X1_clauseAtRank (l : Launch) (hl9 : l.stackTraces = false) (D : ql_D) (h0 : ql_H) (a0 : Nat) (xp1 : Int32) (Q : Option Nat → ql_H → Prop) (X : String → ql_H → Prop) (w : qw_X1_clauseAtRank a0 xp1 h0 Q) : ql_M D l yX1_clauseAtRank cX1_clauseAtRank 6 (some (.object "ClauseLedger$Clause")) ({ frames := 4, cells := 0, slots := 0, locals := 82 } : Room) h0 [.ref a0, .int xp1] (ql_rR Q) X 0 0 := by
  refine ql_ofW (by decide) (Nat.le_of_ble_eq_true rfl) ?_
  intro p e s m below meth c ls C hr hlocks hnm htab S hl
  have hl : lv_has ls 6 [(0, .ref a0), (1, .int xp1)] := hl
  have hB47 : ∀ (k11 : Int32 → Option Nat → Int32 → Int32 → ql_H → Prop) (hk11 : ∀ (xl1 : Int32) (rl2 : Option Nat) (xl3 : Int32) (xl4 : Int32) (h : ql_H) (H : Heap) (locs : List Loc) (ls : Array Slot), ql_S D h0 s H locs h → lv_has ls 6 [(0, .ref a0), (1, .int xl1), (2, va_rf rl2), (3, .int xl3), (4, .int xl4)] → k11 xl1 rl2 xl3 xl4 h → W p l e ({ frames := 4, cells := 0, slots := 0, locals := 82 } : Room) s m ([.ref a0, .int xp1] : List Value).toArray below meth c H locs 0 0 (vx_MQ below (ql_Q D h0 (ql_rR Q)) (ql_X D h0 X) ([.ref a0, .int xp1] : List Value).toArray s 0 0 (ql_A h0)) (F0 m 11 ls [])) , ∀ (xl1 : Int32) (rl2 : Option Nat) (xl3 : Int32) (xl4 : Int32) (h : ql_H) (H : Heap) (locs : List Loc) (ls : Array Slot), ql_S D h0 s H locs h → lv_has ls 6 [(0, .ref a0), (1, .int xl1), (2, va_rf rl2), (3, .int xl3), (4, .int xl4)] → qw_X1_clauseAtRank_47 a0 Q k11 xl1 rl2 xl3 xl4 h → W p l e ({ frames := 4, cells := 0, slots := 0, locals := 82 } : Room) s m ([.ref a0, .int xp1] : List Value).toArray below meth c H locs 0 0 (vx_MQ below (ql_Q D h0 (ql_rR Q)) (ql_X D h0 X) ([.ref a0, .int xp1] : List Value).toArray s 0 0 (ql_A h0)) (F0 m 47 ls []) := by
    intro k11 hk11 xl1 rl2 xl3 xl4 h H locs ls S hl w
    unfold qw_X1_clauseAtRank_47 at w
    refine lv_iinc (v := (xl4 + (1 : Int32))) (lv' := [(4, .int (xl4 + (1 : Int32))), (0, .ref a0), (1, .int xl1), (2, va_rf rl2), (3, .int xl3)]) C.1.1 C.1.2.1 dX1_clauseAtRank_47 hl (k := 4) rfl rfl (by decide) rfl (fun ls hl => ?_)
    refine lv_goto (tgt := 11) C.1.1 C.1.2.1 dX1_clauseAtRank_50 (by decide) ?_
    exact hk11 xl1 rl2 xl3 (xl4 + (1 : Int32)) _ _ _ _ S (lv_sub hl [1, 2, 3, 4, 0] rfl) w
  have hB11 : ∀ n : Nat, ∀ (xl1 : Int32) (rl2 : Option Nat) (xl3 : Int32) (xl4 : Int32) (h : ql_H) (H : Heap) (locs : List Loc) (ls : Array Slot), ql_S D h0 s H locs h → lv_has ls 6 [(0, .ref a0), (1, .int xl1), (2, va_rf rl2), (3, .int xl3), (4, .int xl4)] → qw_X1_clauseAtRank_11 a0 Q n xl1 rl2 xl3 xl4 h → W p l e ({ frames := 4, cells := 0, slots := 0, locals := 82 } : Room) s m ([.ref a0, .int xp1] : List Value).toArray below meth c H locs 0 0 (vx_MQ below (ql_Q D h0 (ql_rR Q)) (ql_X D h0 X) ([.ref a0, .int xp1] : List Value).toArray s 0 0 (ql_A h0)) (F0 m 11 ls []) := by
    intro n
    induction n with
    | zero => intro xl1 rl2 xl3 xl4 h H locs ls S hl w; rw [qw_X1_clauseAtRank_11] at w; exact w.elim
    | succ n ih =>
      intro xl1 rl2 xl3 xl4 h H locs ls S hl w
      rw [qw_X1_clauseAtRank_11] at w
      refine lv_iload C.1.1 C.1.2.1 dX1_clauseAtRank_11 (lv_at hl 4 rfl) ?_
      refine lv_iload_n C.1.1 C.1.2.1 dX1_clauseAtRank_13 rfl (lv_at hl 3 rfl) ?_
      refine lv_icmp_ge (tgt := 53) C.1.1 C.1.2.1 dX1_clauseAtRank_14 (by decide) (fun c9 => ?_) (fun c9 => ?_)
      · replace w := ql_if w c9
        refine ql_null C dX1_clauseAtRank_53 ?_
        exact ql_aret C S hr hlocks dX1_clauseAtRank_54 ⟨Nat.le_of_ble_eq_true rfl, Nat.le_of_ble_eq_true rfl⟩ w
      · replace w := ql_ifn w c9
        refine ql_aload_n (r := rl2) C dX1_clauseAtRank_17 rfl (lv_at hl 2 rfl) ?_
        refine lv_iload C.1.1 C.1.2.1 dX1_clauseAtRank_18 (lv_at hl 4 rfl) ?_
        refine ql_aald (kd := 5) C S rfl rfl dX1_clauseAtRank_20 w (fun r1 w => ?_)
        refine ql_astore (lv' := [(5, va_rf r1), (0, .ref a0), (1, .int xl1), (2, va_rf rl2), (3, .int xl3), (4, .int xl4)]) C dX1_clauseAtRank_21 hl (by decide) rfl (fun ls hl => ?_)
        refine ql_aload (r := r1) C dX1_clauseAtRank_23 (lv_at hl 0 rfl) ?_
        refine ql_getIN C S qf_6_0 (qn_RX1_144) dX1_clauseAtRank_25 w (fun x2 w => ?_)
        refine lv_if_eq (tgt := 47) C.1.1 C.1.2.1 dX1_clauseAtRank_28 (by decide) (fun c9 => ?_) (fun c9 => ?_)
        · replace w := ql_if w c9
          exact hB47 (qw_X1_clauseAtRank_11 a0 Q n) ih xl1 rl2 xl3 xl4 _ _ _ _ S (lv_sub hl [1, 2, 3, 4, 5] rfl) w
        · replace w := ql_ifn w c9
          refine ql_aload_n (r := (some a0)) C dX1_clauseAtRank_31 rfl (lv_at hl 1 rfl) ?_
          refine ql_aload (r := r1) C dX1_clauseAtRank_32 (lv_at hl 0 rfl) ?_
          refine ql_getIN C S qf_6_2 (qn_RX1_176) dX1_clauseAtRank_34 w (fun x3 w => ?_)
          refine ql_VI (As := [.int x3]) (rest := []) C S htab hlocks hl qy_X1_countSectionsBelow qi_X1_countSectionsBelow qs_X1_countSectionsBelow gw_455 (ci := 4) rfl w (fun b w => qm_X1_countSectionsBelow l hl9 D _ b x3 _ _ w) rfl ⟨Nat.le_of_ble_eq_true rfl, Nat.le_of_ble_eq_true rfl⟩ ⟨rfl, rfl⟩ (by exact Nat.le_of_ble_eq_true rfl) (fun b e9 => by cases e9; rfl) dX1_clauseAtRank_37 ⟨Nat.le_of_ble_eq_true rfl, Nat.le_of_ble_eq_true rfl⟩ ⟨Nat.le_of_ble_eq_true rfl, Nat.le_of_ble_eq_true rfl⟩ (fun x4 h H locs S w => ?_)
          refine W.cs (cells' := 0) (slots' := 0) rfl rfl ?_
          refine lv_iload_n C.1.1 C.1.2.1 dX1_clauseAtRank_40 rfl (lv_at hl 2 rfl) ?_
          refine lv_icmp_ne (tgt := 47) C.1.1 C.1.2.1 dX1_clauseAtRank_41 (by decide) (fun c9 => ?_) (fun c9 => ?_)
          · replace w := ql_ifn w c9
            exact hB47 (qw_X1_clauseAtRank_11 a0 Q n) ih xl1 rl2 xl3 xl4 _ _ _ _ S (lv_sub hl [1, 2, 3, 4, 5] rfl) w
          · replace w := ql_if w c9
            refine ql_aload (r := r1) C dX1_clauseAtRank_44 (lv_at hl 0 rfl) ?_
            exact ql_aret C S hr hlocks dX1_clauseAtRank_46 ⟨Nat.le_of_ble_eq_true rfl, Nat.le_of_ble_eq_true rfl⟩ w
  unfold qw_X1_clauseAtRank at w
  refine ql_aload_n (r := (some a0)) C dX1_clauseAtRank_0 rfl (lv_at hl 0 rfl) ?_
  refine ql_getR C S qf_4_0 gw_166 dX1_clauseAtRank_1 w (fun r6 w => ?_)
  refine ql_astore_n (lv' := [(2, va_rf r6), (0, .ref a0), (1, .int xp1)]) C dX1_clauseAtRank_4 rfl hl (by decide) rfl (fun ls hl => ?_)
  refine ql_aload_n (r := r6) C dX1_clauseAtRank_5 rfl (lv_at hl 0 rfl) ?_
  refine ql_alen (kd := 5) C S rfl dX1_clauseAtRank_6 w (fun x7 w => ?_)
  refine lv_istore_n (lv' := [(3, .int x7), (2, va_rf r6), (0, .ref a0), (1, .int xp1)]) C.1.1 C.1.2.1 dX1_clauseAtRank_7 rfl hl (by decide) (by generalize r6 = z9; cases z9 <;> rfl) (fun ls hl => ?_)
  refine lv_iconst (v := (0 : Int32)) C.1.1 C.1.2.1 dX1_clauseAtRank_8 (by decide) ?_
  refine lv_istore (lv' := [(4, .int (0 : Int32)), (3, .int x7), (2, va_rf r6), (0, .ref a0), (1, .int xp1)]) C.1.1 C.1.2.1 dX1_clauseAtRank_9 hl (by decide) rfl (fun ls hl => ?_)
  exact hB11 ql_FU xp1 r6 x7 (0 : Int32) _ _ _ _ S (lv_sub hl [3, 4, 2, 1, 0] rfl) w
def qw_X1_renumberSections_25 (a0 : Nat) (Q : ql_H → Prop) (k2 : Int32 → ql_H → Prop) (xl1 : Int32) (h : ql_H) : Prop :=
k2 (xl1 + (1 : Int32)) h
def qw_X1_renumberSections_2 (a0 : Nat) (Q : ql_H → Prop) : Nat → Int32 → ql_H → Prop
  | 0, _, _ => False
  | n + 1, xl1, h =>
    if (16 : Int32) ≤ xl1 then (Q h) else (ql_rv h (some a0) 4 fun b1 => qw_X1_clauseAtRank b1 xl1 h (fun r1 h =>
    if r1 = none then (qw_X1_renumberSections_25 a0 Q (qw_X1_renumberSections_2 a0 Q n) xl1 h) else (ql_pV h r1 6 2 (.int (xl1 + (1 : Int32))) fun h =>
    qw_X1_renumberSections_25 a0 Q (qw_X1_renumberSections_2 a0 Q n) xl1 h)))
def qw_X1_renumberSections (a0 : Nat) (h : ql_H) (Q : ql_H → Prop) : Prop :=
qw_X1_renumberSections_2 a0 Q ql_FU (0 : Int32) h
set_option maxHeartbeats 4000000 in
set_option maxRecDepth 100000 in
theorem qm_X1_renumberSections (l : Launch) (hl9 : l.stackTraces = false) (D : ql_D) (h0 : ql_H) (a0 : Nat) (Q : ql_H → Prop) (X : String → ql_H → Prop) (w : qw_X1_renumberSections a0 h0 Q) : ql_M D l yX1_renumberSections cX1_renumberSections 3 none ({ frames := 6, cells := 0, slots := 0, locals := 115 } : Room) h0 [.ref a0] (ql_rV Q) X 0 0 := by
  refine ql_ofW (by decide) (Nat.le_of_ble_eq_true rfl) ?_
  intro p e s m below meth c ls C hr hlocks hnm htab S hl
  have hl : lv_has ls 3 [(0, .ref a0)] := hl
  have hB25 : ∀ (k2 : Int32 → ql_H → Prop) (hk2 : ∀ (xl1 : Int32) (h : ql_H) (H : Heap) (locs : List Loc) (ls : Array Slot), ql_S D h0 s H locs h → lv_has ls 3 [(0, .ref a0), (1, .int xl1)] → k2 xl1 h → W p l e ({ frames := 6, cells := 0, slots := 0, locals := 115 } : Room) s m ([.ref a0] : List Value).toArray below meth c H locs 0 0 (vx_MQ below (ql_Q D h0 (ql_rV Q)) (ql_X D h0 X) ([.ref a0] : List Value).toArray s 0 0 (ql_A h0)) (F0 m 2 ls [])) , ∀ (xl1 : Int32) (h : ql_H) (H : Heap) (locs : List Loc) (ls : Array Slot), ql_S D h0 s H locs h → lv_has ls 3 [(0, .ref a0), (1, .int xl1)] → qw_X1_renumberSections_25 a0 Q k2 xl1 h → W p l e ({ frames := 6, cells := 0, slots := 0, locals := 115 } : Room) s m ([.ref a0] : List Value).toArray below meth c H locs 0 0 (vx_MQ below (ql_Q D h0 (ql_rV Q)) (ql_X D h0 X) ([.ref a0] : List Value).toArray s 0 0 (ql_A h0)) (F0 m 25 ls []) := by
    intro k2 hk2 xl1 h H locs ls S hl w
    unfold qw_X1_renumberSections_25 at w
    refine lv_iinc (v := (xl1 + (1 : Int32))) (lv' := [(1, .int (xl1 + (1 : Int32))), (0, .ref a0)]) C.1.1 C.1.2.1 dX1_renumberSections_25 hl (k := 1) rfl rfl (by decide) rfl (fun ls hl => ?_)
    refine lv_goto (tgt := 2) C.1.1 C.1.2.1 dX1_renumberSections_28 (by decide) ?_
    exact hk2 (xl1 + (1 : Int32)) _ _ _ _ S (lv_sub hl [1, 0] rfl) w
  have hB2 : ∀ n : Nat, ∀ (xl1 : Int32) (h : ql_H) (H : Heap) (locs : List Loc) (ls : Array Slot), ql_S D h0 s H locs h → lv_has ls 3 [(0, .ref a0), (1, .int xl1)] → qw_X1_renumberSections_2 a0 Q n xl1 h → W p l e ({ frames := 6, cells := 0, slots := 0, locals := 115 } : Room) s m ([.ref a0] : List Value).toArray below meth c H locs 0 0 (vx_MQ below (ql_Q D h0 (ql_rV Q)) (ql_X D h0 X) ([.ref a0] : List Value).toArray s 0 0 (ql_A h0)) (F0 m 2 ls []) := by
    intro n
    induction n with
    | zero => intro xl1 h H locs ls S hl w; rw [qw_X1_renumberSections_2] at w; exact w.elim
    | succ n ih =>
      intro xl1 h H locs ls S hl w
      rw [qw_X1_renumberSections_2] at w
      refine lv_iload_n C.1.1 C.1.2.1 dX1_renumberSections_2 rfl (lv_at hl 1 rfl) ?_
      refine lv_bipush (v := (16 : Int32)) C.1.1 C.1.2.1 dX1_renumberSections_3 (by decide) ?_
      refine lv_icmp_ge (tgt := 31) C.1.1 C.1.2.1 dX1_renumberSections_5 (by decide) (fun c9 => ?_) (fun c9 => ?_)
      · replace w := ql_if w c9
        exact ql_vret C S hr hlocks dX1_renumberSections_31 ⟨Nat.le_of_ble_eq_true rfl, Nat.le_of_ble_eq_true rfl⟩ w
      · replace w := ql_ifn w c9
        refine ql_aload_n (r := (some a0)) C dX1_renumberSections_8 rfl (lv_at hl 0 rfl) ?_
        refine lv_iload_n C.1.1 C.1.2.1 dX1_renumberSections_9 rfl (lv_at hl 1 rfl) ?_
        refine ql_VR (As := [.int xl1]) (rest := []) C S htab hlocks hl qy_X1_clauseAtRank qi_X1_clauseAtRank qs_X1_clauseAtRank gw_451 (ci := 4) rfl w (fun b w => qm_X1_clauseAtRank l hl9 D _ b xl1 _ _ w) rfl ⟨Nat.le_of_ble_eq_true rfl, Nat.le_of_ble_eq_true rfl⟩ ⟨rfl, rfl⟩ (by exact Nat.le_of_ble_eq_true rfl) (fun b e9 => by cases e9; rfl) dX1_renumberSections_10 ⟨Nat.le_of_ble_eq_true rfl, Nat.le_of_ble_eq_true rfl⟩ ⟨Nat.le_of_ble_eq_true rfl, Nat.le_of_ble_eq_true rfl⟩ (fun r1 h H locs S w => ?_)
        refine W.cs (cells' := 0) (slots' := 0) rfl rfl ?_
        refine ql_astore_n (lv' := [(2, va_rf r1), (0, .ref a0), (1, .int xl1)]) C dX1_renumberSections_13 rfl hl (by decide) rfl (fun ls hl => ?_)
        refine ql_aload_n (r := r1) C dX1_renumberSections_14 rfl (lv_at hl 0 rfl) ?_
        refine ql_ifnull (tgt := 25) C dX1_renumberSections_15 (by decide) (fun c9 => ?_) (fun c9 => ?_)
        · replace w := ql_if w c9
          exact hB25 (qw_X1_renumberSections_2 a0 Q n) ih xl1 _ _ _ _ S (lv_sub hl [1, 2] rfl) w
        · replace w := ql_ifn w c9
          refine ql_aload_n (r := r1) C dX1_renumberSections_18 rfl (lv_at hl 0 rfl) ?_
          refine lv_iload_n C.1.1 C.1.2.1 dX1_renumberSections_19 rfl (lv_at hl 2 rfl) ?_
          refine lv_iconst (v := (1 : Int32)) C.1.1 C.1.2.1 dX1_renumberSections_20 (by decide) ?_
          refine lv_iadd C.1.1 C.1.2.1 dX1_renumberSections_21 ?_
          refine ql_putVN C S qf_6_2 (qn_RX1_176) (tyX3) tyX3_ok nmX3 rfl dX1_renumberSections_22 (v := .int (xl1 + (1 : Int32))) rfl rfl w (fun h H locs S w => ?_)
          exact hB25 (qw_X1_renumberSections_2 a0 Q n) ih xl1 _ _ _ _ S (lv_sub hl [1, 2] rfl) w
  unfold qw_X1_renumberSections at w
  refine lv_iconst (v := (0 : Int32)) C.1.1 C.1.2.1 dX1_renumberSections_0 (by decide) ?_
  refine lv_istore_n (lv' := [(1, .int (0 : Int32)), (0, .ref a0)]) C.1.1 C.1.2.1 dX1_renumberSections_1 rfl hl (by decide) rfl (fun ls hl => ?_)
  exact hB2 ql_FU (0 : Int32) _ _ _ _ S (lv_sub hl [1, 0] rfl) w
def qw_X3_keepLastVersion (a0 : Nat) (h : ql_H) (Q : ql_H → Prop) : Prop :=
ql_rv h (some a0) 6 fun b1 => qw_X3_countVersions b1  h (fun x1 h =>
if x1 ≤ 0 then (Q h) else (ql_gR h (some a0) 6 5 fun r3 =>
ql_lI h r3 0 (x1 - (1 : Int32)) fun x4 =>
ql_gR h (some a0) 6 6 fun r5 =>
ql_lJ h r5 (x1 - (1 : Int32)) fun j6 =>
ql_rv h (some a0) 6 fun b6 => qw_X3_keepOnly b6 x4 j6 h (fun h =>
Q h)))
set_option maxHeartbeats 4000000 in
set_option maxRecDepth 100000 in
theorem qm_X3_keepLastVersion (l : Launch) (hl9 : l.stackTraces = false) (D : ql_D) (h0 : ql_H) (a0 : Nat) (Q : ql_H → Prop) (X : String → ql_H → Prop) (w : qw_X3_keepLastVersion a0 h0 Q) : ql_M D l yX3_keepLastVersion cX3_keepLastVersion 2 none ({ frames := 4, cells := 0, slots := 0, locals := 80 } : Room) h0 [.ref a0] (ql_rV Q) X 0 0 := by
  refine ql_ofW (by decide) (Nat.le_of_ble_eq_true rfl) ?_
  intro p e s m below meth c ls C hr hlocks hnm htab S hl
  have hl : lv_has ls 2 [(0, .ref a0)] := hl
  unfold qw_X3_keepLastVersion at w
  refine ql_aload_n (r := (some a0)) C dX3_keepLastVersion_0 rfl (lv_at hl 0 rfl) ?_
  refine ql_VI (As := []) (rest := []) C S htab hlocks hl qy_X3_countVersions qi_X3_countVersions qs_X3_countVersions gw_467 (ci := 6) rfl w (fun b w => qm_X3_countVersions l hl9 D _ b _ _ w) rfl ⟨Nat.le_of_ble_eq_true rfl, Nat.le_of_ble_eq_true rfl⟩ ⟨rfl, rfl⟩ (by exact Nat.le_of_ble_eq_true rfl) (fun b e9 => by cases e9; rfl) dX3_keepLastVersion_1 ⟨Nat.le_of_ble_eq_true rfl, Nat.le_of_ble_eq_true rfl⟩ ⟨Nat.le_of_ble_eq_true rfl, Nat.le_of_ble_eq_true rfl⟩ (fun x1 h H locs S w => ?_)
  refine W.cs (cells' := 0) (slots' := 0) rfl rfl ?_
  refine lv_istore_n (lv' := [(1, .int x1), (0, .ref a0)]) C.1.1 C.1.2.1 dX3_keepLastVersion_4 rfl hl (by decide) rfl (fun ls hl => ?_)
  refine lv_iload_n C.1.1 C.1.2.1 dX3_keepLastVersion_5 rfl (lv_at hl 0 rfl) ?_
  refine lv_if_le (tgt := 29) C.1.1 C.1.2.1 dX3_keepLastVersion_6 (by decide) (fun c9 => ?_) (fun c9 => ?_)
  · replace w := ql_if w c9
    exact ql_vret C S hr hlocks dX3_keepLastVersion_29 ⟨Nat.le_of_ble_eq_true rfl, Nat.le_of_ble_eq_true rfl⟩ w
  · replace w := ql_ifn w c9
    refine ql_aload_n (r := (some a0)) C dX3_keepLastVersion_9 rfl (lv_at hl 1 rfl) ?_
    refine ql_aload_n (r := (some a0)) C dX3_keepLastVersion_10 rfl (lv_at hl 1 rfl) ?_
    refine ql_getR C S qf_6_5 gw_144 dX3_keepLastVersion_11 w (fun r3 w => ?_)
    refine lv_iload_n C.1.1 C.1.2.1 dX3_keepLastVersion_14 rfl (lv_at hl 0 rfl) ?_
    refine lv_iconst (v := (1 : Int32)) C.1.1 C.1.2.1 dX3_keepLastVersion_15 (by decide) ?_
    refine lv_isub C.1.1 C.1.2.1 dX3_keepLastVersion_16 ?_
    refine ql_iald C S dX3_keepLastVersion_17 w (fun x4 w => ?_)
    refine ql_aload_n (r := (some a0)) C dX3_keepLastVersion_18 rfl (lv_at hl 1 rfl) ?_
    refine ql_getR C S qf_6_6 gw_145 dX3_keepLastVersion_19 w (fun r5 w => ?_)
    refine lv_iload_n C.1.1 C.1.2.1 dX3_keepLastVersion_22 rfl (lv_at hl 0 rfl) ?_
    refine lv_iconst (v := (1 : Int32)) C.1.1 C.1.2.1 dX3_keepLastVersion_23 (by decide) ?_
    refine lv_isub C.1.1 C.1.2.1 dX3_keepLastVersion_24 ?_
    refine ql_lald C S dX3_keepLastVersion_25 w (fun j6 w => ?_)
    refine ql_VV (As := [.int x4, .long j6]) (rest := []) C S htab hlocks hl qy_X3_keepOnly qi_X3_keepOnly qs_X3_keepOnly gw_471 (ci := 6) rfl w (fun b w => qm_X3_keepOnly l hl9 D _ b x4 j6 _ _ w) rfl ⟨Nat.le_of_ble_eq_true rfl, Nat.le_of_ble_eq_true rfl⟩ ⟨rfl, rfl⟩ (by exact Nat.le_of_ble_eq_true rfl) (fun b e9 => by cases e9; rfl) dX3_keepLastVersion_26 ⟨Nat.le_of_ble_eq_true rfl, Nat.le_of_ble_eq_true rfl⟩ ⟨Nat.le_of_ble_eq_true rfl, Nat.le_of_ble_eq_true rfl⟩ (fun h H locs S w => ?_)
    refine W.cs (cells' := 0) (slots' := 0) rfl rfl ?_
    exact ql_vret C S hr hlocks dX3_keepLastVersion_29 ⟨Nat.le_of_ble_eq_true rfl, Nat.le_of_ble_eq_true rfl⟩ w
