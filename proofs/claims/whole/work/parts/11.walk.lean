def qw_X1_forgetOldVersions_33 (a0 : Nat) (Q : ql_H → Prop) (k10 : Option Nat → Int32 → Int32 → ql_H → Prop) (rl1 : Option Nat) (xl2 : Int32) (xl3 : Int32) (h : ql_H) : Prop :=
k10 rl1 xl2 (xl3 + (1 : Int32)) h
def qw_X1_forgetOldVersions_10 (a0 : Nat) (Q : ql_H → Prop) : Nat → Option Nat → Int32 → Int32 → ql_H → Prop
  | 0, _, _, _, _ => False
  | n + 1, rl1, xl2, xl3, h =>
    if xl2 ≤ xl3 then (Q h) else (ql_lR h rl1 5 xl3 fun r1 =>
    ql_gI h r1 6 0 fun x2 =>
    if x2 = 0 then (qw_X1_forgetOldVersions_33 a0 Q (qw_X1_forgetOldVersions_10 a0 Q n) rl1 xl2 xl3 h) else (ql_rv h r1 6 fun b2 => qw_X3_keepLastVersion b2  h (fun h =>
    qw_X1_forgetOldVersions_33 a0 Q (qw_X1_forgetOldVersions_10 a0 Q n) rl1 xl2 xl3 h)))
def qw_X1_forgetOldVersions (a0 : Nat) (h : ql_H) (Q : ql_H → Prop) : Prop :=
ql_gR h (some a0) 4 0 fun r4 =>
ql_len h r4 5 fun x5 =>
qw_X1_forgetOldVersions_10 a0 Q ql_FU r4 x5 (0 : Int32) h
set_option maxHeartbeats 4000000 in
set_option maxRecDepth 100000 in
theorem qm_X1_forgetOldVersions (l : Launch) (hl9 : l.stackTraces = false) (D : ql_D) (h0 : ql_H) (a0 : Nat) (Q : ql_H → Prop) (X : String → ql_H → Prop) (w : qw_X1_forgetOldVersions a0 h0 Q) : ql_M D l yX1_forgetOldVersions cX1_forgetOldVersions 5 none ({ frames := 6, cells := 0, slots := 0, locals := 109 } : Room) h0 [.ref a0] (ql_rV Q) X 0 0 := by
  refine ql_ofW (by decide) (Nat.le_of_ble_eq_true rfl) ?_
  intro p e s m below meth c ls C hr hlocks hnm htab S hl
  have hl : lv_has ls 5 [(0, .ref a0)] := hl
  have hB33 : ∀ (k10 : Option Nat → Int32 → Int32 → ql_H → Prop) (hk10 : ∀ (rl1 : Option Nat) (xl2 : Int32) (xl3 : Int32) (h : ql_H) (H : Heap) (locs : List Loc) (ls : Array Slot), ql_S D h0 s H locs h → lv_has ls 5 [(1, va_rf rl1), (2, .int xl2), (3, .int xl3)] → k10 rl1 xl2 xl3 h → W p l e ({ frames := 6, cells := 0, slots := 0, locals := 109 } : Room) s m ([.ref a0] : List Value).toArray below meth c H locs 0 0 (vx_MQ below (ql_Q D h0 (ql_rV Q)) (ql_X D h0 X) ([.ref a0] : List Value).toArray s 0 0 (ql_A h0)) (F0 m 10 ls [])) , ∀ (rl1 : Option Nat) (xl2 : Int32) (xl3 : Int32) (h : ql_H) (H : Heap) (locs : List Loc) (ls : Array Slot), ql_S D h0 s H locs h → lv_has ls 5 [(1, va_rf rl1), (2, .int xl2), (3, .int xl3)] → qw_X1_forgetOldVersions_33 a0 Q k10 rl1 xl2 xl3 h → W p l e ({ frames := 6, cells := 0, slots := 0, locals := 109 } : Room) s m ([.ref a0] : List Value).toArray below meth c H locs 0 0 (vx_MQ below (ql_Q D h0 (ql_rV Q)) (ql_X D h0 X) ([.ref a0] : List Value).toArray s 0 0 (ql_A h0)) (F0 m 33 ls []) := by
    intro k10 hk10 rl1 xl2 xl3 h H locs ls S hl w
    unfold qw_X1_forgetOldVersions_33 at w
    refine lv_iinc (v := (xl3 + (1 : Int32))) (lv' := [(3, .int (xl3 + (1 : Int32))), (1, va_rf rl1), (2, .int xl2)]) C.1.1 C.1.2.1 dX1_forgetOldVersions_33 hl (k := 2) rfl rfl (by decide) rfl (fun ls hl => ?_)
    refine lv_goto (tgt := 10) C.1.1 C.1.2.1 dX1_forgetOldVersions_36 (by decide) ?_
    exact hk10 rl1 xl2 (xl3 + (1 : Int32)) _ _ _ _ S (lv_sub hl [1, 2, 0] rfl) w
  have hB10 : ∀ n : Nat, ∀ (rl1 : Option Nat) (xl2 : Int32) (xl3 : Int32) (h : ql_H) (H : Heap) (locs : List Loc) (ls : Array Slot), ql_S D h0 s H locs h → lv_has ls 5 [(1, va_rf rl1), (2, .int xl2), (3, .int xl3)] → qw_X1_forgetOldVersions_10 a0 Q n rl1 xl2 xl3 h → W p l e ({ frames := 6, cells := 0, slots := 0, locals := 109 } : Room) s m ([.ref a0] : List Value).toArray below meth c H locs 0 0 (vx_MQ below (ql_Q D h0 (ql_rV Q)) (ql_X D h0 X) ([.ref a0] : List Value).toArray s 0 0 (ql_A h0)) (F0 m 10 ls []) := by
    intro n
    induction n with
    | zero => intro rl1 xl2 xl3 h H locs ls S hl w; rw [qw_X1_forgetOldVersions_10] at w; exact w.elim
    | succ n ih =>
      intro rl1 xl2 xl3 h H locs ls S hl w
      rw [qw_X1_forgetOldVersions_10] at w
      refine lv_iload_n C.1.1 C.1.2.1 dX1_forgetOldVersions_10 rfl (lv_at hl 2 rfl) ?_
      refine lv_iload_n C.1.1 C.1.2.1 dX1_forgetOldVersions_11 rfl (lv_at hl 1 rfl) ?_
      refine lv_icmp_ge (tgt := 39) C.1.1 C.1.2.1 dX1_forgetOldVersions_12 (by decide) (fun c9 => ?_) (fun c9 => ?_)
      · replace w := ql_if w c9
        exact ql_vret C S hr hlocks dX1_forgetOldVersions_39 ⟨Nat.le_of_ble_eq_true rfl, Nat.le_of_ble_eq_true rfl⟩ w
      · replace w := ql_ifn w c9
        refine ql_aload_n (r := rl1) C dX1_forgetOldVersions_15 rfl (lv_at hl 0 rfl) ?_
        refine lv_iload_n C.1.1 C.1.2.1 dX1_forgetOldVersions_16 rfl (lv_at hl 2 rfl) ?_
        refine ql_aald (kd := 5) C S rfl rfl dX1_forgetOldVersions_17 w (fun r1 w => ?_)
        refine ql_astore (lv' := [(4, va_rf r1), (1, va_rf rl1), (2, .int xl2), (3, .int xl3)]) C dX1_forgetOldVersions_18 hl (by decide) rfl (fun ls hl => ?_)
        refine ql_aload (r := r1) C dX1_forgetOldVersions_20 (lv_at hl 0 rfl) ?_
        refine ql_getIN C S qf_6_0 (qn_RX1_144) dX1_forgetOldVersions_22 w (fun x2 w => ?_)
        refine lv_if_eq (tgt := 33) C.1.1 C.1.2.1 dX1_forgetOldVersions_25 (by decide) (fun c9 => ?_) (fun c9 => ?_)
        · replace w := ql_if w c9
          exact hB33 (qw_X1_forgetOldVersions_10 a0 Q n) ih rl1 xl2 xl3 _ _ _ _ S (lv_sub hl [1, 2, 3] rfl) w
        · replace w := ql_ifn w c9
          refine ql_aload (r := r1) C dX1_forgetOldVersions_28 (lv_at hl 0 rfl) ?_
          refine ql_VV (As := []) (rest := []) C S htab hlocks hl qy_X3_keepLastVersion qi_X3_keepLastVersion qs_X3_keepLastVersion gw_463 (ci := 6) rfl w (fun b w => qm_X3_keepLastVersion l hl9 D _ b _ _ w) rfl ⟨Nat.le_of_ble_eq_true rfl, Nat.le_of_ble_eq_true rfl⟩ ⟨rfl, rfl⟩ (by exact Nat.le_of_ble_eq_true rfl) (fun b e9 => by cases e9; rfl) dX1_forgetOldVersions_30 ⟨Nat.le_of_ble_eq_true rfl, Nat.le_of_ble_eq_true rfl⟩ ⟨Nat.le_of_ble_eq_true rfl, Nat.le_of_ble_eq_true rfl⟩ (fun h H locs S w => ?_)
          refine W.cs (cells' := 0) (slots' := 0) rfl rfl ?_
          exact hB33 (qw_X1_forgetOldVersions_10 a0 Q n) ih rl1 xl2 xl3 _ _ _ _ S (lv_sub hl [1, 2, 3] rfl) w
  unfold qw_X1_forgetOldVersions at w
  refine ql_aload_n (r := (some a0)) C dX1_forgetOldVersions_0 rfl (lv_at hl 0 rfl) ?_
  refine ql_getR C S qf_4_0 gw_166 dX1_forgetOldVersions_1 w (fun r4 w => ?_)
  refine ql_astore_n (lv' := [(1, va_rf r4), (0, .ref a0)]) C dX1_forgetOldVersions_4 rfl hl (by decide) rfl (fun ls hl => ?_)
  refine ql_aload_n (r := r4) C dX1_forgetOldVersions_5 rfl (lv_at hl 0 rfl) ?_
  refine ql_alen (kd := 5) C S rfl dX1_forgetOldVersions_6 w (fun x5 w => ?_)
  refine lv_istore_n (lv' := [(2, .int x5), (1, va_rf r4), (0, .ref a0)]) C.1.1 C.1.2.1 dX1_forgetOldVersions_7 rfl hl (by decide) (by generalize r4 = z9; cases z9 <;> rfl) (fun ls hl => ?_)
  refine lv_iconst (v := (0 : Int32)) C.1.1 C.1.2.1 dX1_forgetOldVersions_8 (by decide) ?_
  refine lv_istore_n (lv' := [(3, .int (0 : Int32)), (2, .int x5), (1, va_rf r4), (0, .ref a0)]) C.1.1 C.1.2.1 dX1_forgetOldVersions_9 rfl hl (by decide) rfl (fun ls hl => ?_)
  exact hB10 ql_FU r4 x5 (0 : Int32) _ _ _ _ S (lv_sub hl [2, 1, 0] rfl) w
def qw_J9_floorMod_7cf53 (xp0 : Int32) (xp1 : Int32) (h : ql_H) (Q : Int32 → ql_H → Prop) : Prop :=
¬ xp1 = 0 ∧
if 0 ≤ (xp0 ^^^ xp1) then (Q (xp0 - xp0 / xp1 * xp1) h) else (if (xp0 - xp0 / xp1 * xp1) = 0 then (Q (xp0 - xp0 / xp1 * xp1) h) else (Q ((xp0 - xp0 / xp1 * xp1) + xp1) h))
set_option maxHeartbeats 4000000 in
set_option maxRecDepth 100000 in
theorem qm_J9_floorMod_7cf53 (l : Launch) (hl9 : l.stackTraces = false) (D : ql_D) (h0 : ql_H) (xp0 : Int32) (xp1 : Int32) (Q : Int32 → ql_H → Prop) (X : String → ql_H → Prop) (w : qw_J9_floorMod_7cf53 xp0 xp1 h0 Q) : ql_M D l yJ9_floorMod_7cf53 cJ9_floorMod_7cf53 3 (some .int) ({ frames := 2, cells := 0, slots := 0, locals := 48 } : Room) h0 [.int xp0, .int xp1] (ql_rI Q) X 0 0 := by
  refine ql_ofW (by decide +kernel) (Nat.le_of_ble_eq_true rfl) ?_
  intro p e s m below meth c ls C hr hlocks hnm htab S hl
  have hl : lv_has ls 3 [(0, .int xp0), (1, .int xp1)] := hl
  unfold qw_J9_floorMod_7cf53 at w
  refine lv_iload_n C.1.1 C.1.2.1 dJ9_floorMod_7cf53_0 rfl (lv_at hl 0 rfl) ?_
  refine lv_iload_n C.1.1 C.1.2.1 dJ9_floorMod_7cf53_1 rfl (lv_at hl 1 rfl) ?_
  refine lv_irem C.1.1 C.1.2.1 dJ9_floorMod_7cf53_2 w.1 ?_
  replace w := w.2
  refine lv_istore_n (lv' := [(2, .int (xp0 - xp0 / xp1 * xp1)), (0, .int xp0), (1, .int xp1)]) C.1.1 C.1.2.1 dJ9_floorMod_7cf53_3 rfl hl (by decide) rfl (fun ls hl => ?_)
  refine lv_iload_n C.1.1 C.1.2.1 dJ9_floorMod_7cf53_4 rfl (lv_at hl 1 rfl) ?_
  refine lv_iload_n C.1.1 C.1.2.1 dJ9_floorMod_7cf53_5 rfl (lv_at hl 2 rfl) ?_
  refine lv_ixor C.1.1 C.1.2.1 dJ9_floorMod_7cf53_6 ?_
  refine lv_if_ge (tgt := 18) C.1.1 C.1.2.1 dJ9_floorMod_7cf53_7 (by decide) (fun c9 => ?_) (fun c9 => ?_)
  · replace w := ql_if w c9
    refine lv_iload_n C.1.1 C.1.2.1 dJ9_floorMod_7cf53_18 rfl (lv_at hl 0 rfl) ?_
    exact ql_iret C S hr hlocks dJ9_floorMod_7cf53_19 ⟨Nat.le_of_ble_eq_true rfl, Nat.le_of_ble_eq_true rfl⟩ w
  · replace w := ql_ifn w c9
    refine lv_iload_n C.1.1 C.1.2.1 dJ9_floorMod_7cf53_10 rfl (lv_at hl 0 rfl) ?_
    refine lv_if_eq (tgt := 18) C.1.1 C.1.2.1 dJ9_floorMod_7cf53_11 (by decide) (fun c9 => ?_) (fun c9 => ?_)
    · replace w := ql_if w c9
      refine lv_iload_n C.1.1 C.1.2.1 dJ9_floorMod_7cf53_18 rfl (lv_at hl 0 rfl) ?_
      exact ql_iret C S hr hlocks dJ9_floorMod_7cf53_19 ⟨Nat.le_of_ble_eq_true rfl, Nat.le_of_ble_eq_true rfl⟩ w
    · replace w := ql_ifn w c9
      refine lv_iload_n C.1.1 C.1.2.1 dJ9_floorMod_7cf53_14 rfl (lv_at hl 0 rfl) ?_
      refine lv_iload_n C.1.1 C.1.2.1 dJ9_floorMod_7cf53_15 rfl (lv_at hl 2 rfl) ?_
      refine lv_iadd C.1.1 C.1.2.1 dJ9_floorMod_7cf53_16 ?_
      exact ql_iret C S hr hlocks dJ9_floorMod_7cf53_17 ⟨Nat.le_of_ble_eq_true rfl, Nat.le_of_ble_eq_true rfl⟩ w
def qw_X1_placeOfEdition (xp0 : Int32) (h : ql_H) (Q : Int32 → ql_H → Prop) : Prop :=
qw_J9_floorMod_7cf53 xp0 (6 : Int32) h (fun x1 h =>
Q x1 h)
set_option maxHeartbeats 4000000 in
set_option maxRecDepth 100000 in
theorem qm_X1_placeOfEdition (l : Launch) (hl9 : l.stackTraces = false) (D : ql_D) (h0 : ql_H) (xp0 : Int32) (Q : Int32 → ql_H → Prop) (X : String → ql_H → Prop) (w : qw_X1_placeOfEdition xp0 h0 Q) : ql_M D l yX1_placeOfEdition cX1_placeOfEdition 1 (some .int) ({ frames := 4, cells := 0, slots := 0, locals := 78 } : Room) h0 [.int xp0] (ql_rI Q) X 0 0 := by
  refine ql_ofW (by decide) (Nat.le_of_ble_eq_true rfl) ?_
  intro p e s m below meth c ls C hr hlocks hnm htab S hl
  have hl : lv_has ls 1 [(0, .int xp0)] := hl
  unfold qw_X1_placeOfEdition at w
  refine lv_iload_n C.1.1 C.1.2.1 dX1_placeOfEdition_0 rfl (lv_at hl 0 rfl) ?_
  refine lv_bipush (v := (6 : Int32)) C.1.1 C.1.2.1 dX1_placeOfEdition_1 (by decide) ?_
  refine ql_SI (As := [.int xp0, .int (6 : Int32)]) (rest := []) C S htab hlocks hl qy_J9_floorMod_7cf53 qi_J9_floorMod_7cf53 gw_478 (qm_J9_floorMod_7cf53 l hl9 D _ xp0 (6 : Int32) _ _ w) rfl ⟨Nat.le_of_ble_eq_true rfl, Nat.le_of_ble_eq_true rfl⟩ ⟨rfl, rfl⟩ (by exact Nat.le_of_ble_eq_true rfl) rfl dX1_placeOfEdition_3 ⟨Nat.le_of_ble_eq_true rfl, Nat.le_of_ble_eq_true rfl⟩ ⟨Nat.le_of_ble_eq_true rfl, Nat.le_of_ble_eq_true rfl⟩ (fun x1 h H locs S w => ?_)
  refine W.cs (cells' := 0) (slots' := 0) rfl rfl ?_
  exact ql_iret C S hr hlocks dX1_placeOfEdition_6 ⟨Nat.le_of_ble_eq_true rfl, Nat.le_of_ble_eq_true rfl⟩ w
def qw_X1_makeEdition (a0 : Nat) (h : ql_H) (Q : Int32 → ql_H → Prop) : Prop :=
ql_rv h (some a0) 4 fun b0 => qw_X1_endLapsedClauses b0  h (fun h =>
ql_rv h (some a0) 4 fun b1 => qw_X1_dropCitesOfNoClause b1  h (fun h =>
ql_rv h (some a0) 4 fun b2 => qw_X1_renumberSections b2  h (fun h =>
ql_rv h (some a0) 4 fun b3 => qw_X1_forgetOldVersions b3  h (fun h =>
ql_gI h (some a0) 4 7 fun x5 =>
ql_pV h (some a0) 4 7 (.int (x5 + (1 : Int32))) fun h =>
ql_gR h (some a0) 4 8 fun r6 =>
ql_gI h (some a0) 4 7 fun x7 =>
qw_X1_placeOfEdition x7 h (fun x8 h =>
ql_gI h (some a0) 4 2 fun x9 =>
ql_sI h r6 0 x8 x9 fun h =>
ql_gI h (some a0) 4 7 fun x10 =>
Q x10 h)))))
set_option maxHeartbeats 4000000 in
set_option maxRecDepth 100000 in
theorem qm_X1_makeEdition (l : Launch) (hl9 : l.stackTraces = false) (D : ql_D) (h0 : ql_H) (a0 : Nat) (Q : Int32 → ql_H → Prop) (X : String → ql_H → Prop) (w : qw_X1_makeEdition a0 h0 Q) : ql_M D l yX1_makeEdition cX1_makeEdition 1 (some .int) ({ frames := 10, cells := 0, slots := 0, locals := 174 } : Room) h0 [.ref a0] (ql_rI Q) X 0 0 := by
  refine ql_ofW (by decide) (Nat.le_of_ble_eq_true rfl) ?_
  intro p e s m below meth c ls C hr hlocks hnm htab S hl
  have hl : lv_has ls 1 [(0, .ref a0)] := hl
  unfold qw_X1_makeEdition at w
  refine ql_aload_n (r := (some a0)) C dX1_makeEdition_0 rfl (lv_at hl 0 rfl) ?_
  refine ql_VV (As := []) (rest := []) C S htab hlocks hl qy_X1_endLapsedClauses qi_X1_endLapsedClauses qs_X1_endLapsedClauses gw_406 (ci := 4) rfl w (fun b w => qm_X1_endLapsedClauses l hl9 D _ b _ _ w) rfl ⟨Nat.le_of_ble_eq_true rfl, Nat.le_of_ble_eq_true rfl⟩ ⟨rfl, rfl⟩ (by exact Nat.le_of_ble_eq_true rfl) (fun b e9 => by cases e9; rfl) dX1_makeEdition_1 ⟨Nat.le_of_ble_eq_true rfl, Nat.le_of_ble_eq_true rfl⟩ ⟨Nat.le_of_ble_eq_true rfl, Nat.le_of_ble_eq_true rfl⟩ (fun h H locs S w => ?_)
  refine W.cs (cells' := 0) (slots' := 0) rfl rfl ?_
  refine ql_aload_n (r := (some a0)) C dX1_makeEdition_4 rfl (lv_at hl 0 rfl) ?_
  refine ql_VV (As := []) (rest := []) C S htab hlocks hl qy_X1_dropCitesOfNoClause qi_X1_dropCitesOfNoClause qs_X1_dropCitesOfNoClause gw_418 (ci := 4) rfl w (fun b w => qm_X1_dropCitesOfNoClause l hl9 D _ b _ _ w) rfl ⟨Nat.le_of_ble_eq_true rfl, Nat.le_of_ble_eq_true rfl⟩ ⟨rfl, rfl⟩ (by exact Nat.le_of_ble_eq_true rfl) (fun b e9 => by cases e9; rfl) dX1_makeEdition_5 ⟨Nat.le_of_ble_eq_true rfl, Nat.le_of_ble_eq_true rfl⟩ ⟨Nat.le_of_ble_eq_true rfl, Nat.le_of_ble_eq_true rfl⟩ (fun h H locs S w => ?_)
  refine W.cs (cells' := 0) (slots' := 0) rfl rfl ?_
  refine ql_aload_n (r := (some a0)) C dX1_makeEdition_8 rfl (lv_at hl 0 rfl) ?_
  refine ql_VV (As := []) (rest := []) C S htab hlocks hl qy_X1_renumberSections qi_X1_renumberSections qs_X1_renumberSections gw_447 (ci := 4) rfl w (fun b w => qm_X1_renumberSections l hl9 D _ b _ _ w) rfl ⟨Nat.le_of_ble_eq_true rfl, Nat.le_of_ble_eq_true rfl⟩ ⟨rfl, rfl⟩ (by exact Nat.le_of_ble_eq_true rfl) (fun b e9 => by cases e9; rfl) dX1_makeEdition_9 ⟨Nat.le_of_ble_eq_true rfl, Nat.le_of_ble_eq_true rfl⟩ ⟨Nat.le_of_ble_eq_true rfl, Nat.le_of_ble_eq_true rfl⟩ (fun h H locs S w => ?_)
  refine W.cs (cells' := 0) (slots' := 0) rfl rfl ?_
  refine ql_aload_n (r := (some a0)) C dX1_makeEdition_12 rfl (lv_at hl 0 rfl) ?_
  refine ql_VV (As := []) (rest := []) C S htab hlocks hl qy_X1_forgetOldVersions qi_X1_forgetOldVersions qs_X1_forgetOldVersions gw_459 (ci := 4) rfl w (fun b w => qm_X1_forgetOldVersions l hl9 D _ b _ _ w) rfl ⟨Nat.le_of_ble_eq_true rfl, Nat.le_of_ble_eq_true rfl⟩ ⟨rfl, rfl⟩ (by exact Nat.le_of_ble_eq_true rfl) (fun b e9 => by cases e9; rfl) dX1_makeEdition_13 ⟨Nat.le_of_ble_eq_true rfl, Nat.le_of_ble_eq_true rfl⟩ ⟨Nat.le_of_ble_eq_true rfl, Nat.le_of_ble_eq_true rfl⟩ (fun h H locs S w => ?_)
  refine W.cs (cells' := 0) (slots' := 0) rfl rfl ?_
  refine ql_aload_n (r := (some a0)) C dX1_makeEdition_16 rfl (lv_at hl 0 rfl) ?_
  refine lv_dup C.1.1 C.1.2.1 dX1_makeEdition_17 (ql_catR _) ?_
  refine ql_getI C S qf_4_7 gw_180 dX1_makeEdition_18 w (fun x5 w => ?_)
  refine lv_iconst (v := (1 : Int32)) C.1.1 C.1.2.1 dX1_makeEdition_21 (by decide) ?_
  refine lv_iadd C.1.1 C.1.2.1 dX1_makeEdition_22 ?_
  refine ql_putV C S qf_4_7 gw_180 (tyX1) tyX1_ok nmX1 rfl dX1_makeEdition_23 (v := .int (x5 + (1 : Int32))) rfl rfl w (fun h H locs S w => ?_)
  refine ql_aload_n (r := (some a0)) C dX1_makeEdition_26 rfl (lv_at hl 0 rfl) ?_
  refine ql_getR C S qf_4_8 gw_182 dX1_makeEdition_27 w (fun r6 w => ?_)
  refine ql_aload_n (r := (some a0)) C dX1_makeEdition_30 rfl (lv_at hl 0 rfl) ?_
  refine ql_getI C S qf_4_7 gw_180 dX1_makeEdition_31 w (fun x7 w => ?_)
  refine ql_SI (As := [.int x7]) (rest := [va_rf r6]) C S htab hlocks hl qy_X1_placeOfEdition qi_X1_placeOfEdition gw_475 (qm_X1_placeOfEdition l hl9 D _ x7 _ _ w) rfl ⟨Nat.le_of_ble_eq_true rfl, Nat.le_of_ble_eq_true rfl⟩ ⟨rfl, rfl⟩ (by generalize r6 = z0; cases z0 <;> exact Nat.le_of_ble_eq_true rfl) rfl dX1_makeEdition_34 ⟨Nat.le_of_ble_eq_true rfl, Nat.le_of_ble_eq_true rfl⟩ ⟨Nat.le_of_ble_eq_true rfl, Nat.le_of_ble_eq_true rfl⟩ (fun x8 h H locs S w => ?_)
  refine W.cs (cells' := 0) (slots' := 0) rfl rfl ?_
  refine ql_aload_n (r := (some a0)) C dX1_makeEdition_37 rfl (lv_at hl 0 rfl) ?_
  refine ql_getI C S qf_4_2 gw_170 dX1_makeEdition_38 w (fun x9 w => ?_)
  refine ql_iast C S dX1_makeEdition_41 w (fun h H locs S w => ?_)
  refine ql_aload_n (r := (some a0)) C dX1_makeEdition_42 rfl (lv_at hl 0 rfl) ?_
  refine ql_getI C S qf_4_7 gw_180 dX1_makeEdition_43 w (fun x10 w => ?_)
  exact ql_iret C S hr hlocks dX1_makeEdition_46 ⟨Nat.le_of_ble_eq_true rfl, Nat.le_of_ble_eq_true rfl⟩ w
def qw_X1_dayOfEdition (a0 : Nat) (xp1 : Int32) (h : ql_H) (Q : Int32 → ql_H → Prop) : Prop :=
ql_gR h (some a0) 4 8 fun r1 =>
qw_X1_placeOfEdition xp1 h (fun x2 h =>
ql_lI h r1 0 x2 fun x3 =>
Q x3 h)
set_option maxHeartbeats 4000000 in
set_option maxRecDepth 100000 in
theorem qm_X1_dayOfEdition (l : Launch) (hl9 : l.stackTraces = false) (D : ql_D) (h0 : ql_H) (a0 : Nat) (xp1 : Int32) (Q : Int32 → ql_H → Prop) (X : String → ql_H → Prop) (w : qw_X1_dayOfEdition a0 xp1 h0 Q) : ql_M D l yX1_dayOfEdition cX1_dayOfEdition 2 (some .int) ({ frames := 6, cells := 0, slots := 0, locals := 106 } : Room) h0 [.ref a0, .int xp1] (ql_rI Q) X 0 0 := by
  refine ql_ofW (by decide) (Nat.le_of_ble_eq_true rfl) ?_
  intro p e s m below meth c ls C hr hlocks hnm htab S hl
  have hl : lv_has ls 2 [(0, .ref a0), (1, .int xp1)] := hl
  unfold qw_X1_dayOfEdition at w
  refine ql_aload_n (r := (some a0)) C dX1_dayOfEdition_0 rfl (lv_at hl 0 rfl) ?_
  refine ql_getR C S qf_4_8 gw_182 dX1_dayOfEdition_1 w (fun r1 w => ?_)
  refine lv_iload_n C.1.1 C.1.2.1 dX1_dayOfEdition_4 rfl (lv_at hl 1 rfl) ?_
  refine ql_SI (As := [.int xp1]) (rest := [va_rf r1]) C S htab hlocks hl qy_X1_placeOfEdition qi_X1_placeOfEdition gw_475 (qm_X1_placeOfEdition l hl9 D _ xp1 _ _ w) rfl ⟨Nat.le_of_ble_eq_true rfl, Nat.le_of_ble_eq_true rfl⟩ ⟨rfl, rfl⟩ (by generalize r1 = z0; cases z0 <;> exact Nat.le_of_ble_eq_true rfl) rfl dX1_dayOfEdition_5 ⟨Nat.le_of_ble_eq_true rfl, Nat.le_of_ble_eq_true rfl⟩ ⟨Nat.le_of_ble_eq_true rfl, Nat.le_of_ble_eq_true rfl⟩ (fun x2 h H locs S w => ?_)
  refine W.cs (cells' := 0) (slots' := 0) rfl rfl ?_
  refine ql_iald C S dX1_dayOfEdition_8 w (fun x3 w => ?_)
  exact ql_iret C S hr hlocks dX1_dayOfEdition_9 ⟨Nat.le_of_ble_eq_true rfl, Nat.le_of_ble_eq_true rfl⟩ w
def qw_X1_countHoldingOn_47 (a0 : Nat) (Q : Int32 → ql_H → Prop) (k14 : Int32 → Int32 → Option Nat → Int32 → Int32 → ql_H → Prop) (xl1 : Int32) (xl2 : Int32) (rl3 : Option Nat) (xl4 : Int32) (xl5 : Int32) (h : ql_H) : Prop :=
k14 xl1 xl2 rl3 xl4 (xl5 + (1 : Int32)) h
def qw_X1_countHoldingOn_14 (a0 : Nat) (Q : Int32 → ql_H → Prop) : Nat → Int32 → Int32 → Option Nat → Int32 → Int32 → ql_H → Prop
  | 0, _, _, _, _, _, _ => False
  | n + 1, xl1, xl2, rl3, xl4, xl5, h =>
    if xl4 ≤ xl5 then (Q xl2 h) else (ql_lR h rl3 5 xl5 fun r1 =>
    ql_gI h r1 6 0 fun x2 =>
    if x2 = 0 then (qw_X1_countHoldingOn_47 a0 Q (qw_X1_countHoldingOn_14 a0 Q n) xl1 xl2 rl3 xl4 xl5 h) else (ql_rv h r1 6 fun b3 => qw_X3_holdsOn b3 xl1 h (fun x3 h =>
    if x3 = 0 then (qw_X1_countHoldingOn_47 a0 Q (qw_X1_countHoldingOn_14 a0 Q n) xl1 xl2 rl3 xl4 xl5 h) else (qw_X1_countHoldingOn_47 a0 Q (qw_X1_countHoldingOn_14 a0 Q n) xl1 (xl2 + (1 : Int32)) rl3 xl4 xl5 h))))
def qw_X1_countHoldingOn (a0 : Nat) (xp1 : Int32) (h : ql_H) (Q : Int32 → ql_H → Prop) : Prop :=
ql_gR h (some a0) 4 0 fun r5 =>
ql_len h r5 5 fun x6 =>
qw_X1_countHoldingOn_14 a0 Q ql_FU xp1 (0 : Int32) r5 x6 (0 : Int32) h
set_option maxHeartbeats 4000000 in
set_option maxRecDepth 100000 in
theorem qm_X1_countHoldingOn (l : Launch) (hl9 : l.stackTraces = false) (D : ql_D) (h0 : ql_H) (a0 : Nat) (xp1 : Int32) (Q : Int32 → ql_H → Prop) (X : String → ql_H → Prop) (w : qw_X1_countHoldingOn a0 xp1 h0 Q) : ql_M D l yX1_countHoldingOn cX1_countHoldingOn 7 (some .int) ({ frames := 6, cells := 0, slots := 0, locals := 105 } : Room) h0 [.ref a0, .int xp1] (ql_rI Q) X 0 0 := by
  refine ql_ofW (by decide) (Nat.le_of_ble_eq_true rfl) ?_
  intro p e s m below meth c ls C hr hlocks hnm htab S hl
  have hl : lv_has ls 7 [(0, .ref a0), (1, .int xp1)] := hl
  have hB47 : ∀ (k14 : Int32 → Int32 → Option Nat → Int32 → Int32 → ql_H → Prop) (hk14 : ∀ (xl1 : Int32) (xl2 : Int32) (rl3 : Option Nat) (xl4 : Int32) (xl5 : Int32) (h : ql_H) (H : Heap) (locs : List Loc) (ls : Array Slot), ql_S D h0 s H locs h → lv_has ls 7 [(1, .int xl1), (2, .int xl2), (3, va_rf rl3), (4, .int xl4), (5, .int xl5)] → k14 xl1 xl2 rl3 xl4 xl5 h → W p l e ({ frames := 6, cells := 0, slots := 0, locals := 105 } : Room) s m ([.ref a0, .int xp1] : List Value).toArray below meth c H locs 0 0 (vx_MQ below (ql_Q D h0 (ql_rI Q)) (ql_X D h0 X) ([.ref a0, .int xp1] : List Value).toArray s 0 0 (ql_A h0)) (F0 m 14 ls [])) , ∀ (xl1 : Int32) (xl2 : Int32) (rl3 : Option Nat) (xl4 : Int32) (xl5 : Int32) (h : ql_H) (H : Heap) (locs : List Loc) (ls : Array Slot), ql_S D h0 s H locs h → lv_has ls 7 [(1, .int xl1), (2, .int xl2), (3, va_rf rl3), (4, .int xl4), (5, .int xl5)] → qw_X1_countHoldingOn_47 a0 Q k14 xl1 xl2 rl3 xl4 xl5 h → W p l e ({ frames := 6, cells := 0, slots := 0, locals := 105 } : Room) s m ([.ref a0, .int xp1] : List Value).toArray below meth c H locs 0 0 (vx_MQ below (ql_Q D h0 (ql_rI Q)) (ql_X D h0 X) ([.ref a0, .int xp1] : List Value).toArray s 0 0 (ql_A h0)) (F0 m 47 ls []) := by
    intro k14 hk14 xl1 xl2 rl3 xl4 xl5 h H locs ls S hl w
    unfold qw_X1_countHoldingOn_47 at w
    refine lv_iinc (v := (xl5 + (1 : Int32))) (lv' := [(5, .int (xl5 + (1 : Int32))), (1, .int xl1), (2, .int xl2), (3, va_rf rl3), (4, .int xl4)]) C.1.1 C.1.2.1 dX1_countHoldingOn_47 hl (k := 4) rfl rfl (by decide) rfl (fun ls hl => ?_)
    refine lv_goto (tgt := 14) C.1.1 C.1.2.1 dX1_countHoldingOn_50 (by decide) ?_
    exact hk14 xl1 xl2 rl3 xl4 (xl5 + (1 : Int32)) _ _ _ _ S (lv_sub hl [1, 2, 3, 4, 0] rfl) w
  have hB14 : ∀ n : Nat, ∀ (xl1 : Int32) (xl2 : Int32) (rl3 : Option Nat) (xl4 : Int32) (xl5 : Int32) (h : ql_H) (H : Heap) (locs : List Loc) (ls : Array Slot), ql_S D h0 s H locs h → lv_has ls 7 [(1, .int xl1), (2, .int xl2), (3, va_rf rl3), (4, .int xl4), (5, .int xl5)] → qw_X1_countHoldingOn_14 a0 Q n xl1 xl2 rl3 xl4 xl5 h → W p l e ({ frames := 6, cells := 0, slots := 0, locals := 105 } : Room) s m ([.ref a0, .int xp1] : List Value).toArray below meth c H locs 0 0 (vx_MQ below (ql_Q D h0 (ql_rI Q)) (ql_X D h0 X) ([.ref a0, .int xp1] : List Value).toArray s 0 0 (ql_A h0)) (F0 m 14 ls []) := by
    intro n
    induction n with
    | zero => intro xl1 xl2 rl3 xl4 xl5 h H locs ls S hl w; rw [qw_X1_countHoldingOn_14] at w; exact w.elim
    | succ n ih =>
      intro xl1 xl2 rl3 xl4 xl5 h H locs ls S hl w
      rw [qw_X1_countHoldingOn_14] at w
      refine lv_iload C.1.1 C.1.2.1 dX1_countHoldingOn_14 (lv_at hl 4 rfl) ?_
      refine lv_iload C.1.1 C.1.2.1 dX1_countHoldingOn_16 (lv_at hl 3 rfl) ?_
      refine lv_icmp_ge (tgt := 53) C.1.1 C.1.2.1 dX1_countHoldingOn_18 (by decide) (fun c9 => ?_) (fun c9 => ?_)
      · replace w := ql_if w c9
        refine lv_iload_n C.1.1 C.1.2.1 dX1_countHoldingOn_53 rfl (lv_at hl 1 rfl) ?_
        exact ql_iret C S hr hlocks dX1_countHoldingOn_54 ⟨Nat.le_of_ble_eq_true rfl, Nat.le_of_ble_eq_true rfl⟩ w
      · replace w := ql_ifn w c9
        refine ql_aload_n (r := rl3) C dX1_countHoldingOn_21 rfl (lv_at hl 2 rfl) ?_
        refine lv_iload C.1.1 C.1.2.1 dX1_countHoldingOn_22 (lv_at hl 4 rfl) ?_
        refine ql_aald (kd := 5) C S rfl rfl dX1_countHoldingOn_24 w (fun r1 w => ?_)
        refine ql_astore (lv' := [(6, va_rf r1), (1, .int xl1), (2, .int xl2), (3, va_rf rl3), (4, .int xl4), (5, .int xl5)]) C dX1_countHoldingOn_25 hl (by decide) rfl (fun ls hl => ?_)
        refine ql_aload (r := r1) C dX1_countHoldingOn_27 (lv_at hl 0 rfl) ?_
        refine ql_getIN C S qf_6_0 (qn_RX1_144) dX1_countHoldingOn_29 w (fun x2 w => ?_)
        refine lv_if_eq (tgt := 47) C.1.1 C.1.2.1 dX1_countHoldingOn_32 (by decide) (fun c9 => ?_) (fun c9 => ?_)
        · replace w := ql_if w c9
          exact hB47 (qw_X1_countHoldingOn_14 a0 Q n) ih xl1 xl2 rl3 xl4 xl5 _ _ _ _ S (lv_sub hl [1, 2, 3, 4, 5] rfl) w
        · replace w := ql_ifn w c9
          refine ql_aload (r := r1) C dX1_countHoldingOn_35 (lv_at hl 0 rfl) ?_
          refine lv_iload_n C.1.1 C.1.2.1 dX1_countHoldingOn_37 rfl (lv_at hl 1 rfl) ?_
          refine ql_VI (As := [.int xl1]) (rest := []) C S htab hlocks hl qy_X3_holdsOn qi_X3_holdsOn qs_X3_holdsOn gw_645 (ci := 6) rfl w (fun b w => qm_X3_holdsOn l hl9 D _ b xl1 _ _ w) rfl ⟨Nat.le_of_ble_eq_true rfl, Nat.le_of_ble_eq_true rfl⟩ ⟨rfl, rfl⟩ (by exact Nat.le_of_ble_eq_true rfl) (fun b e9 => by cases e9; rfl) dX1_countHoldingOn_38 ⟨Nat.le_of_ble_eq_true rfl, Nat.le_of_ble_eq_true rfl⟩ ⟨Nat.le_of_ble_eq_true rfl, Nat.le_of_ble_eq_true rfl⟩ (fun x3 h H locs S w => ?_)
          refine W.cs (cells' := 0) (slots' := 0) rfl rfl ?_
          refine lv_if_eq (tgt := 47) C.1.1 C.1.2.1 dX1_countHoldingOn_41 (by decide) (fun c9 => ?_) (fun c9 => ?_)
          · replace w := ql_if w c9
            exact hB47 (qw_X1_countHoldingOn_14 a0 Q n) ih xl1 xl2 rl3 xl4 xl5 _ _ _ _ S (lv_sub hl [1, 2, 3, 4, 5] rfl) w
          · replace w := ql_ifn w c9
            refine lv_iinc (v := (xl2 + (1 : Int32))) (lv' := [(2, .int (xl2 + (1 : Int32))), (6, va_rf r1), (1, .int xl1), (3, va_rf rl3), (4, .int xl4), (5, .int xl5)]) C.1.1 C.1.2.1 dX1_countHoldingOn_44 hl (k := 2) rfl rfl (by decide) rfl (fun ls hl => ?_)
            exact hB47 (qw_X1_countHoldingOn_14 a0 Q n) ih xl1 (xl2 + (1 : Int32)) rl3 xl4 xl5 _ _ _ _ S (lv_sub hl [2, 0, 3, 4, 5] rfl) w
  unfold qw_X1_countHoldingOn at w
  refine lv_iconst (v := (0 : Int32)) C.1.1 C.1.2.1 dX1_countHoldingOn_0 (by decide) ?_
  refine lv_istore_n (lv' := [(2, .int (0 : Int32)), (0, .ref a0), (1, .int xp1)]) C.1.1 C.1.2.1 dX1_countHoldingOn_1 rfl hl (by decide) rfl (fun ls hl => ?_)
  refine ql_aload_n (r := (some a0)) C dX1_countHoldingOn_2 rfl (lv_at hl 1 rfl) ?_
  refine ql_getR C S qf_4_0 gw_166 dX1_countHoldingOn_3 w (fun r5 w => ?_)
  refine ql_astore_n (lv' := [(3, va_rf r5), (2, .int (0 : Int32)), (0, .ref a0), (1, .int xp1)]) C dX1_countHoldingOn_6 rfl hl (by decide) rfl (fun ls hl => ?_)
  refine ql_aload_n (r := r5) C dX1_countHoldingOn_7 rfl (lv_at hl 0 rfl) ?_
  refine ql_alen (kd := 5) C S rfl dX1_countHoldingOn_8 w (fun x6 w => ?_)
  refine lv_istore (lv' := [(4, .int x6), (3, va_rf r5), (2, .int (0 : Int32)), (0, .ref a0), (1, .int xp1)]) C.1.1 C.1.2.1 dX1_countHoldingOn_9 hl (by decide) (by generalize r5 = z9; cases z9 <;> rfl) (fun ls hl => ?_)
  refine lv_iconst (v := (0 : Int32)) C.1.1 C.1.2.1 dX1_countHoldingOn_11 (by decide) ?_
  refine lv_istore (lv' := [(5, .int (0 : Int32)), (4, .int x6), (3, va_rf r5), (2, .int (0 : Int32)), (0, .ref a0), (1, .int xp1)]) C.1.1 C.1.2.1 dX1_countHoldingOn_12 hl (by decide) rfl (fun ls hl => ?_)
  exact hB14 ql_FU xp1 (0 : Int32) r5 x6 (0 : Int32) _ _ _ _ S (lv_sub hl [5, 3, 2, 1, 0] rfl) w
def qw_X1_countNotes_44 (a0 : Nat) (Q : Int32 → ql_H → Prop) (k13 : Int32 → Option Nat → Int32 → Int32 → ql_H → Prop) (xl1 : Int32) (rl2 : Option Nat) (xl3 : Int32) (xl4 : Int32) (h : ql_H) : Prop :=
k13 xl1 rl2 xl3 (xl4 + (1 : Int32)) h
def qw_X1_countNotes_13 (a0 : Nat) (Q : Int32 → ql_H → Prop) : Nat → Int32 → Option Nat → Int32 → Int32 → ql_H → Prop
  | 0, _, _, _, _, _ => False
  | n + 1, xl1, rl2, xl3, xl4, h =>
    if xl3 ≤ xl4 then (Q xl1 h) else (ql_lR h rl2 5 xl4 fun r1 =>
    ql_gI h r1 6 0 fun x2 =>
    if x2 = 0 then (qw_X1_countNotes_44 a0 Q (qw_X1_countNotes_13 a0 Q n) xl1 rl2 xl3 xl4 h) else (ql_rv h r1 6 fun b3 => qw_X3_latestText b3  h (fun j3 h =>
    qw_X9_lengthOf j3 h (fun x5 h =>
    qw_X1_countNotes_44 a0 Q (qw_X1_countNotes_13 a0 Q n) (xl1 + x5) rl2 xl3 xl4 h))))
def qw_X1_countNotes (a0 : Nat) (h : ql_H) (Q : Int32 → ql_H → Prop) : Prop :=
ql_gR h (some a0) 4 0 fun r6 =>
ql_len h r6 5 fun x7 =>
qw_X1_countNotes_13 a0 Q ql_FU (0 : Int32) r6 x7 (0 : Int32) h
set_option maxHeartbeats 4000000 in
set_option maxRecDepth 100000 in
theorem qm_X1_countNotes (l : Launch) (hl9 : l.stackTraces = false) (D : ql_D) (h0 : ql_H) (a0 : Nat) (Q : Int32 → ql_H → Prop) (X : String → ql_H → Prop) (w : qw_X1_countNotes a0 h0 Q) : ql_M D l yX1_countNotes cX1_countNotes 6 (some .int) ({ frames := 6, cells := 0, slots := 0, locals := 108 } : Room) h0 [.ref a0] (ql_rI Q) X 0 0 := by
  refine ql_ofW (by decide) (Nat.le_of_ble_eq_true rfl) ?_
  intro p e s m below meth c ls C hr hlocks hnm htab S hl
  have hl : lv_has ls 6 [(0, .ref a0)] := hl
  have hB44 : ∀ (k13 : Int32 → Option Nat → Int32 → Int32 → ql_H → Prop) (hk13 : ∀ (xl1 : Int32) (rl2 : Option Nat) (xl3 : Int32) (xl4 : Int32) (h : ql_H) (H : Heap) (locs : List Loc) (ls : Array Slot), ql_S D h0 s H locs h → lv_has ls 6 [(1, .int xl1), (2, va_rf rl2), (3, .int xl3), (4, .int xl4)] → k13 xl1 rl2 xl3 xl4 h → W p l e ({ frames := 6, cells := 0, slots := 0, locals := 108 } : Room) s m ([.ref a0] : List Value).toArray below meth c H locs 0 0 (vx_MQ below (ql_Q D h0 (ql_rI Q)) (ql_X D h0 X) ([.ref a0] : List Value).toArray s 0 0 (ql_A h0)) (F0 m 13 ls [])) , ∀ (xl1 : Int32) (rl2 : Option Nat) (xl3 : Int32) (xl4 : Int32) (h : ql_H) (H : Heap) (locs : List Loc) (ls : Array Slot), ql_S D h0 s H locs h → lv_has ls 6 [(1, .int xl1), (2, va_rf rl2), (3, .int xl3), (4, .int xl4)] → qw_X1_countNotes_44 a0 Q k13 xl1 rl2 xl3 xl4 h → W p l e ({ frames := 6, cells := 0, slots := 0, locals := 108 } : Room) s m ([.ref a0] : List Value).toArray below meth c H locs 0 0 (vx_MQ below (ql_Q D h0 (ql_rI Q)) (ql_X D h0 X) ([.ref a0] : List Value).toArray s 0 0 (ql_A h0)) (F0 m 44 ls []) := by
    intro k13 hk13 xl1 rl2 xl3 xl4 h H locs ls S hl w
    unfold qw_X1_countNotes_44 at w
    refine lv_iinc (v := (xl4 + (1 : Int32))) (lv' := [(4, .int (xl4 + (1 : Int32))), (1, .int xl1), (2, va_rf rl2), (3, .int xl3)]) C.1.1 C.1.2.1 dX1_countNotes_44 hl (k := 3) rfl rfl (by decide) rfl (fun ls hl => ?_)
    refine lv_goto (tgt := 13) C.1.1 C.1.2.1 dX1_countNotes_47 (by decide) ?_
    exact hk13 xl1 rl2 xl3 (xl4 + (1 : Int32)) _ _ _ _ S (lv_sub hl [1, 2, 3, 0] rfl) w
  have hB13 : ∀ n : Nat, ∀ (xl1 : Int32) (rl2 : Option Nat) (xl3 : Int32) (xl4 : Int32) (h : ql_H) (H : Heap) (locs : List Loc) (ls : Array Slot), ql_S D h0 s H locs h → lv_has ls 6 [(1, .int xl1), (2, va_rf rl2), (3, .int xl3), (4, .int xl4)] → qw_X1_countNotes_13 a0 Q n xl1 rl2 xl3 xl4 h → W p l e ({ frames := 6, cells := 0, slots := 0, locals := 108 } : Room) s m ([.ref a0] : List Value).toArray below meth c H locs 0 0 (vx_MQ below (ql_Q D h0 (ql_rI Q)) (ql_X D h0 X) ([.ref a0] : List Value).toArray s 0 0 (ql_A h0)) (F0 m 13 ls []) := by
    intro n
    induction n with
    | zero => intro xl1 rl2 xl3 xl4 h H locs ls S hl w; rw [qw_X1_countNotes_13] at w; exact w.elim
    | succ n ih =>
      intro xl1 rl2 xl3 xl4 h H locs ls S hl w
      rw [qw_X1_countNotes_13] at w
      refine lv_iload C.1.1 C.1.2.1 dX1_countNotes_13 (lv_at hl 3 rfl) ?_
      refine lv_iload_n C.1.1 C.1.2.1 dX1_countNotes_15 rfl (lv_at hl 2 rfl) ?_
      refine lv_icmp_ge (tgt := 50) C.1.1 C.1.2.1 dX1_countNotes_16 (by decide) (fun c9 => ?_) (fun c9 => ?_)
      · replace w := ql_if w c9
        refine lv_iload_n C.1.1 C.1.2.1 dX1_countNotes_50 rfl (lv_at hl 0 rfl) ?_
        exact ql_iret C S hr hlocks dX1_countNotes_51 ⟨Nat.le_of_ble_eq_true rfl, Nat.le_of_ble_eq_true rfl⟩ w
      · replace w := ql_ifn w c9
        refine ql_aload_n (r := rl2) C dX1_countNotes_19 rfl (lv_at hl 1 rfl) ?_
        refine lv_iload C.1.1 C.1.2.1 dX1_countNotes_20 (lv_at hl 3 rfl) ?_
        refine ql_aald (kd := 5) C S rfl rfl dX1_countNotes_22 w (fun r1 w => ?_)
        refine ql_astore (lv' := [(5, va_rf r1), (1, .int xl1), (2, va_rf rl2), (3, .int xl3), (4, .int xl4)]) C dX1_countNotes_23 hl (by decide) rfl (fun ls hl => ?_)
        refine ql_aload (r := r1) C dX1_countNotes_25 (lv_at hl 0 rfl) ?_
        refine ql_getIN C S qf_6_0 (qn_RX1_144) dX1_countNotes_27 w (fun x2 w => ?_)
        refine lv_if_eq (tgt := 44) C.1.1 C.1.2.1 dX1_countNotes_30 (by decide) (fun c9 => ?_) (fun c9 => ?_)
        · replace w := ql_if w c9
          exact hB44 (qw_X1_countNotes_13 a0 Q n) ih xl1 rl2 xl3 xl4 _ _ _ _ S (lv_sub hl [1, 2, 3, 4] rfl) w
        · replace w := ql_ifn w c9
          refine lv_iload_n C.1.1 C.1.2.1 dX1_countNotes_33 rfl (lv_at hl 1 rfl) ?_
          refine ql_aload (r := r1) C dX1_countNotes_34 (lv_at hl 0 rfl) ?_
          refine ql_VJ (As := []) (rest := [.int xl1]) C S htab hlocks hl qy_X3_latestText qi_X3_latestText qs_X3_latestText gw_845 (ci := 6) rfl w (fun b w => qm_X3_latestText l hl9 D _ b _ _ w) rfl ⟨Nat.le_of_ble_eq_true rfl, Nat.le_of_ble_eq_true rfl⟩ ⟨rfl, rfl⟩ (by exact Nat.le_of_ble_eq_true rfl) (fun b e9 => by cases e9; rfl) dX1_countNotes_36 ⟨Nat.le_of_ble_eq_true rfl, Nat.le_of_ble_eq_true rfl⟩ ⟨Nat.le_of_ble_eq_true rfl, Nat.le_of_ble_eq_true rfl⟩ (fun j3 h H locs S w => ?_)
          refine W.cs (cells' := 0) (slots' := 0) rfl rfl ?_
          refine ql_SI (As := [.long j3]) (rest := [.int xl1]) C S htab hlocks hl qy_X9_lengthOf qi_X9_lengthOf gw_846 (qm_X9_lengthOf l hl9 D _ j3 _ _ w) rfl ⟨Nat.le_of_ble_eq_true rfl, Nat.le_of_ble_eq_true rfl⟩ ⟨rfl, rfl⟩ (by exact Nat.le_of_ble_eq_true rfl) rfl dX1_countNotes_39 ⟨Nat.le_of_ble_eq_true rfl, Nat.le_of_ble_eq_true rfl⟩ ⟨Nat.le_of_ble_eq_true rfl, Nat.le_of_ble_eq_true rfl⟩ (fun x5 h H locs S w => ?_)
          refine W.cs (cells' := 0) (slots' := 0) rfl rfl ?_
          refine lv_iadd C.1.1 C.1.2.1 dX1_countNotes_42 ?_
          refine lv_istore_n (lv' := [(1, .int (xl1 + x5)), (5, va_rf r1), (2, va_rf rl2), (3, .int xl3), (4, .int xl4)]) C.1.1 C.1.2.1 dX1_countNotes_43 rfl hl (by decide) rfl (fun ls hl => ?_)
          exact hB44 (qw_X1_countNotes_13 a0 Q n) ih (xl1 + x5) rl2 xl3 xl4 _ _ _ _ S (lv_sub hl [0, 2, 3, 4] rfl) w
  unfold qw_X1_countNotes at w
  refine lv_iconst (v := (0 : Int32)) C.1.1 C.1.2.1 dX1_countNotes_0 (by decide) ?_
  refine lv_istore_n (lv' := [(1, .int (0 : Int32)), (0, .ref a0)]) C.1.1 C.1.2.1 dX1_countNotes_1 rfl hl (by decide) rfl (fun ls hl => ?_)
  refine ql_aload_n (r := (some a0)) C dX1_countNotes_2 rfl (lv_at hl 1 rfl) ?_
  refine ql_getR C S qf_4_0 gw_166 dX1_countNotes_3 w (fun r6 w => ?_)
  refine ql_astore_n (lv' := [(2, va_rf r6), (1, .int (0 : Int32)), (0, .ref a0)]) C dX1_countNotes_6 rfl hl (by decide) rfl (fun ls hl => ?_)
  refine ql_aload_n (r := r6) C dX1_countNotes_7 rfl (lv_at hl 0 rfl) ?_
  refine ql_alen (kd := 5) C S rfl dX1_countNotes_8 w (fun x7 w => ?_)
  refine lv_istore_n (lv' := [(3, .int x7), (2, va_rf r6), (1, .int (0 : Int32)), (0, .ref a0)]) C.1.1 C.1.2.1 dX1_countNotes_9 rfl hl (by decide) (by generalize r6 = z9; cases z9 <;> rfl) (fun ls hl => ?_)
  refine lv_iconst (v := (0 : Int32)) C.1.1 C.1.2.1 dX1_countNotes_10 (by decide) ?_
  refine lv_istore (lv' := [(4, .int (0 : Int32)), (3, .int x7), (2, va_rf r6), (1, .int (0 : Int32)), (0, .ref a0)]) C.1.1 C.1.2.1 dX1_countNotes_11 hl (by decide) rfl (fun ls hl => ?_)
  exact hB13 ql_FU (0 : Int32) r6 x7 (0 : Int32) _ _ _ _ S (lv_sub hl [3, 2, 1, 0] rfl) w
def qw_X1_countBrokenCites_87 (a0 : Nat) (Q : Int32 → ql_H → Prop) (k47 : Int32 → Option Nat → Int32 → Int32 → Option Nat → Int32 → Int32 → ql_H → Prop) (xl1 : Int32) (rl2 : Option Nat) (xl3 : Int32) (xl4 : Int32) (rl5 : Option Nat) (xl6 : Int32) (xl7 : Int32) (h : ql_H) : Prop :=
k47 xl1 rl2 xl3 xl4 rl5 xl6 (xl7 + (1 : Int32)) h
def qw_X1_countBrokenCites_84 (a0 : Nat) (Q : Int32 → ql_H → Prop) (k47 : Int32 → Option Nat → Int32 → Int32 → Option Nat → Int32 → Int32 → ql_H → Prop) (xl1 : Int32) (rl2 : Option Nat) (xl3 : Int32) (xl4 : Int32) (rl5 : Option Nat) (xl6 : Int32) (xl7 : Int32) (h : ql_H) : Prop :=
qw_X1_countBrokenCites_87 a0 Q k47 (xl1 + (1 : Int32)) rl2 xl3 xl4 rl5 xl6 xl7 h
def qw_X1_countBrokenCites_47 (a0 : Nat) (Q : Int32 → ql_H → Prop) (k13 : Int32 → Option Nat → Int32 → Int32 → ql_H → Prop) : Nat → Int32 → Option Nat → Int32 → Int32 → Option Nat → Int32 → Int32 → ql_H → Prop
  | 0, _, _, _, _, _, _, _, _ => False
  | n + 1, xl1, rl2, xl3, xl4, rl5, xl6, xl7, h =>
    if xl6 ≤ xl7 then (k13 xl1 rl2 xl3 (xl4 + (1 : Int32)) h) else (ql_rv h rl5 6 fun b1 => qw_X3_citeAtPlace b1 xl7 h (fun x1 h =>
    ql_rv h (some a0) 4 fun b3 => qw_X1_clauseWithId b3 x1 h (fun r3 h =>
    if r3 = none then (qw_X1_countBrokenCites_84 a0 Q (qw_X1_countBrokenCites_47 a0 Q k13 n) xl1 rl2 xl3 xl4 rl5 xl6 xl7 h) else (ql_gI h (some a0) 4 2 fun x5 =>
    ql_rv h r3 6 fun b6 => qw_X3_holdsOn b6 x5 h (fun x6 h =>
    if x6 = 0 then (qw_X1_countBrokenCites_84 a0 Q (qw_X1_countBrokenCites_47 a0 Q k13 n) xl1 rl2 xl3 xl4 rl5 xl6 xl7 h) else (qw_X1_countBrokenCites_87 a0 Q (qw_X1_countBrokenCites_47 a0 Q k13 n) xl1 rl2 xl3 xl4 rl5 xl6 xl7 h))))))
def qw_X1_countBrokenCites_42 (a0 : Nat) (Q : Int32 → ql_H → Prop) (k13 : Int32 → Option Nat → Int32 → Int32 → ql_H → Prop) (xl1 : Int32) (rl2 : Option Nat) (xl3 : Int32) (xl4 : Int32) (rl5 : Option Nat) (xs0 : Int32) (h : ql_H) : Prop :=
qw_X1_countBrokenCites_47 a0 Q k13 ql_FU xl1 rl2 xl3 xl4 rl5 xs0 (0 : Int32) h
def qw_X1_countBrokenCites_13 (a0 : Nat) (Q : Int32 → ql_H → Prop) : Nat → Int32 → Option Nat → Int32 → Int32 → ql_H → Prop
  | 0, _, _, _, _, _ => False
  | n + 1, xl1, rl2, xl3, xl4, h =>
    if xl3 ≤ xl4 then (Q xl1 h) else (ql_lR h rl2 5 xl4 fun r8 =>
    ql_gI h r8 6 0 fun x9 =>
    if x9 = 0 then (qw_X1_countBrokenCites_42 a0 Q (qw_X1_countBrokenCites_13 a0 Q n) xl1 rl2 xl3 xl4 r8 (0 : Int32) h) else (ql_rv h r8 6 fun b10 => qw_X3_countCites b10  h (fun x10 h =>
    qw_X1_countBrokenCites_42 a0 Q (qw_X1_countBrokenCites_13 a0 Q n) xl1 rl2 xl3 xl4 r8 x10 h)))
def qw_X1_countBrokenCites (a0 : Nat) (h : ql_H) (Q : Int32 → ql_H → Prop) : Prop :=
ql_gR h (some a0) 4 0 fun r12 =>
ql_len h r12 5 fun x13 =>
qw_X1_countBrokenCites_13 a0 Q ql_FU (0 : Int32) r12 x13 (0 : Int32) h
set_option maxHeartbeats 4000000 in
set_option maxRecDepth 100000 in
theorem qm_X1_countBrokenCites (l : Launch) (hl9 : l.stackTraces = false) (D : ql_D) (h0 : ql_H) (a0 : Nat) (Q : Int32 → ql_H → Prop) (X : String → ql_H → Prop) (w : qw_X1_countBrokenCites a0 h0 Q) : ql_M D l yX1_countBrokenCites cX1_countBrokenCites 9 (some .int) ({ frames := 6, cells := 0, slots := 0, locals := 108 } : Room) h0 [.ref a0] (ql_rI Q) X 0 0 := by
  refine ql_ofW (by decide) (Nat.le_of_ble_eq_true rfl) ?_
  intro p e s m below meth c ls C hr hlocks hnm htab S hl
  have hl : lv_has ls 9 [(0, .ref a0)] := hl
  have hB87 : ∀ (k47 : Int32 → Option Nat → Int32 → Int32 → Option Nat → Int32 → Int32 → ql_H → Prop) (hk47 : ∀ (xl1 : Int32) (rl2 : Option Nat) (xl3 : Int32) (xl4 : Int32) (rl5 : Option Nat) (xl6 : Int32) (xl7 : Int32) (h : ql_H) (H : Heap) (locs : List Loc) (ls : Array Slot), ql_S D h0 s H locs h → lv_has ls 9 [(0, .ref a0), (1, .int xl1), (2, va_rf rl2), (3, .int xl3), (4, .int xl4), (5, va_rf rl5), (6, .int xl6), (7, .int xl7)] → k47 xl1 rl2 xl3 xl4 rl5 xl6 xl7 h → W p l e ({ frames := 6, cells := 0, slots := 0, locals := 108 } : Room) s m ([.ref a0] : List Value).toArray below meth c H locs 0 0 (vx_MQ below (ql_Q D h0 (ql_rI Q)) (ql_X D h0 X) ([.ref a0] : List Value).toArray s 0 0 (ql_A h0)) (F0 m 47 ls [])) , ∀ (xl1 : Int32) (rl2 : Option Nat) (xl3 : Int32) (xl4 : Int32) (rl5 : Option Nat) (xl6 : Int32) (xl7 : Int32) (h : ql_H) (H : Heap) (locs : List Loc) (ls : Array Slot), ql_S D h0 s H locs h → lv_has ls 9 [(0, .ref a0), (1, .int xl1), (2, va_rf rl2), (3, .int xl3), (4, .int xl4), (5, va_rf rl5), (6, .int xl6), (7, .int xl7)] → qw_X1_countBrokenCites_87 a0 Q k47 xl1 rl2 xl3 xl4 rl5 xl6 xl7 h → W p l e ({ frames := 6, cells := 0, slots := 0, locals := 108 } : Room) s m ([.ref a0] : List Value).toArray below meth c H locs 0 0 (vx_MQ below (ql_Q D h0 (ql_rI Q)) (ql_X D h0 X) ([.ref a0] : List Value).toArray s 0 0 (ql_A h0)) (F0 m 87 ls []) := by
    intro k47 hk47 xl1 rl2 xl3 xl4 rl5 xl6 xl7 h H locs ls S hl w
    unfold qw_X1_countBrokenCites_87 at w
    refine lv_iinc (v := (xl7 + (1 : Int32))) (lv' := [(7, .int (xl7 + (1 : Int32))), (0, .ref a0), (1, .int xl1), (2, va_rf rl2), (3, .int xl3), (4, .int xl4), (5, va_rf rl5), (6, .int xl6)]) C.1.1 C.1.2.1 dX1_countBrokenCites_87 hl (k := 7) rfl rfl (by decide) rfl (fun ls hl => ?_)
    refine lv_goto (tgt := 47) C.1.1 C.1.2.1 dX1_countBrokenCites_90 (by decide) ?_
    exact hk47 xl1 rl2 xl3 xl4 rl5 xl6 (xl7 + (1 : Int32)) _ _ _ _ S (lv_sub hl [1, 2, 3, 4, 5, 6, 7, 0] rfl) w
  have hB84 : ∀ (k47 : Int32 → Option Nat → Int32 → Int32 → Option Nat → Int32 → Int32 → ql_H → Prop) (hk47 : ∀ (xl1 : Int32) (rl2 : Option Nat) (xl3 : Int32) (xl4 : Int32) (rl5 : Option Nat) (xl6 : Int32) (xl7 : Int32) (h : ql_H) (H : Heap) (locs : List Loc) (ls : Array Slot), ql_S D h0 s H locs h → lv_has ls 9 [(0, .ref a0), (1, .int xl1), (2, va_rf rl2), (3, .int xl3), (4, .int xl4), (5, va_rf rl5), (6, .int xl6), (7, .int xl7)] → k47 xl1 rl2 xl3 xl4 rl5 xl6 xl7 h → W p l e ({ frames := 6, cells := 0, slots := 0, locals := 108 } : Room) s m ([.ref a0] : List Value).toArray below meth c H locs 0 0 (vx_MQ below (ql_Q D h0 (ql_rI Q)) (ql_X D h0 X) ([.ref a0] : List Value).toArray s 0 0 (ql_A h0)) (F0 m 47 ls [])) , ∀ (xl1 : Int32) (rl2 : Option Nat) (xl3 : Int32) (xl4 : Int32) (rl5 : Option Nat) (xl6 : Int32) (xl7 : Int32) (h : ql_H) (H : Heap) (locs : List Loc) (ls : Array Slot), ql_S D h0 s H locs h → lv_has ls 9 [(0, .ref a0), (1, .int xl1), (2, va_rf rl2), (3, .int xl3), (4, .int xl4), (5, va_rf rl5), (6, .int xl6), (7, .int xl7)] → qw_X1_countBrokenCites_84 a0 Q k47 xl1 rl2 xl3 xl4 rl5 xl6 xl7 h → W p l e ({ frames := 6, cells := 0, slots := 0, locals := 108 } : Room) s m ([.ref a0] : List Value).toArray below meth c H locs 0 0 (vx_MQ below (ql_Q D h0 (ql_rI Q)) (ql_X D h0 X) ([.ref a0] : List Value).toArray s 0 0 (ql_A h0)) (F0 m 84 ls []) := by
    intro k47 hk47 xl1 rl2 xl3 xl4 rl5 xl6 xl7 h H locs ls S hl w
    unfold qw_X1_countBrokenCites_84 at w
    refine lv_iinc (v := (xl1 + (1 : Int32))) (lv' := [(1, .int (xl1 + (1 : Int32))), (0, .ref a0), (2, va_rf rl2), (3, .int xl3), (4, .int xl4), (5, va_rf rl5), (6, .int xl6), (7, .int xl7)]) C.1.1 C.1.2.1 dX1_countBrokenCites_84 hl (k := 1) rfl rfl (by decide) rfl (fun ls hl => ?_)
    exact hB87 k47 hk47 (xl1 + (1 : Int32)) rl2 xl3 xl4 rl5 xl6 xl7 _ _ _ _ S (lv_sub hl [1, 0, 2, 3, 4, 5, 6, 7] rfl) w
  have hB47 : ∀ (k13 : Int32 → Option Nat → Int32 → Int32 → ql_H → Prop) (hk13 : ∀ (xl1 : Int32) (rl2 : Option Nat) (xl3 : Int32) (xl4 : Int32) (h : ql_H) (H : Heap) (locs : List Loc) (ls : Array Slot), ql_S D h0 s H locs h → lv_has ls 9 [(0, .ref a0), (1, .int xl1), (2, va_rf rl2), (3, .int xl3), (4, .int xl4)] → k13 xl1 rl2 xl3 xl4 h → W p l e ({ frames := 6, cells := 0, slots := 0, locals := 108 } : Room) s m ([.ref a0] : List Value).toArray below meth c H locs 0 0 (vx_MQ below (ql_Q D h0 (ql_rI Q)) (ql_X D h0 X) ([.ref a0] : List Value).toArray s 0 0 (ql_A h0)) (F0 m 13 ls [])) , ∀ n : Nat, ∀ (xl1 : Int32) (rl2 : Option Nat) (xl3 : Int32) (xl4 : Int32) (rl5 : Option Nat) (xl6 : Int32) (xl7 : Int32) (h : ql_H) (H : Heap) (locs : List Loc) (ls : Array Slot), ql_S D h0 s H locs h → lv_has ls 9 [(0, .ref a0), (1, .int xl1), (2, va_rf rl2), (3, .int xl3), (4, .int xl4), (5, va_rf rl5), (6, .int xl6), (7, .int xl7)] → qw_X1_countBrokenCites_47 a0 Q k13 n xl1 rl2 xl3 xl4 rl5 xl6 xl7 h → W p l e ({ frames := 6, cells := 0, slots := 0, locals := 108 } : Room) s m ([.ref a0] : List Value).toArray below meth c H locs 0 0 (vx_MQ below (ql_Q D h0 (ql_rI Q)) (ql_X D h0 X) ([.ref a0] : List Value).toArray s 0 0 (ql_A h0)) (F0 m 47 ls []) := by
    intro k13 hk13 n
    induction n with
    | zero => intro xl1 rl2 xl3 xl4 rl5 xl6 xl7 h H locs ls S hl w; rw [qw_X1_countBrokenCites_47] at w; exact w.elim
    | succ n ih =>
      intro xl1 rl2 xl3 xl4 rl5 xl6 xl7 h H locs ls S hl w
      rw [qw_X1_countBrokenCites_47] at w
      refine lv_iload C.1.1 C.1.2.1 dX1_countBrokenCites_47 (lv_at hl 7 rfl) ?_
      refine lv_iload C.1.1 C.1.2.1 dX1_countBrokenCites_49 (lv_at hl 6 rfl) ?_
      refine lv_icmp_ge (tgt := 93) C.1.1 C.1.2.1 dX1_countBrokenCites_51 (by decide) (fun c9 => ?_) (fun c9 => ?_)
      · replace w := ql_if w c9
        refine lv_iinc (v := (xl4 + (1 : Int32))) (lv' := [(4, .int (xl4 + (1 : Int32))), (0, .ref a0), (1, .int xl1), (2, va_rf rl2), (3, .int xl3), (5, va_rf rl5), (6, .int xl6), (7, .int xl7)]) C.1.1 C.1.2.1 dX1_countBrokenCites_93 hl (k := 4) rfl rfl (by decide) rfl (fun ls hl => ?_)
        refine lv_goto (tgt := 13) C.1.1 C.1.2.1 dX1_countBrokenCites_96 (by decide) ?_
        exact hk13 xl1 rl2 xl3 (xl4 + (1 : Int32)) _ _ _ _ S (lv_sub hl [1, 2, 3, 4, 0] rfl) w
      · replace w := ql_ifn w c9
        refine ql_aload_n (r := (some a0)) C dX1_countBrokenCites_54 rfl (lv_at hl 0 rfl) ?_
        refine ql_aload (r := rl5) C dX1_countBrokenCites_55 (lv_at hl 5 rfl) ?_
        refine lv_iload C.1.1 C.1.2.1 dX1_countBrokenCites_57 (lv_at hl 7 rfl) ?_
        refine ql_VI (As := [.int xl7]) (rest := [.ref a0]) C S htab hlocks hl qy_X3_citeAtPlace qi_X3_citeAtPlace qs_X3_citeAtPlace gw_426 (ci := 6) rfl w (fun b w => qm_X3_citeAtPlace l hl9 D _ b xl7 _ _ w) rfl ⟨Nat.le_of_ble_eq_true rfl, Nat.le_of_ble_eq_true rfl⟩ ⟨rfl, rfl⟩ (by exact Nat.le_of_ble_eq_true rfl) (fun b e9 => by cases e9; rfl) dX1_countBrokenCites_59 ⟨Nat.le_of_ble_eq_true rfl, Nat.le_of_ble_eq_true rfl⟩ ⟨Nat.le_of_ble_eq_true rfl, Nat.le_of_ble_eq_true rfl⟩ (fun x1 h H locs S w => ?_)
        refine W.cs (cells' := 0) (slots' := 0) rfl rfl ?_
        refine ql_VR (As := [.int x1]) (rest := []) C S htab hlocks hl qy_X1_clauseWithId qi_X1_clauseWithId qs_X1_clauseWithId gw_430 (ci := 4) rfl w (fun b w => qm_X1_clauseWithId l hl9 D _ b x1 _ _ w) rfl ⟨Nat.le_of_ble_eq_true rfl, Nat.le_of_ble_eq_true rfl⟩ ⟨rfl, rfl⟩ (by exact Nat.le_of_ble_eq_true rfl) (fun b e9 => by cases e9; rfl) dX1_countBrokenCites_62 ⟨Nat.le_of_ble_eq_true rfl, Nat.le_of_ble_eq_true rfl⟩ ⟨Nat.le_of_ble_eq_true rfl, Nat.le_of_ble_eq_true rfl⟩ (fun r3 h H locs S w => ?_)
        refine W.cs (cells' := 0) (slots' := 0) rfl rfl ?_
        refine ql_astore (lv' := [(8, va_rf r3), (0, .ref a0), (1, .int xl1), (2, va_rf rl2), (3, .int xl3), (4, .int xl4), (5, va_rf rl5), (6, .int xl6), (7, .int xl7)]) C dX1_countBrokenCites_65 hl (by decide) rfl (fun ls hl => ?_)
        refine ql_aload (r := r3) C dX1_countBrokenCites_67 (lv_at hl 0 rfl) ?_
        refine ql_ifnull (tgt := 84) C dX1_countBrokenCites_69 (by decide) (fun c9 => ?_) (fun c9 => ?_)
        · replace w := ql_if w c9
          exact hB84 (qw_X1_countBrokenCites_47 a0 Q k13 n) ih xl1 rl2 xl3 xl4 rl5 xl6 xl7 _ _ _ _ S (lv_sub hl [1, 2, 3, 4, 5, 6, 7, 8] rfl) w
        · replace w := ql_ifn w c9
          refine ql_aload (r := r3) C dX1_countBrokenCites_72 (lv_at hl 0 rfl) ?_
          refine ql_aload_n (r := (some a0)) C dX1_countBrokenCites_74 rfl (lv_at hl 1 rfl) ?_
          refine ql_getI C S qf_4_2 gw_170 dX1_countBrokenCites_75 w (fun x5 w => ?_)
          refine ql_VI (As := [.int x5]) (rest := []) C S htab hlocks hl qy_X3_holdsOn qi_X3_holdsOn qs_X3_holdsOn gw_645 (ci := 6) rfl w (fun b w => qm_X3_holdsOn l hl9 D _ b x5 _ _ w) rfl ⟨Nat.le_of_ble_eq_true rfl, Nat.le_of_ble_eq_true rfl⟩ ⟨rfl, rfl⟩ (by exact Nat.le_of_ble_eq_true rfl) (fun b e9 => by cases e9; rfl) dX1_countBrokenCites_78 ⟨Nat.le_of_ble_eq_true rfl, Nat.le_of_ble_eq_true rfl⟩ ⟨Nat.le_of_ble_eq_true rfl, Nat.le_of_ble_eq_true rfl⟩ (fun x6 h H locs S w => ?_)
          refine W.cs (cells' := 0) (slots' := 0) rfl rfl ?_
          refine lv_if_ne (tgt := 87) C.1.1 C.1.2.1 dX1_countBrokenCites_81 (by decide) (fun c9 => ?_) (fun c9 => ?_)
          · replace w := ql_ifn w c9
            exact hB87 (qw_X1_countBrokenCites_47 a0 Q k13 n) ih xl1 rl2 xl3 xl4 rl5 xl6 xl7 _ _ _ _ S (lv_sub hl [1, 2, 3, 4, 5, 6, 7, 8] rfl) w
          · replace w := ql_if w c9
            exact hB84 (qw_X1_countBrokenCites_47 a0 Q k13 n) ih xl1 rl2 xl3 xl4 rl5 xl6 xl7 _ _ _ _ S (lv_sub hl [1, 2, 3, 4, 5, 6, 7, 8] rfl) w
  have hB42 : ∀ (k13 : Int32 → Option Nat → Int32 → Int32 → ql_H → Prop) (hk13 : ∀ (xl1 : Int32) (rl2 : Option Nat) (xl3 : Int32) (xl4 : Int32) (h : ql_H) (H : Heap) (locs : List Loc) (ls : Array Slot), ql_S D h0 s H locs h → lv_has ls 9 [(0, .ref a0), (1, .int xl1), (2, va_rf rl2), (3, .int xl3), (4, .int xl4)] → k13 xl1 rl2 xl3 xl4 h → W p l e ({ frames := 6, cells := 0, slots := 0, locals := 108 } : Room) s m ([.ref a0] : List Value).toArray below meth c H locs 0 0 (vx_MQ below (ql_Q D h0 (ql_rI Q)) (ql_X D h0 X) ([.ref a0] : List Value).toArray s 0 0 (ql_A h0)) (F0 m 13 ls [])) , ∀ (xl1 : Int32) (rl2 : Option Nat) (xl3 : Int32) (xl4 : Int32) (rl5 : Option Nat) (xs0 : Int32) (h : ql_H) (H : Heap) (locs : List Loc) (ls : Array Slot), ql_S D h0 s H locs h → lv_has ls 9 [(0, .ref a0), (1, .int xl1), (2, va_rf rl2), (3, .int xl3), (4, .int xl4), (5, va_rf rl5)] → qw_X1_countBrokenCites_42 a0 Q k13 xl1 rl2 xl3 xl4 rl5 xs0 h → W p l e ({ frames := 6, cells := 0, slots := 0, locals := 108 } : Room) s m ([.ref a0] : List Value).toArray below meth c H locs 0 0 (vx_MQ below (ql_Q D h0 (ql_rI Q)) (ql_X D h0 X) ([.ref a0] : List Value).toArray s 0 0 (ql_A h0)) (F0 m 42 ls [.int xs0]) := by
    intro k13 hk13 xl1 rl2 xl3 xl4 rl5 xs0 h H locs ls S hl w
    unfold qw_X1_countBrokenCites_42 at w
    refine lv_istore (lv' := [(6, .int xs0), (0, .ref a0), (1, .int xl1), (2, va_rf rl2), (3, .int xl3), (4, .int xl4), (5, va_rf rl5)]) C.1.1 C.1.2.1 dX1_countBrokenCites_42 hl (by decide) (by generalize rl5 = z9; cases z9 <;> rfl) (fun ls hl => ?_)
    refine lv_iconst (v := (0 : Int32)) C.1.1 C.1.2.1 dX1_countBrokenCites_44 (by decide) ?_
    refine lv_istore (lv' := [(7, .int (0 : Int32)), (6, .int xs0), (0, .ref a0), (1, .int xl1), (2, va_rf rl2), (3, .int xl3), (4, .int xl4), (5, va_rf rl5)]) C.1.1 C.1.2.1 dX1_countBrokenCites_45 hl (by decide) rfl (fun ls hl => ?_)
    exact hB47 k13 hk13 ql_FU xl1 rl2 xl3 xl4 rl5 xs0 (0 : Int32) _ _ _ _ S (lv_sub hl [2, 3, 4, 5, 6, 7, 1, 0] rfl) w
  have hB13 : ∀ n : Nat, ∀ (xl1 : Int32) (rl2 : Option Nat) (xl3 : Int32) (xl4 : Int32) (h : ql_H) (H : Heap) (locs : List Loc) (ls : Array Slot), ql_S D h0 s H locs h → lv_has ls 9 [(0, .ref a0), (1, .int xl1), (2, va_rf rl2), (3, .int xl3), (4, .int xl4)] → qw_X1_countBrokenCites_13 a0 Q n xl1 rl2 xl3 xl4 h → W p l e ({ frames := 6, cells := 0, slots := 0, locals := 108 } : Room) s m ([.ref a0] : List Value).toArray below meth c H locs 0 0 (vx_MQ below (ql_Q D h0 (ql_rI Q)) (ql_X D h0 X) ([.ref a0] : List Value).toArray s 0 0 (ql_A h0)) (F0 m 13 ls []) := by
    intro n
    induction n with
    | zero => intro xl1 rl2 xl3 xl4 h H locs ls S hl w; rw [qw_X1_countBrokenCites_13] at w; exact w.elim
    | succ n ih =>
      intro xl1 rl2 xl3 xl4 h H locs ls S hl w
      rw [qw_X1_countBrokenCites_13] at w
      refine lv_iload C.1.1 C.1.2.1 dX1_countBrokenCites_13 (lv_at hl 4 rfl) ?_
      refine lv_iload_n C.1.1 C.1.2.1 dX1_countBrokenCites_15 rfl (lv_at hl 3 rfl) ?_
      refine lv_icmp_ge (tgt := 99) C.1.1 C.1.2.1 dX1_countBrokenCites_16 (by decide) (fun c9 => ?_) (fun c9 => ?_)
      · replace w := ql_if w c9
        refine lv_iload_n C.1.1 C.1.2.1 dX1_countBrokenCites_99 rfl (lv_at hl 1 rfl) ?_
        exact ql_iret C S hr hlocks dX1_countBrokenCites_100 ⟨Nat.le_of_ble_eq_true rfl, Nat.le_of_ble_eq_true rfl⟩ w
      · replace w := ql_ifn w c9
        refine ql_aload_n (r := rl2) C dX1_countBrokenCites_19 rfl (lv_at hl 2 rfl) ?_
        refine lv_iload C.1.1 C.1.2.1 dX1_countBrokenCites_20 (lv_at hl 4 rfl) ?_
        refine ql_aald (kd := 5) C S rfl rfl dX1_countBrokenCites_22 w (fun r8 w => ?_)
        refine ql_astore (lv' := [(5, va_rf r8), (0, .ref a0), (1, .int xl1), (2, va_rf rl2), (3, .int xl3), (4, .int xl4)]) C dX1_countBrokenCites_23 hl (by decide) rfl (fun ls hl => ?_)
        refine ql_aload (r := r8) C dX1_countBrokenCites_25 (lv_at hl 0 rfl) ?_
        refine ql_getIN C S qf_6_0 (qn_RX1_144) dX1_countBrokenCites_27 w (fun x9 w => ?_)
        refine lv_if_eq (tgt := 41) C.1.1 C.1.2.1 dX1_countBrokenCites_30 (by decide) (fun c9 => ?_) (fun c9 => ?_)
        · replace w := ql_if w c9
          refine lv_iconst (v := (0 : Int32)) C.1.1 C.1.2.1 dX1_countBrokenCites_41 (by decide) ?_
          exact hB42 (qw_X1_countBrokenCites_13 a0 Q n) ih xl1 rl2 xl3 xl4 r8 (0 : Int32) _ _ _ _ S (lv_sub hl [1, 2, 3, 4, 5, 0] rfl) w
        · replace w := ql_ifn w c9
          refine ql_aload (r := r8) C dX1_countBrokenCites_33 (lv_at hl 0 rfl) ?_
          refine ql_VI (As := []) (rest := []) C S htab hlocks hl qy_X3_countCites qi_X3_countCites qs_X3_countCites gw_422 (ci := 6) rfl w (fun b w => qm_X3_countCites l hl9 D _ b _ _ w) rfl ⟨Nat.le_of_ble_eq_true rfl, Nat.le_of_ble_eq_true rfl⟩ ⟨rfl, rfl⟩ (by exact Nat.le_of_ble_eq_true rfl) (fun b e9 => by cases e9; rfl) dX1_countBrokenCites_35 ⟨Nat.le_of_ble_eq_true rfl, Nat.le_of_ble_eq_true rfl⟩ ⟨Nat.le_of_ble_eq_true rfl, Nat.le_of_ble_eq_true rfl⟩ (fun x10 h H locs S w => ?_)
          refine W.cs (cells' := 0) (slots' := 0) rfl rfl ?_
          refine lv_goto (tgt := 42) C.1.1 C.1.2.1 dX1_countBrokenCites_38 (by decide) ?_
          exact hB42 (qw_X1_countBrokenCites_13 a0 Q n) ih xl1 rl2 xl3 xl4 r8 x10 _ _ _ _ S (lv_sub hl [1, 2, 3, 4, 5, 0] rfl) w
  unfold qw_X1_countBrokenCites at w
  refine lv_iconst (v := (0 : Int32)) C.1.1 C.1.2.1 dX1_countBrokenCites_0 (by decide) ?_
  refine lv_istore_n (lv' := [(1, .int (0 : Int32)), (0, .ref a0)]) C.1.1 C.1.2.1 dX1_countBrokenCites_1 rfl hl (by decide) rfl (fun ls hl => ?_)
  refine ql_aload_n (r := (some a0)) C dX1_countBrokenCites_2 rfl (lv_at hl 1 rfl) ?_
  refine ql_getR C S qf_4_0 gw_166 dX1_countBrokenCites_3 w (fun r12 w => ?_)
  refine ql_astore_n (lv' := [(2, va_rf r12), (1, .int (0 : Int32)), (0, .ref a0)]) C dX1_countBrokenCites_6 rfl hl (by decide) rfl (fun ls hl => ?_)
  refine ql_aload_n (r := r12) C dX1_countBrokenCites_7 rfl (lv_at hl 0 rfl) ?_
  refine ql_alen (kd := 5) C S rfl dX1_countBrokenCites_8 w (fun x13 w => ?_)
  refine lv_istore_n (lv' := [(3, .int x13), (2, va_rf r12), (1, .int (0 : Int32)), (0, .ref a0)]) C.1.1 C.1.2.1 dX1_countBrokenCites_9 rfl hl (by decide) (by generalize r12 = z9; cases z9 <;> rfl) (fun ls hl => ?_)
  refine lv_iconst (v := (0 : Int32)) C.1.1 C.1.2.1 dX1_countBrokenCites_10 (by decide) ?_
  refine lv_istore (lv' := [(4, .int (0 : Int32)), (3, .int x13), (2, va_rf r12), (1, .int (0 : Int32)), (0, .ref a0)]) C.1.1 C.1.2.1 dX1_countBrokenCites_11 hl (by decide) rfl (fun ls hl => ?_)
  exact hB13 ql_FU (0 : Int32) r12 x13 (0 : Int32) _ _ _ _ S (lv_sub hl [4, 3, 2, 1, 0] rfl) w
def qw_X2_init (a0 : Nat) (h : ql_H) (Q : ql_H → Prop) : Prop :=
ql_nw h (.inl (0, 16, .inl (fun _ => 0))) fun r1 h =>
ql_pV h (some a0) 5 0 (va_rf r1) fun h =>
ql_nw h (.inl (0, 16, .inl (fun _ => 0))) fun r2 h =>
ql_pV h (some a0) 5 1 (va_rf r2) fun h =>
ql_nw h (.inl (0, 17, .inl (fun _ => 0))) fun r3 h =>
ql_pV h (some a0) 5 2 (va_rf r3) fun h =>
Q h
set_option maxHeartbeats 4000000 in
set_option maxRecDepth 100000 in
theorem qm_X2_init (l : Launch) (hl9 : l.stackTraces = false) (D : ql_D) (h0 : ql_H) (a0 : Nat) (Q : ql_H → Prop) (X : String → ql_H → Prop) (w : qw_X2_init a0 h0 Q) : ql_M D l yX2_init cX2_init 1 none ({ frames := 3, cells := 3, slots := 49, locals := 48 } : Room) h0 [.ref a0] (ql_rV Q) X 3 49 := by
  refine ql_ofW (by decide) (Nat.le_of_ble_eq_true rfl) ?_
  intro p e s m below meth c ls C hr hlocks hnm htab S hl
  have hl : lv_has ls 1 [(0, .ref a0)] := hl
  unfold qw_X2_init at w
  refine ql_aload_n (r := (some a0)) C dX2_init_0 rfl (lv_at hl 0 rfl) ?_
  refine ql_objInit C hl gw_337 gw_114 gw_115 dX2_init_1 (Nat.le_of_ble_eq_true rfl) (by exact Nat.le_of_ble_eq_true rfl) ?_
  refine ql_aload_n (r := (some a0)) C dX2_init_4 rfl (lv_at hl 0 rfl) ?_
  refine lv_bipush (v := (16 : Int32)) C.1.1 C.1.2.1 dX2_init_5 (by decide) ?_
  refine ql_newa (kd := 0) (a0 := (16, .inl (fun _ => 0))) (atype := .int) C S gw_164 rfl (fun z => z) (fun cA => rfl) (by decide) (by decide) (by decide) ⟨Nat.le_of_ble_eq_true rfl, Nat.le_of_ble_eq_true rfl⟩ dX2_init_7 w (fun r1 h H S w => ?_)
  refine W.cs (cells' := 1) (slots' := 16) rfl rfl ?_
  refine ql_putVF C S qf_5_0 gw_338 (tyX2) tyX2_ok nmX2 rfl hnm rfl dX2_init_9 (v := va_rf r1) (by cases r1 <;> rfl) (by cases r1 <;> rfl) w (fun h H locs S w => ?_)
  refine ql_aload_n (r := (some a0)) C dX2_init_12 rfl (lv_at hl 0 rfl) ?_
  refine lv_bipush (v := (16 : Int32)) C.1.1 C.1.2.1 dX2_init_13 (by decide) ?_
  refine ql_newa (kd := 0) (a0 := (16, .inl (fun _ => 0))) (atype := .int) C S gw_164 rfl (fun z => z) (fun cA => rfl) (by decide) (by decide) (by decide) ⟨Nat.le_of_ble_eq_true rfl, Nat.le_of_ble_eq_true rfl⟩ dX2_init_15 w (fun r2 h H S w => ?_)
  refine W.cs (cells' := 2) (slots' := 32) rfl rfl ?_
  refine ql_putVF C S qf_5_1 gw_339 (tyX2) tyX2_ok nmX2 rfl hnm rfl dX2_init_17 (v := va_rf r2) (by cases r2 <;> rfl) (by cases r2 <;> rfl) w (fun h H locs S w => ?_)
  refine ql_aload_n (r := (some a0)) C dX2_init_20 rfl (lv_at hl 0 rfl) ?_
  refine lv_bipush (v := (17 : Int32)) C.1.1 C.1.2.1 dX2_init_21 (by decide) ?_
  refine ql_newa (kd := 0) (a0 := (17, .inl (fun _ => 0))) (atype := .int) C S gw_164 rfl (fun z => z) (fun cA => rfl) (by decide) (by decide) (by decide) ⟨Nat.le_of_ble_eq_true rfl, Nat.le_of_ble_eq_true rfl⟩ dX2_init_23 w (fun r3 h H S w => ?_)
  refine W.cs (cells' := 3) (slots' := 49) rfl rfl ?_
  refine ql_putVF C S qf_5_2 gw_340 (tyX2) tyX2_ok nmX2 rfl hnm rfl dX2_init_25 (v := va_rf r3) (by cases r3 <;> rfl) (by cases r3 <;> rfl) w (fun h H locs S w => ?_)
  exact ql_vret C S hr hlocks dX2_init_28 ⟨Nat.le_of_ble_eq_true rfl, Nat.le_of_ble_eq_true rfl⟩ w
def qw_X2_hasSlot (xp0 : Int32) (xp1 : Int32) (h : ql_H) (Q : Int32 → ql_H → Prop) : Prop :=
if ((xp0.toUInt32 >>> (xp1.toUInt32 &&& Int32.toUInt32 31)).toInt32 &&& (1 : Int32)) = (1 : Int32) then (ql_nz .boolean (1 : Int32) ∧ Q (1 : Int32) h) else (ql_nz .boolean (0 : Int32) ∧ Q (0 : Int32) h)
set_option maxHeartbeats 4000000 in
set_option maxRecDepth 100000 in
theorem qm_X2_hasSlot (l : Launch) (hl9 : l.stackTraces = false) (D : ql_D) (h0 : ql_H) (xp0 : Int32) (xp1 : Int32) (Q : Int32 → ql_H → Prop) (X : String → ql_H → Prop) (w : qw_X2_hasSlot xp0 xp1 h0 Q) : ql_M D l yX2_hasSlot cX2_hasSlot 2 (some .boolean) ({ frames := 2, cells := 0, slots := 0, locals := 48 } : Room) h0 [.int xp0, .int xp1] (ql_rI Q) X 0 0 := by
  refine ql_ofW (by decide) (Nat.le_of_ble_eq_true rfl) ?_
  intro p e s m below meth c ls C hr hlocks hnm htab S hl
  have hl : lv_has ls 2 [(0, .int xp0), (1, .int xp1)] := hl
  unfold qw_X2_hasSlot at w
  refine lv_iload_n C.1.1 C.1.2.1 dX2_hasSlot_0 rfl (lv_at hl 0 rfl) ?_
  refine lv_iload_n C.1.1 C.1.2.1 dX2_hasSlot_1 rfl (lv_at hl 1 rfl) ?_
  refine lv_iushr C.1.1 C.1.2.1 dX2_hasSlot_2 rfl ?_
  refine lv_iconst (v := (1 : Int32)) C.1.1 C.1.2.1 dX2_hasSlot_3 (by decide) ?_
  refine lv_iand C.1.1 C.1.2.1 dX2_hasSlot_4 ?_
  refine lv_iconst (v := (1 : Int32)) C.1.1 C.1.2.1 dX2_hasSlot_5 (by decide) ?_
  refine lv_icmp_ne (tgt := 13) C.1.1 C.1.2.1 dX2_hasSlot_6 (by decide) (fun c9 => ?_) (fun c9 => ?_)
  · replace w := ql_ifn w c9
    refine lv_iconst (v := (0 : Int32)) C.1.1 C.1.2.1 dX2_hasSlot_13 (by decide) ?_
    exact ql_zret C S hr hlocks dX2_hasSlot_14 ⟨Nat.le_of_ble_eq_true rfl, Nat.le_of_ble_eq_true rfl⟩ w
  · replace w := ql_if w c9
    refine lv_iconst (v := (1 : Int32)) C.1.1 C.1.2.1 dX2_hasSlot_9 (by decide) ?_
    refine lv_goto (tgt := 14) C.1.1 C.1.2.1 dX2_hasSlot_10 (by decide) ?_
    exact ql_zret C S hr hlocks dX2_hasSlot_14 ⟨Nat.le_of_ble_eq_true rfl, Nat.le_of_ble_eq_true rfl⟩ w
def qw_X2_slotsCitedBy_41 (Q : Int32 → ql_H → Prop) (k10 : Option Nat → Option Nat → Int32 → Int32 → Int32 → ql_H → Prop) (rl0 : Option Nat) (rl1 : Option Nat) (xl2 : Int32) (xl3 : Int32) (xl4 : Int32) (h : ql_H) : Prop :=
k10 rl0 rl1 xl2 xl3 (xl4 + (1 : Int32)) h
def qw_X2_slotsCitedBy_10 (Q : Int32 → ql_H → Prop) : Nat → Option Nat → Option Nat → Int32 → Int32 → Int32 → ql_H → Prop
  | 0, _, _, _, _, _, _ => False
  | n + 1, rl0, rl1, xl2, xl3, xl4, h =>
    if xl3 ≤ xl4 then (Q xl2 h) else (ql_rv h rl0 6 fun b1 => qw_X3_citeAtPlace b1 xl4 h (fun x1 h =>
    ql_rv h rl1 4 fun b3 => qw_X1_slotWithId b3 x1 h (fun x3 h =>
    if x3 = (-1 : Int32) then (qw_X2_slotsCitedBy_41 Q (qw_X2_slotsCitedBy_10 Q n) rl0 rl1 xl2 xl3 xl4 h) else (qw_X2_slotsCitedBy_41 Q (qw_X2_slotsCitedBy_10 Q n) rl0 rl1 (xl2 ||| ((1 : Int32) <<< (x3 &&& 31))) xl3 xl4 h))))
def qw_X2_slotsCitedBy (rp0 : Option Nat) (rp1 : Option Nat) (h : ql_H) (Q : Int32 → ql_H → Prop) : Prop :=
ql_rv h rp0 6 fun b5 => qw_X3_countCites b5  h (fun x5 h =>
qw_X2_slotsCitedBy_10 Q ql_FU rp0 rp1 (0 : Int32) x5 (0 : Int32) h)
set_option maxHeartbeats 4000000 in
set_option maxRecDepth 100000 in
theorem qm_X2_slotsCitedBy (l : Launch) (hl9 : l.stackTraces = false) (D : ql_D) (h0 : ql_H) (rp0 : Option Nat) (rp1 : Option Nat) (Q : Int32 → ql_H → Prop) (X : String → ql_H → Prop) (w : qw_X2_slotsCitedBy rp0 rp1 h0 Q) : ql_M D l yX2_slotsCitedBy cX2_slotsCitedBy 6 (some .int) ({ frames := 4, cells := 0, slots := 0, locals := 78 } : Room) h0 [va_rf rp0, va_rf rp1] (ql_rI Q) X 0 0 := by
  refine ql_ofW (by decide) (by cases rp0 <;> cases rp1 <;> exact Nat.le_of_ble_eq_true rfl) ?_
  intro p e s m below meth c ls C hr hlocks hnm htab S hl
  rw [show lv_args 0 [va_rf rp0, va_rf rp1] = [(0, va_rf rp0), (1, va_rf rp1)] from by cases rp0 <;> cases rp1 <;> rfl] at hl
  have hB41 : ∀ (k10 : Option Nat → Option Nat → Int32 → Int32 → Int32 → ql_H → Prop) (hk10 : ∀ (rl0 : Option Nat) (rl1 : Option Nat) (xl2 : Int32) (xl3 : Int32) (xl4 : Int32) (h : ql_H) (H : Heap) (locs : List Loc) (ls : Array Slot), ql_S D h0 s H locs h → lv_has ls 6 [(0, va_rf rl0), (1, va_rf rl1), (2, .int xl2), (3, .int xl3), (4, .int xl4)] → k10 rl0 rl1 xl2 xl3 xl4 h → W p l e ({ frames := 4, cells := 0, slots := 0, locals := 78 } : Room) s m ([va_rf rp0, va_rf rp1] : List Value).toArray below meth c H locs 0 0 (vx_MQ below (ql_Q D h0 (ql_rI Q)) (ql_X D h0 X) ([va_rf rp0, va_rf rp1] : List Value).toArray s 0 0 (ql_A h0)) (F0 m 10 ls [])) , ∀ (rl0 : Option Nat) (rl1 : Option Nat) (xl2 : Int32) (xl3 : Int32) (xl4 : Int32) (h : ql_H) (H : Heap) (locs : List Loc) (ls : Array Slot), ql_S D h0 s H locs h → lv_has ls 6 [(0, va_rf rl0), (1, va_rf rl1), (2, .int xl2), (3, .int xl3), (4, .int xl4)] → qw_X2_slotsCitedBy_41 Q k10 rl0 rl1 xl2 xl3 xl4 h → W p l e ({ frames := 4, cells := 0, slots := 0, locals := 78 } : Room) s m ([va_rf rp0, va_rf rp1] : List Value).toArray below meth c H locs 0 0 (vx_MQ below (ql_Q D h0 (ql_rI Q)) (ql_X D h0 X) ([va_rf rp0, va_rf rp1] : List Value).toArray s 0 0 (ql_A h0)) (F0 m 41 ls []) := by
    intro k10 hk10 rl0 rl1 xl2 xl3 xl4 h H locs ls S hl w
    unfold qw_X2_slotsCitedBy_41 at w
    refine lv_iinc (v := (xl4 + (1 : Int32))) (lv' := [(4, .int (xl4 + (1 : Int32))), (0, va_rf rl0), (1, va_rf rl1), (2, .int xl2), (3, .int xl3)]) C.1.1 C.1.2.1 dX2_slotsCitedBy_41 hl (k := 4) rfl rfl (by decide) rfl (fun ls hl => ?_)
    refine lv_goto (tgt := 10) C.1.1 C.1.2.1 dX2_slotsCitedBy_44 (by decide) ?_
    exact hk10 rl0 rl1 xl2 xl3 (xl4 + (1 : Int32)) _ _ _ _ S (lv_sub hl [1, 2, 3, 4, 0] rfl) w
  have hB10 : ∀ n : Nat, ∀ (rl0 : Option Nat) (rl1 : Option Nat) (xl2 : Int32) (xl3 : Int32) (xl4 : Int32) (h : ql_H) (H : Heap) (locs : List Loc) (ls : Array Slot), ql_S D h0 s H locs h → lv_has ls 6 [(0, va_rf rl0), (1, va_rf rl1), (2, .int xl2), (3, .int xl3), (4, .int xl4)] → qw_X2_slotsCitedBy_10 Q n rl0 rl1 xl2 xl3 xl4 h → W p l e ({ frames := 4, cells := 0, slots := 0, locals := 78 } : Room) s m ([va_rf rp0, va_rf rp1] : List Value).toArray below meth c H locs 0 0 (vx_MQ below (ql_Q D h0 (ql_rI Q)) (ql_X D h0 X) ([va_rf rp0, va_rf rp1] : List Value).toArray s 0 0 (ql_A h0)) (F0 m 10 ls []) := by
    intro n
    induction n with
    | zero => intro rl0 rl1 xl2 xl3 xl4 h H locs ls S hl w; rw [qw_X2_slotsCitedBy_10] at w; exact w.elim
    | succ n ih =>
      intro rl0 rl1 xl2 xl3 xl4 h H locs ls S hl w
      rw [qw_X2_slotsCitedBy_10] at w
      refine lv_iload C.1.1 C.1.2.1 dX2_slotsCitedBy_10 (lv_at hl 4 rfl) ?_
      refine lv_iload_n C.1.1 C.1.2.1 dX2_slotsCitedBy_12 rfl (lv_at hl 3 rfl) ?_
      refine lv_icmp_ge (tgt := 47) C.1.1 C.1.2.1 dX2_slotsCitedBy_13 (by decide) (fun c9 => ?_) (fun c9 => ?_)
      · replace w := ql_if w c9
        refine lv_iload_n C.1.1 C.1.2.1 dX2_slotsCitedBy_47 rfl (lv_at hl 2 rfl) ?_
        exact ql_iret C S hr hlocks dX2_slotsCitedBy_48 ⟨Nat.le_of_ble_eq_true rfl, Nat.le_of_ble_eq_true rfl⟩ w
      · replace w := ql_ifn w c9
        refine ql_aload_n (r := rl1) C dX2_slotsCitedBy_16 rfl (lv_at hl 1 rfl) ?_
        refine ql_aload_n (r := rl0) C dX2_slotsCitedBy_17 rfl (lv_at hl 0 rfl) ?_
        refine lv_iload C.1.1 C.1.2.1 dX2_slotsCitedBy_18 (lv_at hl 4 rfl) ?_
        refine ql_VI (As := [.int xl4]) (rest := [va_rf rl1]) C S htab hlocks hl qy_X3_citeAtPlace qi_X3_citeAtPlace qs_X3_citeAtPlace gw_746 (ci := 6) rfl w (fun b w => qm_X3_citeAtPlace l hl9 D _ b xl4 _ _ w) rfl ⟨Nat.le_of_ble_eq_true rfl, Nat.le_of_ble_eq_true rfl⟩ ⟨rfl, rfl⟩ (by generalize rl1 = z0; cases z0 <;> exact Nat.le_of_ble_eq_true rfl) (fun b e9 => by cases e9; rfl) dX2_slotsCitedBy_20 ⟨Nat.le_of_ble_eq_true rfl, Nat.le_of_ble_eq_true rfl⟩ ⟨Nat.le_of_ble_eq_true rfl, Nat.le_of_ble_eq_true rfl⟩ (fun x1 h H locs S w => ?_)
        refine W.cs (cells' := 0) (slots' := 0) rfl rfl ?_
        refine ql_VI (As := [.int x1]) (rest := []) C S htab hlocks hl qy_X1_slotWithId qi_X1_slotWithId qs_X1_slotWithId gw_747 (ci := 4) rfl w (fun b w => qm_X1_slotWithId l hl9 D _ b x1 _ _ w) rfl ⟨Nat.le_of_ble_eq_true rfl, Nat.le_of_ble_eq_true rfl⟩ ⟨rfl, rfl⟩ (by exact Nat.le_of_ble_eq_true rfl) (fun b e9 => by cases e9; rfl) dX2_slotsCitedBy_23 ⟨Nat.le_of_ble_eq_true rfl, Nat.le_of_ble_eq_true rfl⟩ ⟨Nat.le_of_ble_eq_true rfl, Nat.le_of_ble_eq_true rfl⟩ (fun x3 h H locs S w => ?_)
        refine W.cs (cells' := 0) (slots' := 0) rfl rfl ?_
        refine lv_istore (lv' := [(5, .int x3), (0, va_rf rl0), (1, va_rf rl1), (2, .int xl2), (3, .int xl3), (4, .int xl4)]) C.1.1 C.1.2.1 dX2_slotsCitedBy_26 hl (by decide) rfl (fun ls hl => ?_)
        refine lv_iload C.1.1 C.1.2.1 dX2_slotsCitedBy_28 (lv_at hl 0 rfl) ?_
        refine lv_iconst (v := (-1 : Int32)) C.1.1 C.1.2.1 dX2_slotsCitedBy_30 (by decide) ?_
        refine lv_icmp_eq (tgt := 41) C.1.1 C.1.2.1 dX2_slotsCitedBy_31 (by decide) (fun c9 => ?_) (fun c9 => ?_)
        · replace w := ql_if w c9
          exact hB41 (qw_X2_slotsCitedBy_10 Q n) ih rl0 rl1 xl2 xl3 xl4 _ _ _ _ S (lv_sub hl [1, 2, 3, 4, 5] rfl) w
        · replace w := ql_ifn w c9
          refine lv_iload_n C.1.1 C.1.2.1 dX2_slotsCitedBy_34 rfl (lv_at hl 3 rfl) ?_
          refine lv_iconst (v := (1 : Int32)) C.1.1 C.1.2.1 dX2_slotsCitedBy_35 (by decide) ?_
          refine lv_iload C.1.1 C.1.2.1 dX2_slotsCitedBy_36 (lv_at hl 0 rfl) ?_
          refine lv_ishl C.1.1 C.1.2.1 dX2_slotsCitedBy_38 ?_
          refine lv_ior C.1.1 C.1.2.1 dX2_slotsCitedBy_39 ?_
          refine lv_istore_n (lv' := [(2, .int (xl2 ||| ((1 : Int32) <<< (x3 &&& 31)))), (5, .int x3), (0, va_rf rl0), (1, va_rf rl1), (3, .int xl3), (4, .int xl4)]) C.1.1 C.1.2.1 dX2_slotsCitedBy_40 rfl hl (by decide) (by generalize rl1 = z9; cases z9 <;> rfl) (fun ls hl => ?_)
          exact hB41 (qw_X2_slotsCitedBy_10 Q n) ih rl0 rl1 (xl2 ||| ((1 : Int32) <<< (x3 &&& 31))) xl3 xl4 _ _ _ _ S (lv_sub hl [2, 3, 0, 4, 5] rfl) w
  unfold qw_X2_slotsCitedBy at w
  refine lv_iconst (v := (0 : Int32)) C.1.1 C.1.2.1 dX2_slotsCitedBy_0 (by decide) ?_
  refine lv_istore_n (lv' := [(2, .int (0 : Int32)), (0, va_rf rp0), (1, va_rf rp1)]) C.1.1 C.1.2.1 dX2_slotsCitedBy_1 rfl hl (by decide) (by generalize rp1 = z9; cases z9 <;> rfl) (fun ls hl => ?_)
  refine ql_aload_n (r := rp0) C dX2_slotsCitedBy_2 rfl (lv_at hl 1 rfl) ?_
  refine ql_VI (As := []) (rest := []) C S htab hlocks hl qy_X3_countCites qi_X3_countCites qs_X3_countCites gw_745 (ci := 6) rfl w (fun b w => qm_X3_countCites l hl9 D _ b _ _ w) rfl ⟨Nat.le_of_ble_eq_true rfl, Nat.le_of_ble_eq_true rfl⟩ ⟨rfl, rfl⟩ (by exact Nat.le_of_ble_eq_true rfl) (fun b e9 => by cases e9; rfl) dX2_slotsCitedBy_3 ⟨Nat.le_of_ble_eq_true rfl, Nat.le_of_ble_eq_true rfl⟩ ⟨Nat.le_of_ble_eq_true rfl, Nat.le_of_ble_eq_true rfl⟩ (fun x5 h H locs S w => ?_)
  refine W.cs (cells' := 0) (slots' := 0) rfl rfl ?_
  refine lv_istore_n (lv' := [(3, .int x5), (2, .int (0 : Int32)), (0, va_rf rp0), (1, va_rf rp1)]) C.1.1 C.1.2.1 dX2_slotsCitedBy_6 rfl hl (by decide) rfl (fun ls hl => ?_)
  refine lv_iconst (v := (0 : Int32)) C.1.1 C.1.2.1 dX2_slotsCitedBy_7 (by decide) ?_
  refine lv_istore (lv' := [(4, .int (0 : Int32)), (3, .int x5), (2, .int (0 : Int32)), (0, va_rf rp0), (1, va_rf rp1)]) C.1.1 C.1.2.1 dX2_slotsCitedBy_8 hl (by decide) rfl (fun ls hl => ?_)
  exact hB10 ql_FU rp0 rp1 (0 : Int32) x5 (0 : Int32) _ _ _ _ S (lv_sub hl [3, 4, 2, 1, 0] rfl) w
def qw_X2_read_36 (a0 : Nat) (Q : ql_H → Prop) (k2 : Option Nat → Int32 → ql_H → Prop) (rl1 : Option Nat) (xl2 : Int32) (rs0 : Option Nat) (xs1 : Int32) (xs2 : Int32) (h : ql_H) : Prop :=
ql_sI h rs0 0 xs1 xs2 fun h =>
k2 rl1 (xl2 + (1 : Int32)) h
def qw_X2_read_2 (a0 : Nat) (Q : ql_H → Prop) : Nat → Option Nat → Int32 → ql_H → Prop
  | 0, _, _, _ => False
  | n + 1, rl1, xl2, h =>
    if (16 : Int32) ≤ xl2 then (Q h) else (ql_gR h rl1 4 0 fun r1 =>
    ql_lR h r1 5 xl2 fun r2 =>
    ql_gR h (some a0) 5 0 fun r3 =>
    ql_gI h r2 6 0 fun x4 =>
    if x4 = 0 then (qw_X2_read_36 a0 Q (qw_X2_read_2 a0 Q n) rl1 xl2 r3 xl2 (0 : Int32) h) else (qw_X2_slotsCitedBy r2 rl1 h (fun x5 h =>
    qw_X2_read_36 a0 Q (qw_X2_read_2 a0 Q n) rl1 xl2 r3 xl2 x5 h)))
def qw_X2_read (a0 : Nat) (rp1 : Option Nat) (h : ql_H) (Q : ql_H → Prop) : Prop :=
qw_X2_read_2 a0 Q ql_FU rp1 (0 : Int32) h
set_option maxHeartbeats 4000000 in
set_option maxRecDepth 100000 in
theorem qm_X2_read (l : Launch) (hl9 : l.stackTraces = false) (D : ql_D) (h0 : ql_H) (a0 : Nat) (rp1 : Option Nat) (Q : ql_H → Prop) (X : String → ql_H → Prop) (w : qw_X2_read a0 rp1 h0 Q) : ql_M D l yX2_read cX2_read 4 none ({ frames := 6, cells := 0, slots := 0, locals := 111 } : Room) h0 [.ref a0, va_rf rp1] (ql_rV Q) X 0 0 := by
  refine ql_ofW (by decide) (by cases rp1 <;> exact Nat.le_of_ble_eq_true rfl) ?_
  intro p e s m below meth c ls C hr hlocks hnm htab S hl
  rw [show lv_args 0 [.ref a0, va_rf rp1] = [(0, .ref a0), (1, va_rf rp1)] from by cases rp1 <;> rfl] at hl
  have hB36 : ∀ (k2 : Option Nat → Int32 → ql_H → Prop) (hk2 : ∀ (rl1 : Option Nat) (xl2 : Int32) (h : ql_H) (H : Heap) (locs : List Loc) (ls : Array Slot), ql_S D h0 s H locs h → lv_has ls 4 [(0, .ref a0), (1, va_rf rl1), (2, .int xl2)] → k2 rl1 xl2 h → W p l e ({ frames := 6, cells := 0, slots := 0, locals := 111 } : Room) s m ([.ref a0, va_rf rp1] : List Value).toArray below meth c H locs 0 0 (vx_MQ below (ql_Q D h0 (ql_rV Q)) (ql_X D h0 X) ([.ref a0, va_rf rp1] : List Value).toArray s 0 0 (ql_A h0)) (F0 m 2 ls [])) , ∀ (rl1 : Option Nat) (xl2 : Int32) (rs0 : Option Nat) (xs1 : Int32) (xs2 : Int32) (h : ql_H) (H : Heap) (locs : List Loc) (ls : Array Slot), ql_S D h0 s H locs h → lv_has ls 4 [(0, .ref a0), (1, va_rf rl1), (2, .int xl2)] → qw_X2_read_36 a0 Q k2 rl1 xl2 rs0 xs1 xs2 h → W p l e ({ frames := 6, cells := 0, slots := 0, locals := 111 } : Room) s m ([.ref a0, va_rf rp1] : List Value).toArray below meth c H locs 0 0 (vx_MQ below (ql_Q D h0 (ql_rV Q)) (ql_X D h0 X) ([.ref a0, va_rf rp1] : List Value).toArray s 0 0 (ql_A h0)) (F0 m 36 ls [.int xs2, .int xs1, va_rf rs0]) := by
    intro k2 hk2 rl1 xl2 rs0 xs1 xs2 h H locs ls S hl w
    unfold qw_X2_read_36 at w
    refine ql_iast C S dX2_read_36 w (fun h H locs S w => ?_)
    refine lv_iinc (v := (xl2 + (1 : Int32))) (lv' := [(2, .int (xl2 + (1 : Int32))), (0, .ref a0), (1, va_rf rl1)]) C.1.1 C.1.2.1 dX2_read_37 hl (k := 2) rfl rfl (by decide) (by generalize rl1 = z9; cases z9 <;> rfl) (fun ls hl => ?_)
    refine lv_goto (tgt := 2) C.1.1 C.1.2.1 dX2_read_40 (by decide) ?_
    exact hk2 rl1 (xl2 + (1 : Int32)) _ _ _ _ S (lv_sub hl [1, 2, 0] rfl) w
  have hB2 : ∀ n : Nat, ∀ (rl1 : Option Nat) (xl2 : Int32) (h : ql_H) (H : Heap) (locs : List Loc) (ls : Array Slot), ql_S D h0 s H locs h → lv_has ls 4 [(0, .ref a0), (1, va_rf rl1), (2, .int xl2)] → qw_X2_read_2 a0 Q n rl1 xl2 h → W p l e ({ frames := 6, cells := 0, slots := 0, locals := 111 } : Room) s m ([.ref a0, va_rf rp1] : List Value).toArray below meth c H locs 0 0 (vx_MQ below (ql_Q D h0 (ql_rV Q)) (ql_X D h0 X) ([.ref a0, va_rf rp1] : List Value).toArray s 0 0 (ql_A h0)) (F0 m 2 ls []) := by
    intro n
    induction n with
    | zero => intro rl1 xl2 h H locs ls S hl w; rw [qw_X2_read_2] at w; exact w.elim
    | succ n ih =>
      intro rl1 xl2 h H locs ls S hl w
      rw [qw_X2_read_2] at w
      refine lv_iload_n C.1.1 C.1.2.1 dX2_read_2 rfl (lv_at hl 2 rfl) ?_
      refine lv_bipush (v := (16 : Int32)) C.1.1 C.1.2.1 dX2_read_3 (by decide) ?_
      refine lv_icmp_ge (tgt := 43) C.1.1 C.1.2.1 dX2_read_5 (by decide) (fun c9 => ?_) (fun c9 => ?_)
      · replace w := ql_if w c9
        exact ql_vret C S hr hlocks dX2_read_43 ⟨Nat.le_of_ble_eq_true rfl, Nat.le_of_ble_eq_true rfl⟩ w
      · replace w := ql_ifn w c9
        refine ql_aload_n (r := rl1) C dX2_read_8 rfl (lv_at hl 1 rfl) ?_
        refine ql_getRN C S qf_4_0 (qn_RX2_21) dX2_read_9 w (fun r1 w => ?_)
        refine lv_iload_n C.1.1 C.1.2.1 dX2_read_12 rfl (lv_at hl 2 rfl) ?_
        refine ql_aald (kd := 5) C S rfl rfl dX2_read_13 w (fun r2 w => ?_)
        refine ql_astore_n (lv' := [(3, va_rf r2), (0, .ref a0), (1, va_rf rl1), (2, .int xl2)]) C dX2_read_14 rfl hl (by decide) rfl (fun ls hl => ?_)
        refine ql_aload_n (r := (some a0)) C dX2_read_15 rfl (lv_at hl 1 rfl) ?_
        refine ql_getR C S qf_5_0 gw_338 dX2_read_16 w (fun r3 w => ?_)
        refine lv_iload_n C.1.1 C.1.2.1 dX2_read_19 rfl (lv_at hl 3 rfl) ?_
        refine ql_aload_n (r := r2) C dX2_read_20 rfl (lv_at hl 0 rfl) ?_
        refine ql_getIN C S qf_6_0 (qn_RX2_27) dX2_read_21 w (fun x4 w => ?_)
        refine lv_if_eq (tgt := 35) C.1.1 C.1.2.1 dX2_read_24 (by decide) (fun c9 => ?_) (fun c9 => ?_)
        · replace w := ql_if w c9
          refine lv_iconst (v := (0 : Int32)) C.1.1 C.1.2.1 dX2_read_35 (by decide) ?_
          exact hB36 (qw_X2_read_2 a0 Q n) ih rl1 xl2 r3 xl2 (0 : Int32) _ _ _ _ S (lv_sub hl [1, 2, 3] rfl) w
        · replace w := ql_ifn w c9
          refine ql_aload_n (r := r2) C dX2_read_27 rfl (lv_at hl 0 rfl) ?_
          refine ql_aload_n (r := rl1) C dX2_read_28 rfl (lv_at hl 2 rfl) ?_
          refine ql_SI (As := [va_rf r2, va_rf rl1]) (rest := [.int xl2, va_rf r3]) C S htab hlocks hl qy_X2_slotsCitedBy qi_X2_slotsCitedBy gw_742 (qm_X2_slotsCitedBy l hl9 D _ r2 rl1 _ _ w) rfl ⟨Nat.le_of_ble_eq_true rfl, Nat.le_of_ble_eq_true rfl⟩ ⟨rfl, rfl⟩ (by generalize r3 = z0; cases z0 <;> exact Nat.le_of_ble_eq_true rfl) rfl dX2_read_29 ⟨Nat.le_of_ble_eq_true rfl, Nat.le_of_ble_eq_true rfl⟩ ⟨Nat.le_of_ble_eq_true rfl, Nat.le_of_ble_eq_true rfl⟩ (fun x5 h H locs S w => ?_)
          refine W.cs (cells' := 0) (slots' := 0) rfl rfl ?_
          refine lv_goto (tgt := 36) C.1.1 C.1.2.1 dX2_read_32 (by decide) ?_
          exact hB36 (qw_X2_read_2 a0 Q n) ih rl1 xl2 r3 xl2 x5 _ _ _ _ S (lv_sub hl [1, 2, 3] rfl) w
  unfold qw_X2_read at w
  refine lv_iconst (v := (0 : Int32)) C.1.1 C.1.2.1 dX2_read_0 (by decide) ?_
  refine lv_istore_n (lv' := [(2, .int (0 : Int32)), (0, .ref a0), (1, va_rf rp1)]) C.1.1 C.1.2.1 dX2_read_1 rfl hl (by decide) (by generalize rp1 = z9; cases z9 <;> rfl) (fun ls hl => ?_)
  exact hB2 ql_FU rp1 (0 : Int32) _ _ _ _ S (lv_sub hl [1, 2, 0] rfl) w
def qw_X2_countCiters_39 (a0 : Nat) (Q : Int32 → ql_H → Prop) (k14 : Int32 → Int32 → Option Nat → Int32 → Int32 → ql_H → Prop) (xl1 : Int32) (xl2 : Int32) (rl3 : Option Nat) (xl4 : Int32) (xl5 : Int32) (h : ql_H) : Prop :=
k14 xl1 xl2 rl3 xl4 (xl5 + (1 : Int32)) h
def qw_X2_countCiters_14 (a0 : Nat) (Q : Int32 → ql_H → Prop) : Nat → Int32 → Int32 → Option Nat → Int32 → Int32 → ql_H → Prop
  | 0, _, _, _, _, _, _ => False
  | n + 1, xl1, xl2, rl3, xl4, xl5, h =>
    if xl4 ≤ xl5 then (Q xl2 h) else (ql_lI h rl3 0 xl5 fun x1 =>
    qw_X2_hasSlot x1 xl1 h (fun x2 h =>
    if x2 = 0 then (qw_X2_countCiters_39 a0 Q (qw_X2_countCiters_14 a0 Q n) xl1 xl2 rl3 xl4 xl5 h) else (qw_X2_countCiters_39 a0 Q (qw_X2_countCiters_14 a0 Q n) xl1 (xl2 + (1 : Int32)) rl3 xl4 xl5 h)))
def qw_X2_countCiters (a0 : Nat) (xp1 : Int32) (h : ql_H) (Q : Int32 → ql_H → Prop) : Prop :=
ql_gR h (some a0) 5 0 fun r3 =>
ql_len h r3 0 fun x4 =>
qw_X2_countCiters_14 a0 Q ql_FU xp1 (0 : Int32) r3 x4 (0 : Int32) h
set_option maxHeartbeats 4000000 in
set_option maxRecDepth 100000 in
theorem qm_X2_countCiters (l : Launch) (hl9 : l.stackTraces = false) (D : ql_D) (h0 : ql_H) (a0 : Nat) (xp1 : Int32) (Q : Int32 → ql_H → Prop) (X : String → ql_H → Prop) (w : qw_X2_countCiters a0 xp1 h0 Q) : ql_M D l yX2_countCiters cX2_countCiters 7 (some .int) ({ frames := 4, cells := 0, slots := 0, locals := 77 } : Room) h0 [.ref a0, .int xp1] (ql_rI Q) X 0 0 := by
  refine ql_ofW (by decide) (Nat.le_of_ble_eq_true rfl) ?_
  intro p e s m below meth c ls C hr hlocks hnm htab S hl
  have hl : lv_has ls 7 [(0, .ref a0), (1, .int xp1)] := hl
  have hB39 : ∀ (k14 : Int32 → Int32 → Option Nat → Int32 → Int32 → ql_H → Prop) (hk14 : ∀ (xl1 : Int32) (xl2 : Int32) (rl3 : Option Nat) (xl4 : Int32) (xl5 : Int32) (h : ql_H) (H : Heap) (locs : List Loc) (ls : Array Slot), ql_S D h0 s H locs h → lv_has ls 7 [(1, .int xl1), (2, .int xl2), (3, va_rf rl3), (4, .int xl4), (5, .int xl5)] → k14 xl1 xl2 rl3 xl4 xl5 h → W p l e ({ frames := 4, cells := 0, slots := 0, locals := 77 } : Room) s m ([.ref a0, .int xp1] : List Value).toArray below meth c H locs 0 0 (vx_MQ below (ql_Q D h0 (ql_rI Q)) (ql_X D h0 X) ([.ref a0, .int xp1] : List Value).toArray s 0 0 (ql_A h0)) (F0 m 14 ls [])) , ∀ (xl1 : Int32) (xl2 : Int32) (rl3 : Option Nat) (xl4 : Int32) (xl5 : Int32) (h : ql_H) (H : Heap) (locs : List Loc) (ls : Array Slot), ql_S D h0 s H locs h → lv_has ls 7 [(1, .int xl1), (2, .int xl2), (3, va_rf rl3), (4, .int xl4), (5, .int xl5)] → qw_X2_countCiters_39 a0 Q k14 xl1 xl2 rl3 xl4 xl5 h → W p l e ({ frames := 4, cells := 0, slots := 0, locals := 77 } : Room) s m ([.ref a0, .int xp1] : List Value).toArray below meth c H locs 0 0 (vx_MQ below (ql_Q D h0 (ql_rI Q)) (ql_X D h0 X) ([.ref a0, .int xp1] : List Value).toArray s 0 0 (ql_A h0)) (F0 m 39 ls []) := by
    intro k14 hk14 xl1 xl2 rl3 xl4 xl5 h H locs ls S hl w
    unfold qw_X2_countCiters_39 at w
    refine lv_iinc (v := (xl5 + (1 : Int32))) (lv' := [(5, .int (xl5 + (1 : Int32))), (1, .int xl1), (2, .int xl2), (3, va_rf rl3), (4, .int xl4)]) C.1.1 C.1.2.1 dX2_countCiters_39 hl (k := 4) rfl rfl (by decide) rfl (fun ls hl => ?_)
    refine lv_goto (tgt := 14) C.1.1 C.1.2.1 dX2_countCiters_42 (by decide) ?_
    exact hk14 xl1 xl2 rl3 xl4 (xl5 + (1 : Int32)) _ _ _ _ S (lv_sub hl [1, 2, 3, 4, 0] rfl) w
  have hB14 : ∀ n : Nat, ∀ (xl1 : Int32) (xl2 : Int32) (rl3 : Option Nat) (xl4 : Int32) (xl5 : Int32) (h : ql_H) (H : Heap) (locs : List Loc) (ls : Array Slot), ql_S D h0 s H locs h → lv_has ls 7 [(1, .int xl1), (2, .int xl2), (3, va_rf rl3), (4, .int xl4), (5, .int xl5)] → qw_X2_countCiters_14 a0 Q n xl1 xl2 rl3 xl4 xl5 h → W p l e ({ frames := 4, cells := 0, slots := 0, locals := 77 } : Room) s m ([.ref a0, .int xp1] : List Value).toArray below meth c H locs 0 0 (vx_MQ below (ql_Q D h0 (ql_rI Q)) (ql_X D h0 X) ([.ref a0, .int xp1] : List Value).toArray s 0 0 (ql_A h0)) (F0 m 14 ls []) := by
    intro n
    induction n with
    | zero => intro xl1 xl2 rl3 xl4 xl5 h H locs ls S hl w; rw [qw_X2_countCiters_14] at w; exact w.elim
    | succ n ih =>
      intro xl1 xl2 rl3 xl4 xl5 h H locs ls S hl w
      rw [qw_X2_countCiters_14] at w
      refine lv_iload C.1.1 C.1.2.1 dX2_countCiters_14 (lv_at hl 4 rfl) ?_
      refine lv_iload C.1.1 C.1.2.1 dX2_countCiters_16 (lv_at hl 3 rfl) ?_
      refine lv_icmp_ge (tgt := 45) C.1.1 C.1.2.1 dX2_countCiters_18 (by decide) (fun c9 => ?_) (fun c9 => ?_)
      · replace w := ql_if w c9
        refine lv_iload_n C.1.1 C.1.2.1 dX2_countCiters_45 rfl (lv_at hl 1 rfl) ?_
        exact ql_iret C S hr hlocks dX2_countCiters_46 ⟨Nat.le_of_ble_eq_true rfl, Nat.le_of_ble_eq_true rfl⟩ w
      · replace w := ql_ifn w c9
        refine ql_aload_n (r := rl3) C dX2_countCiters_21 rfl (lv_at hl 2 rfl) ?_
        refine lv_iload C.1.1 C.1.2.1 dX2_countCiters_22 (lv_at hl 4 rfl) ?_
        refine ql_iald C S dX2_countCiters_24 w (fun x1 w => ?_)
        refine lv_istore (lv' := [(6, .int x1), (1, .int xl1), (2, .int xl2), (3, va_rf rl3), (4, .int xl4), (5, .int xl5)]) C.1.1 C.1.2.1 dX2_countCiters_25 hl (by decide) rfl (fun ls hl => ?_)
        refine lv_iload C.1.1 C.1.2.1 dX2_countCiters_27 (lv_at hl 0 rfl) ?_
        refine lv_iload_n C.1.1 C.1.2.1 dX2_countCiters_29 rfl (lv_at hl 1 rfl) ?_
        refine ql_SI (As := [.int x1, .int xl1]) (rest := []) C S htab hlocks hl qy_X2_hasSlot qi_X2_hasSlot gw_753 (qm_X2_hasSlot l hl9 D _ x1 xl1 _ _ w) rfl ⟨Nat.le_of_ble_eq_true rfl, Nat.le_of_ble_eq_true rfl⟩ ⟨rfl, rfl⟩ (by exact Nat.le_of_ble_eq_true rfl) rfl dX2_countCiters_30 ⟨Nat.le_of_ble_eq_true rfl, Nat.le_of_ble_eq_true rfl⟩ ⟨Nat.le_of_ble_eq_true rfl, Nat.le_of_ble_eq_true rfl⟩ (fun x2 h H locs S w => ?_)
        refine W.cs (cells' := 0) (slots' := 0) rfl rfl ?_
        refine lv_if_eq (tgt := 39) C.1.1 C.1.2.1 dX2_countCiters_33 (by decide) (fun c9 => ?_) (fun c9 => ?_)
        · replace w := ql_if w c9
          exact hB39 (qw_X2_countCiters_14 a0 Q n) ih xl1 xl2 rl3 xl4 xl5 _ _ _ _ S (lv_sub hl [1, 2, 3, 4, 5] rfl) w
        · replace w := ql_ifn w c9
          refine lv_iinc (v := (xl2 + (1 : Int32))) (lv' := [(2, .int (xl2 + (1 : Int32))), (6, .int x1), (1, .int xl1), (3, va_rf rl3), (4, .int xl4), (5, .int xl5)]) C.1.1 C.1.2.1 dX2_countCiters_36 hl (k := 2) rfl rfl (by decide) rfl (fun ls hl => ?_)
          exact hB39 (qw_X2_countCiters_14 a0 Q n) ih xl1 (xl2 + (1 : Int32)) rl3 xl4 xl5 _ _ _ _ S (lv_sub hl [2, 0, 3, 4, 5] rfl) w
  unfold qw_X2_countCiters at w
  refine lv_iconst (v := (0 : Int32)) C.1.1 C.1.2.1 dX2_countCiters_0 (by decide) ?_
  refine lv_istore_n (lv' := [(2, .int (0 : Int32)), (0, .ref a0), (1, .int xp1)]) C.1.1 C.1.2.1 dX2_countCiters_1 rfl hl (by decide) rfl (fun ls hl => ?_)
  refine ql_aload_n (r := (some a0)) C dX2_countCiters_2 rfl (lv_at hl 1 rfl) ?_
  refine ql_getR C S qf_5_0 gw_338 dX2_countCiters_3 w (fun r3 w => ?_)
  refine ql_astore_n (lv' := [(3, va_rf r3), (2, .int (0 : Int32)), (0, .ref a0), (1, .int xp1)]) C dX2_countCiters_6 rfl hl (by decide) rfl (fun ls hl => ?_)
  refine ql_aload_n (r := r3) C dX2_countCiters_7 rfl (lv_at hl 0 rfl) ?_
  refine ql_alen (kd := 0) C S rfl dX2_countCiters_8 w (fun x4 w => ?_)
  refine lv_istore (lv' := [(4, .int x4), (3, va_rf r3), (2, .int (0 : Int32)), (0, .ref a0), (1, .int xp1)]) C.1.1 C.1.2.1 dX2_countCiters_9 hl (by decide) (by generalize r3 = z9; cases z9 <;> rfl) (fun ls hl => ?_)
  refine lv_iconst (v := (0 : Int32)) C.1.1 C.1.2.1 dX2_countCiters_11 (by decide) ?_
  refine lv_istore (lv' := [(5, .int (0 : Int32)), (4, .int x4), (3, va_rf r3), (2, .int (0 : Int32)), (0, .ref a0), (1, .int xp1)]) C.1.1 C.1.2.1 dX2_countCiters_12 hl (by decide) rfl (fun ls hl => ?_)
  exact hB14 ql_FU xp1 (0 : Int32) r3 x4 (0 : Int32) _ _ _ _ S (lv_sub hl [5, 3, 2, 1, 0] rfl) w
def qw_X2_slotsFoundFrom_93 (a0 : Nat) (Q : Int32 → ql_H → Prop) (k56 : Int32 → Int32 → Int32 → Int32 → Int32 → ql_H → Prop) (xl2 : Int32) (xl3 : Int32) (xl4 : Int32) (xl5 : Int32) (xl6 : Int32) (h : ql_H) : Prop :=
k56 xl2 xl3 xl4 xl5 (xl6 + (1 : Int32)) h
def qw_X2_slotsFoundFrom_56 (a0 : Nat) (Q : Int32 → ql_H → Prop) (k14 : Int32 → Int32 → Int32 → ql_H → Prop) : Nat → Int32 → Int32 → Int32 → Int32 → Int32 → ql_H → Prop
  | 0, _, _, _, _, _, _ => False
  | n + 1, xl2, xl3, xl4, xl5, xl6, h =>
    if (16 : Int32) ≤ xl6 then (k14 xl2 xl3 (xl4 + (1 : Int32)) h) else (qw_X2_hasSlot xl5 xl6 h (fun x1 h =>
    if x1 = 0 then (qw_X2_slotsFoundFrom_93 a0 Q (qw_X2_slotsFoundFrom_56 a0 Q k14 n) xl2 xl3 xl4 xl5 xl6 h) else (ql_gR h (some a0) 5 2 fun r2 =>
    ql_len h r2 0 fun x3 =>
    if x3 ≤ xl3 then (qw_X2_slotsFoundFrom_93 a0 Q (qw_X2_slotsFoundFrom_56 a0 Q k14 n) xl2 xl3 xl4 xl5 xl6 h) else (ql_gR h (some a0) 5 2 fun r4 =>
    ql_sI h r4 0 xl3 xl6 fun h =>
    qw_X2_slotsFoundFrom_93 a0 Q (qw_X2_slotsFoundFrom_56 a0 Q k14 n) xl2 (xl3 + (1 : Int32)) xl4 xl5 xl6 h))))
def qw_X2_slotsFoundFrom_14 (a0 : Nat) (Q : Int32 → ql_H → Prop) : Nat → Int32 → Int32 → Int32 → ql_H → Prop
  | 0, _, _, _, _ => False
  | n + 1, xl2, xl3, xl4, h =>
    if xl3 ≤ xl4 then (Q xl2 h) else (ql_gR h (some a0) 5 2 fun r5 =>
    ql_len h r5 0 fun x6 =>
    if x6 ≤ xl4 then (Q xl2 h) else (ql_gR h (some a0) 5 0 fun r7 =>
    ql_gR h (some a0) 5 2 fun r8 =>
    ql_lI h r8 0 xl4 fun x9 =>
    ql_lI h r7 0 x9 fun x10 =>
    qw_X2_slotsFoundFrom_56 a0 Q (qw_X2_slotsFoundFrom_14 a0 Q n) ql_FU (xl2 ||| (x10 &&& (xl2 ^^^ (-1 : Int32)))) xl3 xl4 (x10 &&& (xl2 ^^^ (-1 : Int32))) (0 : Int32) h))
def qw_X2_slotsFoundFrom (a0 : Nat) (xp1 : Int32) (h : ql_H) (Q : Int32 → ql_H → Prop) : Prop :=
ql_gR h (some a0) 5 2 fun r11 =>
ql_sI h r11 0 (0 : Int32) xp1 fun h =>
qw_X2_slotsFoundFrom_14 a0 Q ql_FU (0 : Int32) (1 : Int32) (0 : Int32) h
set_option maxHeartbeats 4000000 in
set_option maxRecDepth 100000 in
theorem qm_X2_slotsFoundFrom (l : Launch) (hl9 : l.stackTraces = false) (D : ql_D) (h0 : ql_H) (a0 : Nat) (xp1 : Int32) (Q : Int32 → ql_H → Prop) (X : String → ql_H → Prop) (w : qw_X2_slotsFoundFrom a0 xp1 h0 Q) : ql_M D l yX2_slotsFoundFrom cX2_slotsFoundFrom 7 (some .int) ({ frames := 4, cells := 0, slots := 0, locals := 77 } : Room) h0 [.ref a0, .int xp1] (ql_rI Q) X 0 0 := by
  refine ql_ofW (by decide) (Nat.le_of_ble_eq_true rfl) ?_
  intro p e s m below meth c ls C hr hlocks hnm htab S hl
  have hl : lv_has ls 7 [(0, .ref a0), (1, .int xp1)] := hl
  have hB93 : ∀ (k56 : Int32 → Int32 → Int32 → Int32 → Int32 → ql_H → Prop) (hk56 : ∀ (xl2 : Int32) (xl3 : Int32) (xl4 : Int32) (xl5 : Int32) (xl6 : Int32) (h : ql_H) (H : Heap) (locs : List Loc) (ls : Array Slot), ql_S D h0 s H locs h → lv_has ls 7 [(0, .ref a0), (2, .int xl2), (3, .int xl3), (4, .int xl4), (5, .int xl5), (6, .int xl6)] → k56 xl2 xl3 xl4 xl5 xl6 h → W p l e ({ frames := 4, cells := 0, slots := 0, locals := 77 } : Room) s m ([.ref a0, .int xp1] : List Value).toArray below meth c H locs 0 0 (vx_MQ below (ql_Q D h0 (ql_rI Q)) (ql_X D h0 X) ([.ref a0, .int xp1] : List Value).toArray s 0 0 (ql_A h0)) (F0 m 56 ls [])) , ∀ (xl2 : Int32) (xl3 : Int32) (xl4 : Int32) (xl5 : Int32) (xl6 : Int32) (h : ql_H) (H : Heap) (locs : List Loc) (ls : Array Slot), ql_S D h0 s H locs h → lv_has ls 7 [(0, .ref a0), (2, .int xl2), (3, .int xl3), (4, .int xl4), (5, .int xl5), (6, .int xl6)] → qw_X2_slotsFoundFrom_93 a0 Q k56 xl2 xl3 xl4 xl5 xl6 h → W p l e ({ frames := 4, cells := 0, slots := 0, locals := 77 } : Room) s m ([.ref a0, .int xp1] : List Value).toArray below meth c H locs 0 0 (vx_MQ below (ql_Q D h0 (ql_rI Q)) (ql_X D h0 X) ([.ref a0, .int xp1] : List Value).toArray s 0 0 (ql_A h0)) (F0 m 93 ls []) := by
    intro k56 hk56 xl2 xl3 xl4 xl5 xl6 h H locs ls S hl w
    unfold qw_X2_slotsFoundFrom_93 at w
    refine lv_iinc (v := (xl6 + (1 : Int32))) (lv' := [(6, .int (xl6 + (1 : Int32))), (0, .ref a0), (2, .int xl2), (3, .int xl3), (4, .int xl4), (5, .int xl5)]) C.1.1 C.1.2.1 dX2_slotsFoundFrom_93 hl (k := 5) rfl rfl (by decide) rfl (fun ls hl => ?_)
    refine lv_goto (tgt := 56) C.1.1 C.1.2.1 dX2_slotsFoundFrom_96 (by decide) ?_
    exact hk56 xl2 xl3 xl4 xl5 (xl6 + (1 : Int32)) _ _ _ _ S (lv_sub hl [1, 2, 3, 4, 5, 0] rfl) w
  have hB56 : ∀ (k14 : Int32 → Int32 → Int32 → ql_H → Prop) (hk14 : ∀ (xl2 : Int32) (xl3 : Int32) (xl4 : Int32) (h : ql_H) (H : Heap) (locs : List Loc) (ls : Array Slot), ql_S D h0 s H locs h → lv_has ls 7 [(0, .ref a0), (2, .int xl2), (3, .int xl3), (4, .int xl4)] → k14 xl2 xl3 xl4 h → W p l e ({ frames := 4, cells := 0, slots := 0, locals := 77 } : Room) s m ([.ref a0, .int xp1] : List Value).toArray below meth c H locs 0 0 (vx_MQ below (ql_Q D h0 (ql_rI Q)) (ql_X D h0 X) ([.ref a0, .int xp1] : List Value).toArray s 0 0 (ql_A h0)) (F0 m 14 ls [])) , ∀ n : Nat, ∀ (xl2 : Int32) (xl3 : Int32) (xl4 : Int32) (xl5 : Int32) (xl6 : Int32) (h : ql_H) (H : Heap) (locs : List Loc) (ls : Array Slot), ql_S D h0 s H locs h → lv_has ls 7 [(0, .ref a0), (2, .int xl2), (3, .int xl3), (4, .int xl4), (5, .int xl5), (6, .int xl6)] → qw_X2_slotsFoundFrom_56 a0 Q k14 n xl2 xl3 xl4 xl5 xl6 h → W p l e ({ frames := 4, cells := 0, slots := 0, locals := 77 } : Room) s m ([.ref a0, .int xp1] : List Value).toArray below meth c H locs 0 0 (vx_MQ below (ql_Q D h0 (ql_rI Q)) (ql_X D h0 X) ([.ref a0, .int xp1] : List Value).toArray s 0 0 (ql_A h0)) (F0 m 56 ls []) := by
    intro k14 hk14 n
    induction n with
    | zero => intro xl2 xl3 xl4 xl5 xl6 h H locs ls S hl w; rw [qw_X2_slotsFoundFrom_56] at w; exact w.elim
    | succ n ih =>
      intro xl2 xl3 xl4 xl5 xl6 h H locs ls S hl w
      rw [qw_X2_slotsFoundFrom_56] at w
      refine lv_iload C.1.1 C.1.2.1 dX2_slotsFoundFrom_56 (lv_at hl 5 rfl) ?_
      refine lv_bipush (v := (16 : Int32)) C.1.1 C.1.2.1 dX2_slotsFoundFrom_58 (by decide) ?_
      refine lv_icmp_ge (tgt := 99) C.1.1 C.1.2.1 dX2_slotsFoundFrom_60 (by decide) (fun c9 => ?_) (fun c9 => ?_)
      · replace w := ql_if w c9
        refine lv_iinc (v := (xl4 + (1 : Int32))) (lv' := [(4, .int (xl4 + (1 : Int32))), (0, .ref a0), (2, .int xl2), (3, .int xl3), (5, .int xl5), (6, .int xl6)]) C.1.1 C.1.2.1 dX2_slotsFoundFrom_99 hl (k := 3) rfl rfl (by decide) rfl (fun ls hl => ?_)
        refine lv_goto (tgt := 14) C.1.1 C.1.2.1 dX2_slotsFoundFrom_102 (by decide) ?_
        exact hk14 xl2 xl3 (xl4 + (1 : Int32)) _ _ _ _ S (lv_sub hl [1, 2, 3, 0] rfl) w
      · replace w := ql_ifn w c9
        refine lv_iload C.1.1 C.1.2.1 dX2_slotsFoundFrom_63 (lv_at hl 4 rfl) ?_
        refine lv_iload C.1.1 C.1.2.1 dX2_slotsFoundFrom_65 (lv_at hl 5 rfl) ?_
        refine ql_SI (As := [.int xl5, .int xl6]) (rest := []) C S htab hlocks hl qy_X2_hasSlot qi_X2_hasSlot gw_753 (qm_X2_hasSlot l hl9 D _ xl5 xl6 _ _ w) rfl ⟨Nat.le_of_ble_eq_true rfl, Nat.le_of_ble_eq_true rfl⟩ ⟨rfl, rfl⟩ (by exact Nat.le_of_ble_eq_true rfl) rfl dX2_slotsFoundFrom_67 ⟨Nat.le_of_ble_eq_true rfl, Nat.le_of_ble_eq_true rfl⟩ ⟨Nat.le_of_ble_eq_true rfl, Nat.le_of_ble_eq_true rfl⟩ (fun x1 h H locs S w => ?_)
        refine W.cs (cells' := 0) (slots' := 0) rfl rfl ?_
        refine lv_if_eq (tgt := 93) C.1.1 C.1.2.1 dX2_slotsFoundFrom_70 (by decide) (fun c9 => ?_) (fun c9 => ?_)
        · replace w := ql_if w c9
          exact hB93 (qw_X2_slotsFoundFrom_56 a0 Q k14 n) ih xl2 xl3 xl4 xl5 xl6 _ _ _ _ S (lv_sub hl [0, 1, 2, 3, 4, 5] rfl) w
        · replace w := ql_ifn w c9
          refine lv_iload_n C.1.1 C.1.2.1 dX2_slotsFoundFrom_73 rfl (lv_at hl 2 rfl) ?_
          refine ql_aload_n (r := (some a0)) C dX2_slotsFoundFrom_74 rfl (lv_at hl 0 rfl) ?_
          refine ql_getR C S qf_5_2 gw_340 dX2_slotsFoundFrom_75 w (fun r2 w => ?_)
          refine ql_alen (kd := 0) C S rfl dX2_slotsFoundFrom_78 w (fun x3 w => ?_)
          refine lv_icmp_ge (tgt := 93) C.1.1 C.1.2.1 dX2_slotsFoundFrom_79 (by decide) (fun c9 => ?_) (fun c9 => ?_)
          · replace w := ql_if w c9
            exact hB93 (qw_X2_slotsFoundFrom_56 a0 Q k14 n) ih xl2 xl3 xl4 xl5 xl6 _ _ _ _ S (lv_sub hl [0, 1, 2, 3, 4, 5] rfl) w
          · replace w := ql_ifn w c9
            refine ql_aload_n (r := (some a0)) C dX2_slotsFoundFrom_82 rfl (lv_at hl 0 rfl) ?_
            refine ql_getR C S qf_5_2 gw_340 dX2_slotsFoundFrom_83 w (fun r4 w => ?_)
            refine lv_iload_n C.1.1 C.1.2.1 dX2_slotsFoundFrom_86 rfl (lv_at hl 2 rfl) ?_
            refine lv_iload C.1.1 C.1.2.1 dX2_slotsFoundFrom_87 (lv_at hl 5 rfl) ?_
            refine ql_iast C S dX2_slotsFoundFrom_89 w (fun h H locs S w => ?_)
            refine lv_iinc (v := (xl3 + (1 : Int32))) (lv' := [(3, .int (xl3 + (1 : Int32))), (0, .ref a0), (2, .int xl2), (4, .int xl4), (5, .int xl5), (6, .int xl6)]) C.1.1 C.1.2.1 dX2_slotsFoundFrom_90 hl (k := 2) rfl rfl (by decide) rfl (fun ls hl => ?_)
            exact hB93 (qw_X2_slotsFoundFrom_56 a0 Q k14 n) ih xl2 (xl3 + (1 : Int32)) xl4 xl5 xl6 _ _ _ _ S (lv_sub hl [1, 2, 0, 3, 4, 5] rfl) w
  have hB14 : ∀ n : Nat, ∀ (xl2 : Int32) (xl3 : Int32) (xl4 : Int32) (h : ql_H) (H : Heap) (locs : List Loc) (ls : Array Slot), ql_S D h0 s H locs h → lv_has ls 7 [(0, .ref a0), (2, .int xl2), (3, .int xl3), (4, .int xl4)] → qw_X2_slotsFoundFrom_14 a0 Q n xl2 xl3 xl4 h → W p l e ({ frames := 4, cells := 0, slots := 0, locals := 77 } : Room) s m ([.ref a0, .int xp1] : List Value).toArray below meth c H locs 0 0 (vx_MQ below (ql_Q D h0 (ql_rI Q)) (ql_X D h0 X) ([.ref a0, .int xp1] : List Value).toArray s 0 0 (ql_A h0)) (F0 m 14 ls []) := by
    intro n
    induction n with
    | zero => intro xl2 xl3 xl4 h H locs ls S hl w; rw [qw_X2_slotsFoundFrom_14] at w; exact w.elim
    | succ n ih =>
      intro xl2 xl3 xl4 h H locs ls S hl w
      rw [qw_X2_slotsFoundFrom_14] at w
      refine lv_iload C.1.1 C.1.2.1 dX2_slotsFoundFrom_14 (lv_at hl 3 rfl) ?_
      refine lv_iload_n C.1.1 C.1.2.1 dX2_slotsFoundFrom_16 rfl (lv_at hl 2 rfl) ?_
      refine lv_icmp_ge (tgt := 105) C.1.1 C.1.2.1 dX2_slotsFoundFrom_17 (by decide) (fun c9 => ?_) (fun c9 => ?_)
      · replace w := ql_if w c9
        refine lv_iload_n C.1.1 C.1.2.1 dX2_slotsFoundFrom_105 rfl (lv_at hl 1 rfl) ?_
        exact ql_iret C S hr hlocks dX2_slotsFoundFrom_106 ⟨Nat.le_of_ble_eq_true rfl, Nat.le_of_ble_eq_true rfl⟩ w
      · replace w := ql_ifn w c9
        refine lv_iload C.1.1 C.1.2.1 dX2_slotsFoundFrom_20 (lv_at hl 3 rfl) ?_
        refine ql_aload_n (r := (some a0)) C dX2_slotsFoundFrom_22 rfl (lv_at hl 0 rfl) ?_
        refine ql_getR C S qf_5_2 gw_340 dX2_slotsFoundFrom_23 w (fun r5 w => ?_)
        refine ql_alen (kd := 0) C S rfl dX2_slotsFoundFrom_26 w (fun x6 w => ?_)
        refine lv_icmp_ge (tgt := 105) C.1.1 C.1.2.1 dX2_slotsFoundFrom_27 (by decide) (fun c9 => ?_) (fun c9 => ?_)
        · replace w := ql_if w c9
          refine lv_iload_n C.1.1 C.1.2.1 dX2_slotsFoundFrom_105 rfl (lv_at hl 1 rfl) ?_
          exact ql_iret C S hr hlocks dX2_slotsFoundFrom_106 ⟨Nat.le_of_ble_eq_true rfl, Nat.le_of_ble_eq_true rfl⟩ w
        · replace w := ql_ifn w c9
          refine ql_aload_n (r := (some a0)) C dX2_slotsFoundFrom_30 rfl (lv_at hl 0 rfl) ?_
          refine ql_getR C S qf_5_0 gw_338 dX2_slotsFoundFrom_31 w (fun r7 w => ?_)
          refine ql_aload_n (r := (some a0)) C dX2_slotsFoundFrom_34 rfl (lv_at hl 0 rfl) ?_
          refine ql_getR C S qf_5_2 gw_340 dX2_slotsFoundFrom_35 w (fun r8 w => ?_)
          refine lv_iload C.1.1 C.1.2.1 dX2_slotsFoundFrom_38 (lv_at hl 3 rfl) ?_
          refine ql_iald C S dX2_slotsFoundFrom_40 w (fun x9 w => ?_)
          refine ql_iald C S dX2_slotsFoundFrom_41 w (fun x10 w => ?_)
          refine lv_iload_n C.1.1 C.1.2.1 dX2_slotsFoundFrom_42 rfl (lv_at hl 1 rfl) ?_
          refine lv_iconst (v := (-1 : Int32)) C.1.1 C.1.2.1 dX2_slotsFoundFrom_43 (by decide) ?_
          refine lv_ixor C.1.1 C.1.2.1 dX2_slotsFoundFrom_44 ?_
          refine lv_iand C.1.1 C.1.2.1 dX2_slotsFoundFrom_45 ?_
          refine lv_istore (lv' := [(5, .int (x10 &&& (xl2 ^^^ (-1 : Int32)))), (0, .ref a0), (2, .int xl2), (3, .int xl3), (4, .int xl4)]) C.1.1 C.1.2.1 dX2_slotsFoundFrom_46 hl (by decide) rfl (fun ls hl => ?_)
          refine lv_iload_n C.1.1 C.1.2.1 dX2_slotsFoundFrom_48 rfl (lv_at hl 2 rfl) ?_
          refine lv_iload C.1.1 C.1.2.1 dX2_slotsFoundFrom_49 (lv_at hl 0 rfl) ?_
          refine lv_ior C.1.1 C.1.2.1 dX2_slotsFoundFrom_51 ?_
          refine lv_istore_n (lv' := [(2, .int (xl2 ||| (x10 &&& (xl2 ^^^ (-1 : Int32))))), (5, .int (x10 &&& (xl2 ^^^ (-1 : Int32)))), (0, .ref a0), (3, .int xl3), (4, .int xl4)]) C.1.1 C.1.2.1 dX2_slotsFoundFrom_52 rfl hl (by decide) rfl (fun ls hl => ?_)
          refine lv_iconst (v := (0 : Int32)) C.1.1 C.1.2.1 dX2_slotsFoundFrom_53 (by decide) ?_
          refine lv_istore (lv' := [(6, .int (0 : Int32)), (2, .int (xl2 ||| (x10 &&& (xl2 ^^^ (-1 : Int32))))), (5, .int (x10 &&& (xl2 ^^^ (-1 : Int32)))), (0, .ref a0), (3, .int xl3), (4, .int xl4)]) C.1.1 C.1.2.1 dX2_slotsFoundFrom_54 hl (by decide) rfl (fun ls hl => ?_)
          exact hB56 (qw_X2_slotsFoundFrom_14 a0 Q n) ih ql_FU (xl2 ||| (x10 &&& (xl2 ^^^ (-1 : Int32)))) xl3 xl4 (x10 &&& (xl2 ^^^ (-1 : Int32))) (0 : Int32) _ _ _ _ S (lv_sub hl [3, 1, 4, 5, 2, 0] rfl) w
  unfold qw_X2_slotsFoundFrom at w
  refine lv_iconst (v := (0 : Int32)) C.1.1 C.1.2.1 dX2_slotsFoundFrom_0 (by decide) ?_
  refine lv_istore_n (lv' := [(2, .int (0 : Int32)), (0, .ref a0), (1, .int xp1)]) C.1.1 C.1.2.1 dX2_slotsFoundFrom_1 rfl hl (by decide) rfl (fun ls hl => ?_)
  refine lv_iconst (v := (1 : Int32)) C.1.1 C.1.2.1 dX2_slotsFoundFrom_2 (by decide) ?_
  refine lv_istore_n (lv' := [(3, .int (1 : Int32)), (2, .int (0 : Int32)), (0, .ref a0), (1, .int xp1)]) C.1.1 C.1.2.1 dX2_slotsFoundFrom_3 rfl hl (by decide) rfl (fun ls hl => ?_)
  refine ql_aload_n (r := (some a0)) C dX2_slotsFoundFrom_4 rfl (lv_at hl 2 rfl) ?_
  refine ql_getR C S qf_5_2 gw_340 dX2_slotsFoundFrom_5 w (fun r11 w => ?_)
  refine lv_iconst (v := (0 : Int32)) C.1.1 C.1.2.1 dX2_slotsFoundFrom_8 (by decide) ?_
  refine lv_iload_n C.1.1 C.1.2.1 dX2_slotsFoundFrom_9 rfl (lv_at hl 3 rfl) ?_
  refine ql_iast C S dX2_slotsFoundFrom_10 w (fun h H locs S w => ?_)
  refine lv_iconst (v := (0 : Int32)) C.1.1 C.1.2.1 dX2_slotsFoundFrom_11 (by decide) ?_
  refine lv_istore (lv' := [(4, .int (0 : Int32)), (3, .int (1 : Int32)), (2, .int (0 : Int32)), (0, .ref a0), (1, .int xp1)]) C.1.1 C.1.2.1 dX2_slotsFoundFrom_12 hl (by decide) rfl (fun ls hl => ?_)
  exact hB14 ql_FU (0 : Int32) (1 : Int32) (0 : Int32) _ _ _ _ S (lv_sub hl [3, 2, 1, 0] rfl) w
def qw_X2_close_59 (a0 : Nat) (Q : ql_H → Prop) (k25 : Int32 → Int32 → ql_H → Prop) (xl1 : Int32) (xl2 : Int32) (h : ql_H) : Prop :=
k25 xl1 (xl2 + (1 : Int32)) h
def qw_X2_close_25 (a0 : Nat) (Q : ql_H → Prop) (k17 : Int32 → ql_H → Prop) : Nat → Int32 → Int32 → ql_H → Prop
  | 0, _, _, _ => False
  | n + 1, xl1, xl2, h =>
    if (16 : Int32) ≤ xl2 then (k17 (xl1 + (1 : Int32)) h) else (ql_gR h (some a0) 5 1 fun r1 =>
    ql_lI h r1 0 xl2 fun x2 =>
    qw_X2_hasSlot x2 xl1 h (fun x3 h =>
    if x3 = 0 then (qw_X2_close_59 a0 Q (qw_X2_close_25 a0 Q k17 n) xl1 xl2 h) else (ql_gR h (some a0) 5 1 fun r4 =>
    ql_lI h r4 0 xl2 fun x5 =>
    ql_gR h (some a0) 5 1 fun r6 =>
    ql_lI h r6 0 xl1 fun x7 =>
    ql_sI h r4 0 xl2 (x5 ||| x7) fun h =>
    qw_X2_close_59 a0 Q (qw_X2_close_25 a0 Q k17 n) xl1 xl2 h)))
def qw_X2_close_17 (a0 : Nat) (Q : ql_H → Prop) : Nat → Int32 → ql_H → Prop
  | 0, _, _ => False
  | n + 1, xl1, h =>
    if (16 : Int32) ≤ xl1 then (Q h) else (qw_X2_close_25 a0 Q (qw_X2_close_17 a0 Q n) ql_FU xl1 (0 : Int32) h)
def qw_X2_close (a0 : Nat) (h : ql_H) (Q : ql_H → Prop) : Prop :=
ql_gR h (some a0) 5 0 fun r8 =>
ql_gR h (some a0) 5 1 fun r9 =>
ql_cpI h r8 (0 : Int32) r9 (0 : Int32) (16 : Int32) 0 .int fun h =>
qw_X2_close_17 a0 Q ql_FU (0 : Int32) h
set_option maxHeartbeats 4000000 in
set_option maxRecDepth 100000 in
theorem qm_X2_close (l : Launch) (hl9 : l.stackTraces = false) (D : ql_D) (h0 : ql_H) (a0 : Nat) (Q : ql_H → Prop) (X : String → ql_H → Prop) (w : qw_X2_close a0 h0 Q) : ql_M D l yX2_close cX2_close 3 none ({ frames := 4, cells := 0, slots := 0, locals := 77 } : Room) h0 [.ref a0] (ql_rV Q) X 0 0 := by
  refine ql_ofW (by decide) (Nat.le_of_ble_eq_true rfl) ?_
  intro p e s m below meth c ls C hr hlocks hnm htab S hl
  have hl : lv_has ls 3 [(0, .ref a0)] := hl
  have hB59 : ∀ (k25 : Int32 → Int32 → ql_H → Prop) (hk25 : ∀ (xl1 : Int32) (xl2 : Int32) (h : ql_H) (H : Heap) (locs : List Loc) (ls : Array Slot), ql_S D h0 s H locs h → lv_has ls 3 [(0, .ref a0), (1, .int xl1), (2, .int xl2)] → k25 xl1 xl2 h → W p l e ({ frames := 4, cells := 0, slots := 0, locals := 77 } : Room) s m ([.ref a0] : List Value).toArray below meth c H locs 0 0 (vx_MQ below (ql_Q D h0 (ql_rV Q)) (ql_X D h0 X) ([.ref a0] : List Value).toArray s 0 0 (ql_A h0)) (F0 m 25 ls [])) , ∀ (xl1 : Int32) (xl2 : Int32) (h : ql_H) (H : Heap) (locs : List Loc) (ls : Array Slot), ql_S D h0 s H locs h → lv_has ls 3 [(0, .ref a0), (1, .int xl1), (2, .int xl2)] → qw_X2_close_59 a0 Q k25 xl1 xl2 h → W p l e ({ frames := 4, cells := 0, slots := 0, locals := 77 } : Room) s m ([.ref a0] : List Value).toArray below meth c H locs 0 0 (vx_MQ below (ql_Q D h0 (ql_rV Q)) (ql_X D h0 X) ([.ref a0] : List Value).toArray s 0 0 (ql_A h0)) (F0 m 59 ls []) := by
    intro k25 hk25 xl1 xl2 h H locs ls S hl w
    unfold qw_X2_close_59 at w
    refine lv_iinc (v := (xl2 + (1 : Int32))) (lv' := [(2, .int (xl2 + (1 : Int32))), (0, .ref a0), (1, .int xl1)]) C.1.1 C.1.2.1 dX2_close_59 hl (k := 2) rfl rfl (by decide) rfl (fun ls hl => ?_)
    refine lv_goto (tgt := 25) C.1.1 C.1.2.1 dX2_close_62 (by decide) ?_
    exact hk25 xl1 (xl2 + (1 : Int32)) _ _ _ _ S (lv_sub hl [1, 2, 0] rfl) w
  have hB25 : ∀ (k17 : Int32 → ql_H → Prop) (hk17 : ∀ (xl1 : Int32) (h : ql_H) (H : Heap) (locs : List Loc) (ls : Array Slot), ql_S D h0 s H locs h → lv_has ls 3 [(0, .ref a0), (1, .int xl1)] → k17 xl1 h → W p l e ({ frames := 4, cells := 0, slots := 0, locals := 77 } : Room) s m ([.ref a0] : List Value).toArray below meth c H locs 0 0 (vx_MQ below (ql_Q D h0 (ql_rV Q)) (ql_X D h0 X) ([.ref a0] : List Value).toArray s 0 0 (ql_A h0)) (F0 m 17 ls [])) , ∀ n : Nat, ∀ (xl1 : Int32) (xl2 : Int32) (h : ql_H) (H : Heap) (locs : List Loc) (ls : Array Slot), ql_S D h0 s H locs h → lv_has ls 3 [(0, .ref a0), (1, .int xl1), (2, .int xl2)] → qw_X2_close_25 a0 Q k17 n xl1 xl2 h → W p l e ({ frames := 4, cells := 0, slots := 0, locals := 77 } : Room) s m ([.ref a0] : List Value).toArray below meth c H locs 0 0 (vx_MQ below (ql_Q D h0 (ql_rV Q)) (ql_X D h0 X) ([.ref a0] : List Value).toArray s 0 0 (ql_A h0)) (F0 m 25 ls []) := by
    intro k17 hk17 n
    induction n with
    | zero => intro xl1 xl2 h H locs ls S hl w; rw [qw_X2_close_25] at w; exact w.elim
    | succ n ih =>
      intro xl1 xl2 h H locs ls S hl w
      rw [qw_X2_close_25] at w
      refine lv_iload_n C.1.1 C.1.2.1 dX2_close_25 rfl (lv_at hl 2 rfl) ?_
      refine lv_bipush (v := (16 : Int32)) C.1.1 C.1.2.1 dX2_close_26 (by decide) ?_
      refine lv_icmp_ge (tgt := 65) C.1.1 C.1.2.1 dX2_close_28 (by decide) (fun c9 => ?_) (fun c9 => ?_)
      · replace w := ql_if w c9
        refine lv_iinc (v := (xl1 + (1 : Int32))) (lv' := [(1, .int (xl1 + (1 : Int32))), (0, .ref a0), (2, .int xl2)]) C.1.1 C.1.2.1 dX2_close_65 hl (k := 1) rfl rfl (by decide) rfl (fun ls hl => ?_)
        refine lv_goto (tgt := 17) C.1.1 C.1.2.1 dX2_close_68 (by decide) ?_
        exact hk17 (xl1 + (1 : Int32)) _ _ _ _ S (lv_sub hl [1, 0] rfl) w
      · replace w := ql_ifn w c9
        refine ql_aload_n (r := (some a0)) C dX2_close_31 rfl (lv_at hl 0 rfl) ?_
        refine ql_getR C S qf_5_1 gw_339 dX2_close_32 w (fun r1 w => ?_)
        refine lv_iload_n C.1.1 C.1.2.1 dX2_close_35 rfl (lv_at hl 2 rfl) ?_
        refine ql_iald C S dX2_close_36 w (fun x2 w => ?_)
        refine lv_iload_n C.1.1 C.1.2.1 dX2_close_37 rfl (lv_at hl 1 rfl) ?_
        refine ql_SI (As := [.int x2, .int xl1]) (rest := []) C S htab hlocks hl qy_X2_hasSlot qi_X2_hasSlot gw_753 (qm_X2_hasSlot l hl9 D _ x2 xl1 _ _ w) rfl ⟨Nat.le_of_ble_eq_true rfl, Nat.le_of_ble_eq_true rfl⟩ ⟨rfl, rfl⟩ (by exact Nat.le_of_ble_eq_true rfl) rfl dX2_close_38 ⟨Nat.le_of_ble_eq_true rfl, Nat.le_of_ble_eq_true rfl⟩ ⟨Nat.le_of_ble_eq_true rfl, Nat.le_of_ble_eq_true rfl⟩ (fun x3 h H locs S w => ?_)
        refine W.cs (cells' := 0) (slots' := 0) rfl rfl ?_
        refine lv_if_eq (tgt := 59) C.1.1 C.1.2.1 dX2_close_41 (by decide) (fun c9 => ?_) (fun c9 => ?_)
        · replace w := ql_if w c9
          exact hB59 (qw_X2_close_25 a0 Q k17 n) ih xl1 xl2 _ _ _ _ S (lv_sub hl [0, 1, 2] rfl) w
        · replace w := ql_ifn w c9
          refine ql_aload_n (r := (some a0)) C dX2_close_44 rfl (lv_at hl 0 rfl) ?_
          refine ql_getR C S qf_5_1 gw_339 dX2_close_45 w (fun r4 w => ?_)
          refine lv_iload_n C.1.1 C.1.2.1 dX2_close_48 rfl (lv_at hl 2 rfl) ?_
          refine lv_dup2_11 C.1.1 C.1.2.1 dX2_close_49 rfl (ql_catR _) ?_
          refine ql_iald C S dX2_close_50 w (fun x5 w => ?_)
          refine ql_aload_n (r := (some a0)) C dX2_close_51 rfl (lv_at hl 0 rfl) ?_
          refine ql_getR C S qf_5_1 gw_339 dX2_close_52 w (fun r6 w => ?_)
          refine lv_iload_n C.1.1 C.1.2.1 dX2_close_55 rfl (lv_at hl 1 rfl) ?_
          refine ql_iald C S dX2_close_56 w (fun x7 w => ?_)
          refine lv_ior C.1.1 C.1.2.1 dX2_close_57 ?_
          refine ql_iast C S dX2_close_58 w (fun h H locs S w => ?_)
          exact hB59 (qw_X2_close_25 a0 Q k17 n) ih xl1 xl2 _ _ _ _ S (lv_sub hl [0, 1, 2] rfl) w
  have hB17 : ∀ n : Nat, ∀ (xl1 : Int32) (h : ql_H) (H : Heap) (locs : List Loc) (ls : Array Slot), ql_S D h0 s H locs h → lv_has ls 3 [(0, .ref a0), (1, .int xl1)] → qw_X2_close_17 a0 Q n xl1 h → W p l e ({ frames := 4, cells := 0, slots := 0, locals := 77 } : Room) s m ([.ref a0] : List Value).toArray below meth c H locs 0 0 (vx_MQ below (ql_Q D h0 (ql_rV Q)) (ql_X D h0 X) ([.ref a0] : List Value).toArray s 0 0 (ql_A h0)) (F0 m 17 ls []) := by
    intro n
    induction n with
    | zero => intro xl1 h H locs ls S hl w; rw [qw_X2_close_17] at w; exact w.elim
    | succ n ih =>
      intro xl1 h H locs ls S hl w
      rw [qw_X2_close_17] at w
      refine lv_iload_n C.1.1 C.1.2.1 dX2_close_17 rfl (lv_at hl 1 rfl) ?_
      refine lv_bipush (v := (16 : Int32)) C.1.1 C.1.2.1 dX2_close_18 (by decide) ?_
      refine lv_icmp_ge (tgt := 71) C.1.1 C.1.2.1 dX2_close_20 (by decide) (fun c9 => ?_) (fun c9 => ?_)
      · replace w := ql_if w c9
        exact ql_vret C S hr hlocks dX2_close_71 ⟨Nat.le_of_ble_eq_true rfl, Nat.le_of_ble_eq_true rfl⟩ w
      · replace w := ql_ifn w c9
        refine lv_iconst (v := (0 : Int32)) C.1.1 C.1.2.1 dX2_close_23 (by decide) ?_
        refine lv_istore_n (lv' := [(2, .int (0 : Int32)), (0, .ref a0), (1, .int xl1)]) C.1.1 C.1.2.1 dX2_close_24 rfl hl (by decide) rfl (fun ls hl => ?_)
        exact hB25 (qw_X2_close_17 a0 Q n) ih ql_FU xl1 (0 : Int32) _ _ _ _ S (lv_sub hl [1, 2, 0] rfl) w
  unfold qw_X2_close at w
  refine ql_aload_n (r := (some a0)) C dX2_close_0 rfl (lv_at hl 0 rfl) ?_
  refine ql_getR C S qf_5_0 gw_338 dX2_close_1 w (fun r8 w => ?_)
  refine lv_iconst (v := (0 : Int32)) C.1.1 C.1.2.1 dX2_close_4 (by decide) ?_
  refine ql_aload_n (r := (some a0)) C dX2_close_5 rfl (lv_at hl 0 rfl) ?_
  refine ql_getR C S qf_5_1 gw_339 dX2_close_6 w (fun r9 w => ?_)
  refine lv_iconst (v := (0 : Int32)) C.1.1 C.1.2.1 dX2_close_9 (by decide) ?_
  refine lv_bipush (v := (16 : Int32)) C.1.1 C.1.2.1 dX2_close_10 (by decide) ?_
  refine ql_copyI (kd := 0) (ty := .int) C S hl rfl rfl ⟨gw_752, gw_400, gw_399, gw_87⟩ (Nat.le_of_ble_eq_true rfl) (by exact Nat.le_of_ble_eq_true rfl) dX2_close_12 w (fun h H locs S w => ?_)
  refine lv_iconst (v := (0 : Int32)) C.1.1 C.1.2.1 dX2_close_15 (by decide) ?_
  refine lv_istore_n (lv' := [(1, .int (0 : Int32)), (0, .ref a0)]) C.1.1 C.1.2.1 dX2_close_16 rfl hl (by decide) rfl (fun ls hl => ?_)
  exact hB17 ql_FU (0 : Int32) _ _ _ _ S (lv_sub hl [1, 0] rfl) w
def qw_X2_slotsClosedFrom (a0 : Nat) (xp1 : Int32) (h : ql_H) (Q : Int32 → ql_H → Prop) : Prop :=
ql_gR h (some a0) 5 1 fun r1 =>
ql_lI h r1 0 xp1 fun x2 =>
Q x2 h
set_option maxHeartbeats 4000000 in
set_option maxRecDepth 100000 in
theorem qm_X2_slotsClosedFrom (l : Launch) (hl9 : l.stackTraces = false) (D : ql_D) (h0 : ql_H) (a0 : Nat) (xp1 : Int32) (Q : Int32 → ql_H → Prop) (X : String → ql_H → Prop) (w : qw_X2_slotsClosedFrom a0 xp1 h0 Q) : ql_M D l yX2_slotsClosedFrom cX2_slotsClosedFrom 2 (some .int) ({ frames := 2, cells := 0, slots := 0, locals := 48 } : Room) h0 [.ref a0, .int xp1] (ql_rI Q) X 0 0 := by
  refine ql_ofW (by decide) (Nat.le_of_ble_eq_true rfl) ?_
  intro p e s m below meth c ls C hr hlocks hnm htab S hl
  have hl : lv_has ls 2 [(0, .ref a0), (1, .int xp1)] := hl
  unfold qw_X2_slotsClosedFrom at w
  refine ql_aload_n (r := (some a0)) C dX2_slotsClosedFrom_0 rfl (lv_at hl 0 rfl) ?_
  refine ql_getR C S qf_5_1 gw_339 dX2_slotsClosedFrom_1 w (fun r1 w => ?_)
  refine lv_iload_n C.1.1 C.1.2.1 dX2_slotsClosedFrom_4 rfl (lv_at hl 1 rfl) ?_
  refine ql_iald C S dX2_slotsClosedFrom_5 w (fun x2 w => ?_)
  exact ql_iret C S hr hlocks dX2_slotsClosedFrom_6 ⟨Nat.le_of_ble_eq_true rfl, Nat.le_of_ble_eq_true rfl⟩ w
def qw_X3_firstDay (a0 : Nat) (h : ql_H) (Q : Int32 → ql_H → Prop) : Prop :=
ql_gR h (some a0) 6 5 fun r1 =>
ql_lI h r1 0 (0 : Int32) fun x2 =>
Q x2 h
set_option maxHeartbeats 4000000 in
set_option maxRecDepth 100000 in
theorem qm_X3_firstDay (l : Launch) (hl9 : l.stackTraces = false) (D : ql_D) (h0 : ql_H) (a0 : Nat) (Q : Int32 → ql_H → Prop) (X : String → ql_H → Prop) (w : qw_X3_firstDay a0 h0 Q) : ql_M D l yX3_firstDay cX3_firstDay 1 (some .int) ({ frames := 2, cells := 0, slots := 0, locals := 48 } : Room) h0 [.ref a0] (ql_rI Q) X 0 0 := by
  refine ql_ofW (by decide) (Nat.le_of_ble_eq_true rfl) ?_
  intro p e s m below meth c ls C hr hlocks hnm htab S hl
  have hl : lv_has ls 1 [(0, .ref a0)] := hl
  unfold qw_X3_firstDay at w
  refine ql_aload_n (r := (some a0)) C dX3_firstDay_0 rfl (lv_at hl 0 rfl) ?_
  refine ql_getR C S qf_6_5 gw_144 dX3_firstDay_1 w (fun r1 w => ?_)
  refine lv_iconst (v := (0 : Int32)) C.1.1 C.1.2.1 dX3_firstDay_4 (by decide) ?_
  refine ql_iald C S dX3_firstDay_5 w (fun x2 w => ?_)
  exact ql_iret C S hr hlocks dX3_firstDay_6 ⟨Nat.le_of_ble_eq_true rfl, Nat.le_of_ble_eq_true rfl⟩ w
def qw_X3_textOnDay_35 (a0 : Nat) (Q : Int64 → ql_H → Prop) (k10 : Int32 → Int32 → Int64 → Int32 → ql_H → Prop) (xl1 : Int32) (xl2 : Int32) (jl3 : Int64) (xl5 : Int32) (h : ql_H) : Prop :=
k10 xl1 xl2 jl3 (xl5 + (1 : Int32)) h
def qw_X3_textOnDay_10 (a0 : Nat) (Q : Int64 → ql_H → Prop) : Nat → Int32 → Int32 → Int64 → Int32 → ql_H → Prop
  | 0, _, _, _, _, _ => False
  | n + 1, xl1, xl2, jl3, xl5, h =>
    if xl2 ≤ xl5 then (Q jl3 h) else (ql_gR h (some a0) 6 5 fun r1 =>
    ql_lI h r1 0 xl5 fun x2 =>
    if xl1 < x2 then (qw_X3_textOnDay_35 a0 Q (qw_X3_textOnDay_10 a0 Q n) xl1 xl2 jl3 xl5 h) else (ql_gR h (some a0) 6 6 fun r3 =>
    ql_lJ h r3 xl5 fun j4 =>
    qw_X3_textOnDay_35 a0 Q (qw_X3_textOnDay_10 a0 Q n) xl1 xl2 j4 xl5 h))
def qw_X3_textOnDay (a0 : Nat) (xp1 : Int32) (h : ql_H) (Q : Int64 → ql_H → Prop) : Prop :=
ql_rv h (some a0) 6 fun b5 => qw_X3_countVersions b5  h (fun x5 h =>
qw_X3_textOnDay_10 a0 Q ql_FU xp1 x5 (0 : Int64) (0 : Int32) h)
set_option maxHeartbeats 4000000 in
set_option maxRecDepth 100000 in
theorem qm_X3_textOnDay (l : Launch) (hl9 : l.stackTraces = false) (D : ql_D) (h0 : ql_H) (a0 : Nat) (xp1 : Int32) (Q : Int64 → ql_H → Prop) (X : String → ql_H → Prop) (w : qw_X3_textOnDay a0 xp1 h0 Q) : ql_M D l yX3_textOnDay cX3_textOnDay 6 (some .long) ({ frames := 4, cells := 0, slots := 0, locals := 77 } : Room) h0 [.ref a0, .int xp1] (ql_rJ Q) X 0 0 := by
  refine ql_ofW (by decide) (Nat.le_of_ble_eq_true rfl) ?_
  intro p e s m below meth c ls C hr hlocks hnm htab S hl
  have hl : lv_has ls 6 [(0, .ref a0), (1, .int xp1)] := hl
  have hB35 : ∀ (k10 : Int32 → Int32 → Int64 → Int32 → ql_H → Prop) (hk10 : ∀ (xl1 : Int32) (xl2 : Int32) (jl3 : Int64) (xl5 : Int32) (h : ql_H) (H : Heap) (locs : List Loc) (ls : Array Slot), ql_S D h0 s H locs h → lv_has ls 6 [(0, .ref a0), (1, .int xl1), (2, .int xl2), (3, .long jl3), (5, .int xl5)] → k10 xl1 xl2 jl3 xl5 h → W p l e ({ frames := 4, cells := 0, slots := 0, locals := 77 } : Room) s m ([.ref a0, .int xp1] : List Value).toArray below meth c H locs 0 0 (vx_MQ below (ql_Q D h0 (ql_rJ Q)) (ql_X D h0 X) ([.ref a0, .int xp1] : List Value).toArray s 0 0 (ql_A h0)) (F0 m 10 ls [])) , ∀ (xl1 : Int32) (xl2 : Int32) (jl3 : Int64) (xl5 : Int32) (h : ql_H) (H : Heap) (locs : List Loc) (ls : Array Slot), ql_S D h0 s H locs h → lv_has ls 6 [(0, .ref a0), (1, .int xl1), (2, .int xl2), (3, .long jl3), (5, .int xl5)] → qw_X3_textOnDay_35 a0 Q k10 xl1 xl2 jl3 xl5 h → W p l e ({ frames := 4, cells := 0, slots := 0, locals := 77 } : Room) s m ([.ref a0, .int xp1] : List Value).toArray below meth c H locs 0 0 (vx_MQ below (ql_Q D h0 (ql_rJ Q)) (ql_X D h0 X) ([.ref a0, .int xp1] : List Value).toArray s 0 0 (ql_A h0)) (F0 m 35 ls []) := by
    intro k10 hk10 xl1 xl2 jl3 xl5 h H locs ls S hl w
    unfold qw_X3_textOnDay_35 at w
    refine lv_iinc (v := (xl5 + (1 : Int32))) (lv' := [(5, .int (xl5 + (1 : Int32))), (0, .ref a0), (1, .int xl1), (2, .int xl2), (3, .long jl3)]) C.1.1 C.1.2.1 dX3_textOnDay_35 hl (k := 4) rfl rfl (by decide) rfl (fun ls hl => ?_)
    refine lv_goto (tgt := 10) C.1.1 C.1.2.1 dX3_textOnDay_38 (by decide) ?_
    exact hk10 xl1 xl2 jl3 (xl5 + (1 : Int32)) _ _ _ _ S (lv_sub hl [1, 2, 3, 4, 0] rfl) w
  have hB10 : ∀ n : Nat, ∀ (xl1 : Int32) (xl2 : Int32) (jl3 : Int64) (xl5 : Int32) (h : ql_H) (H : Heap) (locs : List Loc) (ls : Array Slot), ql_S D h0 s H locs h → lv_has ls 6 [(0, .ref a0), (1, .int xl1), (2, .int xl2), (3, .long jl3), (5, .int xl5)] → qw_X3_textOnDay_10 a0 Q n xl1 xl2 jl3 xl5 h → W p l e ({ frames := 4, cells := 0, slots := 0, locals := 77 } : Room) s m ([.ref a0, .int xp1] : List Value).toArray below meth c H locs 0 0 (vx_MQ below (ql_Q D h0 (ql_rJ Q)) (ql_X D h0 X) ([.ref a0, .int xp1] : List Value).toArray s 0 0 (ql_A h0)) (F0 m 10 ls []) := by
    intro n
    induction n with
    | zero => intro xl1 xl2 jl3 xl5 h H locs ls S hl w; rw [qw_X3_textOnDay_10] at w; exact w.elim
    | succ n ih =>
      intro xl1 xl2 jl3 xl5 h H locs ls S hl w
      rw [qw_X3_textOnDay_10] at w
      refine lv_iload C.1.1 C.1.2.1 dX3_textOnDay_10 (lv_at hl 4 rfl) ?_
      refine lv_iload_n C.1.1 C.1.2.1 dX3_textOnDay_12 rfl (lv_at hl 2 rfl) ?_
      refine lv_icmp_ge (tgt := 41) C.1.1 C.1.2.1 dX3_textOnDay_13 (by decide) (fun c9 => ?_) (fun c9 => ?_)
      · replace w := ql_if w c9
        refine lv_lload_n C.1.1 C.1.2.1 dX3_textOnDay_41 rfl (lv_at hl 3 rfl) ?_
        exact ql_lret C S hr hlocks dX3_textOnDay_42 ⟨Nat.le_of_ble_eq_true rfl, Nat.le_of_ble_eq_true rfl⟩ w
      · replace w := ql_ifn w c9
        refine ql_aload_n (r := (some a0)) C dX3_textOnDay_16 rfl (lv_at hl 0 rfl) ?_
        refine ql_getR C S qf_6_5 gw_144 dX3_textOnDay_17 w (fun r1 w => ?_)
        refine lv_iload C.1.1 C.1.2.1 dX3_textOnDay_20 (lv_at hl 4 rfl) ?_
        refine ql_iald C S dX3_textOnDay_22 w (fun x2 w => ?_)
        refine lv_iload_n C.1.1 C.1.2.1 dX3_textOnDay_23 rfl (lv_at hl 1 rfl) ?_
        refine lv_icmp_gt (tgt := 35) C.1.1 C.1.2.1 dX3_textOnDay_24 (by decide) (fun c9 => ?_) (fun c9 => ?_)
        · replace w := ql_if w c9
          exact hB35 (qw_X3_textOnDay_10 a0 Q n) ih xl1 xl2 jl3 xl5 _ _ _ _ S (lv_sub hl [0, 1, 2, 3, 4] rfl) w
        · replace w := ql_ifn w c9
          refine ql_aload_n (r := (some a0)) C dX3_textOnDay_27 rfl (lv_at hl 0 rfl) ?_
          refine ql_getR C S qf_6_6 gw_145 dX3_textOnDay_28 w (fun r3 w => ?_)
          refine lv_iload C.1.1 C.1.2.1 dX3_textOnDay_31 (lv_at hl 4 rfl) ?_
          refine ql_lald C S dX3_textOnDay_33 w (fun j4 w => ?_)
          refine lv_lstore_n (lv' := [(3, .long j4), (0, .ref a0), (1, .int xl1), (2, .int xl2), (5, .int xl5)]) C.1.1 C.1.2.1 dX3_textOnDay_34 rfl hl (by decide) rfl (fun ls hl => ?_)
          exact hB35 (qw_X3_textOnDay_10 a0 Q n) ih xl1 xl2 j4 xl5 _ _ _ _ S (lv_sub hl [1, 2, 3, 0, 4] rfl) w
  unfold qw_X3_textOnDay at w
  refine ql_aload_n (r := (some a0)) C dX3_textOnDay_0 rfl (lv_at hl 0 rfl) ?_
  refine ql_VI (As := []) (rest := []) C S htab hlocks hl qy_X3_countVersions qi_X3_countVersions qs_X3_countVersions gw_467 (ci := 6) rfl w (fun b w => qm_X3_countVersions l hl9 D _ b _ _ w) rfl ⟨Nat.le_of_ble_eq_true rfl, Nat.le_of_ble_eq_true rfl⟩ ⟨rfl, rfl⟩ (by exact Nat.le_of_ble_eq_true rfl) (fun b e9 => by cases e9; rfl) dX3_textOnDay_1 ⟨Nat.le_of_ble_eq_true rfl, Nat.le_of_ble_eq_true rfl⟩ ⟨Nat.le_of_ble_eq_true rfl, Nat.le_of_ble_eq_true rfl⟩ (fun x5 h H locs S w => ?_)
  refine W.cs (cells' := 0) (slots' := 0) rfl rfl ?_
  refine lv_istore_n (lv' := [(2, .int x5), (0, .ref a0), (1, .int xp1)]) C.1.1 C.1.2.1 dX3_textOnDay_4 rfl hl (by decide) rfl (fun ls hl => ?_)
  refine lv_lconst (v := (0 : Int64)) C.1.1 C.1.2.1 dX3_textOnDay_5 (by decide) ?_
  refine lv_lstore_n (lv' := [(3, .long (0 : Int64)), (2, .int x5), (0, .ref a0), (1, .int xp1)]) C.1.1 C.1.2.1 dX3_textOnDay_6 rfl hl (by decide) rfl (fun ls hl => ?_)
  refine lv_iconst (v := (0 : Int32)) C.1.1 C.1.2.1 dX3_textOnDay_7 (by decide) ?_
  refine lv_istore (lv' := [(5, .int (0 : Int32)), (3, .long (0 : Int64)), (2, .int x5), (0, .ref a0), (1, .int xp1)]) C.1.1 C.1.2.1 dX3_textOnDay_8 hl (by decide) rfl (fun ls hl => ?_)
  exact hB10 ql_FU xp1 x5 (0 : Int64) (0 : Int32) _ _ _ _ S (lv_sub hl [3, 4, 2, 1, 0] rfl) w
def qw_X4_init (σ : Nat → Nat) (a0 : Nat) (h : ql_H) (Q : ql_H → Prop) : Prop :=
ql_pV h (some a0) 7 0 (va_rf (some (σ (100 + 8)))) fun h =>
ql_pV h (some a0) 7 1 (.int (0 : Int32)) fun h =>
ql_pV h (some a0) 7 2 (.int (0 : Int32)) fun h =>
ql_fz .char (97 : Int32) ∧
ql_pV h (some a0) 7 3 (.int (97 : Int32)) fun h =>
Q h
set_option maxHeartbeats 4000000 in
set_option maxRecDepth 100000 in
theorem qm_X4_init (l : Launch) (hl9 : l.stackTraces = false) (D : ql_D) (h0 : ql_H) (a0 : Nat) (Q : ql_H → Prop) (X : String → ql_H → Prop) (w : qw_X4_init D.2 a0 h0 Q) : ql_M D l yX4_init cX4_init 1 none ({ frames := 3, cells := 0, slots := 0, locals := 48 } : Room) h0 [.ref a0] (ql_rV Q) X 0 0 := by
  refine ql_ofW (by decide) (Nat.le_of_ble_eq_true rfl) ?_
  intro p e s m below meth c ls C hr hlocks hnm htab S hl
  have hl : lv_has ls 1 [(0, .ref a0)] := hl
  unfold qw_X4_init at w
  refine ql_aload_n (r := (some a0)) C dX4_init_0 rfl (lv_at hl 0 rfl) ?_
  refine ql_objInit C hl gw_270 gw_114 gw_115 dX4_init_1 (Nat.le_of_ble_eq_true rfl) (by exact Nat.le_of_ble_eq_true rfl) ?_
  refine ql_aload_n (r := (some a0)) C dX4_init_4 rfl (lv_at hl 0 rfl) ?_
  refine ql_gs C S (C.z.2.2.2.1.1.1 8 (by decide)).1 gw_271 dX4_init_5 ?_
  refine ql_putV C S qf_7_0 gw_273 (tyX4) tyX4_ok nmX4 rfl dX4_init_8 (v := va_rf (some (D.2 (100 + 8)))) rfl rfl w (fun h H locs S w => ?_)
  refine ql_aload_n (r := (some a0)) C dX4_init_11 rfl (lv_at hl 0 rfl) ?_
  refine lv_iconst (v := (0 : Int32)) C.1.1 C.1.2.1 dX4_init_12 (by decide) ?_
  refine ql_putV C S qf_7_1 gw_275 (tyX4) tyX4_ok nmX4 rfl dX4_init_13 (v := .int (0 : Int32)) rfl rfl w (fun h H locs S w => ?_)
  refine ql_aload_n (r := (some a0)) C dX4_init_16 rfl (lv_at hl 0 rfl) ?_
  refine lv_iconst (v := (0 : Int32)) C.1.1 C.1.2.1 dX4_init_17 (by decide) ?_
  refine ql_putV C S qf_7_2 gw_277 (tyX4) tyX4_ok nmX4 rfl dX4_init_18 (v := .int (0 : Int32)) rfl rfl w (fun h H locs S w => ?_)
  refine ql_aload_n (r := (some a0)) C dX4_init_21 rfl (lv_at hl 0 rfl) ?_
  refine lv_bipush (v := (97 : Int32)) C.1.1 C.1.2.1 dX4_init_22 (by decide) ?_
  refine ql_putV C S qf_7_3 gw_279 (tyX4) tyX4_ok nmX4 rfl dX4_init_24 (v := .int (97 : Int32)) w.1.1 w.1.2 w.2 (fun h H locs S w => ?_)
  exact ql_vret C S hr hlocks dX4_init_27 ⟨Nat.le_of_ble_eq_true rfl, Nat.le_of_ble_eq_true rfl⟩ w
def qw_Jx29ce0_ordinal_8abf5 (σ : Nat → Nat) (a0 : Nat) (h : ql_H) (Q : Int32 → ql_H → Prop) : Prop :=
ql_en σ (some a0) fun k1 =>
Q (nI k1) h
set_option maxHeartbeats 4000000 in
set_option maxRecDepth 100000 in
theorem qm_Jx29ce0_ordinal_8abf5 (l : Launch) (hl9 : l.stackTraces = false) (D : ql_D) (h0 : ql_H) (a0 : Nat) (Q : Int32 → ql_H → Prop) (X : String → ql_H → Prop) (w : qw_Jx29ce0_ordinal_8abf5 D.2 a0 h0 Q) : ql_M D l yJx29ce0_ordinal_8abf5 cJx29ce0_ordinal_8abf5 1 (some .int) ({ frames := 2, cells := 0, slots := 0, locals := 48 } : Room) h0 [.ref a0] (ql_rI Q) X 0 0 := by
  refine ql_ofW (by decide +kernel) (Nat.le_of_ble_eq_true rfl) ?_
  intro p e s m below meth c ls C hr hlocks hnm htab S hl
  have hl : lv_has ls 1 [(0, .ref a0)] := hl
  unfold qw_Jx29ce0_ordinal_8abf5 at w
  refine ql_aload_n (r := (some a0)) C dJx29ce0_ordinal_8abf5_0 rfl (lv_at hl 0 rfl) ?_
  refine ql_enord C S gw_2185 dJx29ce0_ordinal_8abf5_1 w (fun k1 hk9 w => ?_)
  exact ql_iret C S hr hlocks dJx29ce0_ordinal_8abf5_4 ⟨Nat.le_of_ble_eq_true rfl, Nat.le_of_ble_eq_true rfl⟩ w
def qw_X4_applyTo (σ : Nat → Nat) (a0 : Nat) (rp1 : Option Nat) (h : ql_H) (Q : Int32 → ql_H → Prop) : Prop :=
ql_gR h (some a0) 7 0 fun r1 =>
ql_en σ r1 fun b2 => qw_Jx29ce0_ordinal_8abf5 σ (σ (100 + b2))  h (fun x2 h =>
vp_in x2 10 ∧
if (ql_sm x2.toNatClampNeg) = (1 : Int32) then (ql_gI h (some a0) 7 1 fun x4 =>
ql_gI h (some a0) 7 3 fun x5 =>
ql_rv h rp1 4 fun b6 => qw_X1_tryAdd b6 x4 x5 h (fun x6 h =>
Q x6 h)) else if (ql_sm x2.toNatClampNeg) = (2 : Int32) then (ql_gI h (some a0) 7 1 fun x8 =>
ql_gI h (some a0) 7 2 fun x9 =>
ql_gI h (some a0) 7 3 fun x10 =>
ql_rv h rp1 4 fun b11 => qw_X1_tryInsert b11 x8 x9 x10 h (fun x11 h =>
Q x11 h)) else if (ql_sm x2.toNatClampNeg) = (3 : Int32) then (ql_gI h (some a0) 7 1 fun x13 =>
ql_gI h (some a0) 7 2 fun x14 =>
ql_gI h (some a0) 7 3 fun x15 =>
ql_rv h rp1 4 fun b16 => qw_X1_tryReplace b16 x13 x14 x15 h (fun x16 h =>
Q x16 h)) else if (ql_sm x2.toNatClampNeg) = (4 : Int32) then (ql_gI h (some a0) 7 1 fun x18 =>
ql_gI h (some a0) 7 2 fun x19 =>
ql_rv h rp1 4 fun b20 => qw_X1_tryDelete b20 x18 x19 h (fun x20 h =>
Q x20 h)) else if (ql_sm x2.toNatClampNeg) = (5 : Int32) then (ql_gI h (some a0) 7 1 fun x22 =>
ql_gI h (some a0) 7 2 fun x23 =>
ql_rv h rp1 4 fun b24 => qw_X1_trySunset b24 x22 x23 h (fun x24 h =>
Q x24 h)) else if (ql_sm x2.toNatClampNeg) = (6 : Int32) then (ql_gI h (some a0) 7 1 fun x26 =>
ql_gI h (some a0) 7 2 fun x27 =>
ql_rv h rp1 4 fun b28 => qw_X1_tryCite b28 x26 x27 h (fun x28 h =>
Q x28 h)) else if (ql_sm x2.toNatClampNeg) = (7 : Int32) then (ql_gI h (some a0) 7 1 fun x30 =>
ql_gI h (some a0) 7 2 fun x31 =>
ql_rv h rp1 4 fun b32 => qw_X1_tryUncite b32 x30 x31 h (fun x32 h =>
Q x32 h)) else if (ql_sm x2.toNatClampNeg) = (8 : Int32) then (ql_gI h (some a0) 7 1 fun x34 =>
ql_rv h rp1 4 fun b35 => qw_X1_tryRepeal b35 x34 h (fun x35 h =>
Q x35 h)) else if (ql_sm x2.toNatClampNeg) = (9 : Int32) then (ql_gI h (some a0) 7 1 fun x37 =>
ql_rv h rp1 4 fun b38 => qw_X1_tryAdvance b38 x37 h (fun x38 h =>
Q x38 h)) else (ql_rv h rp1 4 fun b40 => qw_X1_makeEdition b40  h (fun x40 h =>
Q x40 h)))
set_option maxHeartbeats 4000000 in
set_option maxRecDepth 100000 in
theorem qm_X4_applyTo (l : Launch) (hl9 : l.stackTraces = false) (D : ql_D) (h0 : ql_H) (a0 : Nat) (rp1 : Option Nat) (Q : Int32 → ql_H → Prop) (X : String → ql_H → Prop) (w : qw_X4_applyTo D.2 a0 rp1 h0 Q) : ql_M D l yX4_applyTo cX4_applyTo 2 (some .int) ({ frames := 12, cells := 0, slots := 0, locals := 202 } : Room) h0 [.ref a0, va_rf rp1] (ql_rI Q) X 0 0 := by
  refine ql_ofW (by decide) (by cases rp1 <;> exact Nat.le_of_ble_eq_true rfl) ?_
  intro p e s m below meth c ls C hr hlocks hnm htab S hl
  rw [show lv_args 0 [.ref a0, va_rf rp1] = [(0, .ref a0), (1, va_rf rp1)] from by cases rp1 <;> rfl] at hl
  unfold qw_X4_applyTo at w
  refine ql_gs C S C.z.2.2.1.2.1 gw_1604 dX4_applyTo_0 ?_
  refine ql_aload_n (r := (some a0)) C dX4_applyTo_3 rfl (lv_at hl 0 rfl) ?_
  refine ql_getR C S qf_7_0 gw_273 dX4_applyTo_4 w (fun r1 w => ?_)
  refine ql_E1 (As := []) (rest := [va_rf (some (D.2 404))]) (x9 := ⟨"ClauseLedger$Kind", "ordinal", "()I"⟩) C S htab hlocks hl qy_Jx29ce0_ordinal_8abf5 qi_Jx29ce0_ordinal_8abf5 rfl (by decide +kernel) gw_1607 gw_1609 gw_1606 w (fun k hk9 w => qm_Jx29ce0_ordinal_8abf5 l hl9 D _ (D.2 (100 + k)) _ _ w) rfl ⟨Nat.le_of_ble_eq_true rfl, Nat.le_of_ble_eq_true rfl⟩ ⟨rfl, rfl⟩ (by generalize (some (D.2 404)) = z0; cases z0 <;> exact Nat.le_of_ble_eq_true rfl) (fun b e9 => by cases e9; rfl) dX4_applyTo_7 ⟨Nat.le_of_ble_eq_true rfl, Nat.le_of_ble_eq_true rfl⟩ ⟨Nat.le_of_ble_eq_true rfl, Nat.le_of_ble_eq_true rfl⟩ (fun x2 h H locs S w => ?_)
  refine W.cs (cells' := 0) (slots' := 0) rfl rfl ?_
  refine ql_ti C S (f := ql_sm) C.z.2.2.1.2.2 w.1 dX4_applyTo_10 ?_
  replace w := w.2
  by_cases c9 : (ql_sm x2.toNatClampNeg) = (1 : Int32)
  · replace w := ql_if w c9
    refine lv_tableIn (tgt := 60) (off := 49) C.1.1 C.1.2.1 dX4_applyTo_11 (by rw [c9]; decide) (by rw [c9]; decide) (by rw [c9]; rfl) (by decide) ?_
    refine ql_aload_n (r := rp1) C dX4_applyTo_60 rfl (lv_at hl 1 rfl) ?_
    refine ql_aload_n (r := (some a0)) C dX4_applyTo_61 rfl (lv_at hl 0 rfl) ?_
    refine ql_getI C S qf_7_1 gw_275 dX4_applyTo_62 w (fun x4 w => ?_)
    refine ql_aload_n (r := (some a0)) C dX4_applyTo_65 rfl (lv_at hl 0 rfl) ?_
    refine ql_getI C S qf_7_3 gw_279 dX4_applyTo_66 w (fun x5 w => ?_)
    refine ql_VI (As := [.int x4, .int x5]) (rest := []) C S htab hlocks hl qy_X1_tryAdd qi_X1_tryAdd qs_X1_tryAdd gw_1612 (ci := 4) rfl w (fun b w => qm_X1_tryAdd l hl9 D _ b x4 x5 _ _ w) rfl ⟨Nat.le_of_ble_eq_true rfl, Nat.le_of_ble_eq_true rfl⟩ ⟨rfl, rfl⟩ (by exact Nat.le_of_ble_eq_true rfl) (fun b e9 => by cases e9; rfl) dX4_applyTo_69 ⟨Nat.le_of_ble_eq_true rfl, Nat.le_of_ble_eq_true rfl⟩ ⟨Nat.le_of_ble_eq_true rfl, Nat.le_of_ble_eq_true rfl⟩ (fun x6 h H locs S w => ?_)
    refine W.cs (cells' := 0) (slots' := 0) rfl rfl ?_
    exact ql_iret C S hr hlocks dX4_applyTo_72 ⟨Nat.le_of_ble_eq_true rfl, Nat.le_of_ble_eq_true rfl⟩ w
  replace w := ql_ifn w c9
  have e0 := c9
  clear c9
  by_cases c9 : (ql_sm x2.toNatClampNeg) = (2 : Int32)
  · replace w := ql_if w c9
    refine lv_tableIn (tgt := 73) (off := 62) C.1.1 C.1.2.1 dX4_applyTo_11 (by rw [c9]; decide) (by rw [c9]; decide) (by rw [c9]; rfl) (by decide) ?_
    refine ql_aload_n (r := rp1) C dX4_applyTo_73 rfl (lv_at hl 1 rfl) ?_
    refine ql_aload_n (r := (some a0)) C dX4_applyTo_74 rfl (lv_at hl 0 rfl) ?_
    refine ql_getI C S qf_7_1 gw_275 dX4_applyTo_75 w (fun x8 w => ?_)
    refine ql_aload_n (r := (some a0)) C dX4_applyTo_78 rfl (lv_at hl 0 rfl) ?_
    refine ql_getI C S qf_7_2 gw_277 dX4_applyTo_79 w (fun x9 w => ?_)
    refine ql_aload_n (r := (some a0)) C dX4_applyTo_82 rfl (lv_at hl 0 rfl) ?_
    refine ql_getI C S qf_7_3 gw_279 dX4_applyTo_83 w (fun x10 w => ?_)
    refine ql_VI (As := [.int x8, .int x9, .int x10]) (rest := []) C S htab hlocks hl qy_X1_tryInsert qi_X1_tryInsert qs_X1_tryInsert gw_1613 (ci := 4) rfl w (fun b w => qm_X1_tryInsert l hl9 D _ b x8 x9 x10 _ _ w) rfl ⟨Nat.le_of_ble_eq_true rfl, Nat.le_of_ble_eq_true rfl⟩ ⟨rfl, rfl⟩ (by exact Nat.le_of_ble_eq_true rfl) (fun b e9 => by cases e9; rfl) dX4_applyTo_86 ⟨Nat.le_of_ble_eq_true rfl, Nat.le_of_ble_eq_true rfl⟩ ⟨Nat.le_of_ble_eq_true rfl, Nat.le_of_ble_eq_true rfl⟩ (fun x11 h H locs S w => ?_)
    refine W.cs (cells' := 0) (slots' := 0) rfl rfl ?_
    exact ql_iret C S hr hlocks dX4_applyTo_89 ⟨Nat.le_of_ble_eq_true rfl, Nat.le_of_ble_eq_true rfl⟩ w
  replace w := ql_ifn w c9
  have e1 := c9
  clear c9
  by_cases c9 : (ql_sm x2.toNatClampNeg) = (3 : Int32)
  · replace w := ql_if w c9
    refine lv_tableIn (tgt := 90) (off := 79) C.1.1 C.1.2.1 dX4_applyTo_11 (by rw [c9]; decide) (by rw [c9]; decide) (by rw [c9]; rfl) (by decide) ?_
    refine ql_aload_n (r := rp1) C dX4_applyTo_90 rfl (lv_at hl 1 rfl) ?_
    refine ql_aload_n (r := (some a0)) C dX4_applyTo_91 rfl (lv_at hl 0 rfl) ?_
    refine ql_getI C S qf_7_1 gw_275 dX4_applyTo_92 w (fun x13 w => ?_)
    refine ql_aload_n (r := (some a0)) C dX4_applyTo_95 rfl (lv_at hl 0 rfl) ?_
    refine ql_getI C S qf_7_2 gw_277 dX4_applyTo_96 w (fun x14 w => ?_)
    refine ql_aload_n (r := (some a0)) C dX4_applyTo_99 rfl (lv_at hl 0 rfl) ?_
    refine ql_getI C S qf_7_3 gw_279 dX4_applyTo_100 w (fun x15 w => ?_)
    refine ql_VI (As := [.int x13, .int x14, .int x15]) (rest := []) C S htab hlocks hl qy_X1_tryReplace qi_X1_tryReplace qs_X1_tryReplace gw_1614 (ci := 4) rfl w (fun b w => qm_X1_tryReplace l hl9 D _ b x13 x14 x15 _ _ w) rfl ⟨Nat.le_of_ble_eq_true rfl, Nat.le_of_ble_eq_true rfl⟩ ⟨rfl, rfl⟩ (by exact Nat.le_of_ble_eq_true rfl) (fun b e9 => by cases e9; rfl) dX4_applyTo_103 ⟨Nat.le_of_ble_eq_true rfl, Nat.le_of_ble_eq_true rfl⟩ ⟨Nat.le_of_ble_eq_true rfl, Nat.le_of_ble_eq_true rfl⟩ (fun x16 h H locs S w => ?_)
    refine W.cs (cells' := 0) (slots' := 0) rfl rfl ?_
    exact ql_iret C S hr hlocks dX4_applyTo_106 ⟨Nat.le_of_ble_eq_true rfl, Nat.le_of_ble_eq_true rfl⟩ w
  replace w := ql_ifn w c9
  have e2 := c9
  clear c9
  by_cases c9 : (ql_sm x2.toNatClampNeg) = (4 : Int32)
  · replace w := ql_if w c9
    refine lv_tableIn (tgt := 107) (off := 96) C.1.1 C.1.2.1 dX4_applyTo_11 (by rw [c9]; decide) (by rw [c9]; decide) (by rw [c9]; rfl) (by decide) ?_
    refine ql_aload_n (r := rp1) C dX4_applyTo_107 rfl (lv_at hl 1 rfl) ?_
    refine ql_aload_n (r := (some a0)) C dX4_applyTo_108 rfl (lv_at hl 0 rfl) ?_
    refine ql_getI C S qf_7_1 gw_275 dX4_applyTo_109 w (fun x18 w => ?_)
    refine ql_aload_n (r := (some a0)) C dX4_applyTo_112 rfl (lv_at hl 0 rfl) ?_
    refine ql_getI C S qf_7_2 gw_277 dX4_applyTo_113 w (fun x19 w => ?_)
    refine ql_VI (As := [.int x18, .int x19]) (rest := []) C S htab hlocks hl qy_X1_tryDelete qi_X1_tryDelete qs_X1_tryDelete gw_1615 (ci := 4) rfl w (fun b w => qm_X1_tryDelete l hl9 D _ b x18 x19 _ _ w) rfl ⟨Nat.le_of_ble_eq_true rfl, Nat.le_of_ble_eq_true rfl⟩ ⟨rfl, rfl⟩ (by exact Nat.le_of_ble_eq_true rfl) (fun b e9 => by cases e9; rfl) dX4_applyTo_116 ⟨Nat.le_of_ble_eq_true rfl, Nat.le_of_ble_eq_true rfl⟩ ⟨Nat.le_of_ble_eq_true rfl, Nat.le_of_ble_eq_true rfl⟩ (fun x20 h H locs S w => ?_)
    refine W.cs (cells' := 0) (slots' := 0) rfl rfl ?_
    exact ql_iret C S hr hlocks dX4_applyTo_119 ⟨Nat.le_of_ble_eq_true rfl, Nat.le_of_ble_eq_true rfl⟩ w
  replace w := ql_ifn w c9
  have e3 := c9
  clear c9
  by_cases c9 : (ql_sm x2.toNatClampNeg) = (5 : Int32)
  · replace w := ql_if w c9
    refine lv_tableIn (tgt := 120) (off := 109) C.1.1 C.1.2.1 dX4_applyTo_11 (by rw [c9]; decide) (by rw [c9]; decide) (by rw [c9]; rfl) (by decide) ?_
    refine ql_aload_n (r := rp1) C dX4_applyTo_120 rfl (lv_at hl 1 rfl) ?_
    refine ql_aload_n (r := (some a0)) C dX4_applyTo_121 rfl (lv_at hl 0 rfl) ?_
    refine ql_getI C S qf_7_1 gw_275 dX4_applyTo_122 w (fun x22 w => ?_)
    refine ql_aload_n (r := (some a0)) C dX4_applyTo_125 rfl (lv_at hl 0 rfl) ?_
    refine ql_getI C S qf_7_2 gw_277 dX4_applyTo_126 w (fun x23 w => ?_)
    refine ql_VI (As := [.int x22, .int x23]) (rest := []) C S htab hlocks hl qy_X1_trySunset qi_X1_trySunset qs_X1_trySunset gw_1616 (ci := 4) rfl w (fun b w => qm_X1_trySunset l hl9 D _ b x22 x23 _ _ w) rfl ⟨Nat.le_of_ble_eq_true rfl, Nat.le_of_ble_eq_true rfl⟩ ⟨rfl, rfl⟩ (by exact Nat.le_of_ble_eq_true rfl) (fun b e9 => by cases e9; rfl) dX4_applyTo_129 ⟨Nat.le_of_ble_eq_true rfl, Nat.le_of_ble_eq_true rfl⟩ ⟨Nat.le_of_ble_eq_true rfl, Nat.le_of_ble_eq_true rfl⟩ (fun x24 h H locs S w => ?_)
    refine W.cs (cells' := 0) (slots' := 0) rfl rfl ?_
    exact ql_iret C S hr hlocks dX4_applyTo_132 ⟨Nat.le_of_ble_eq_true rfl, Nat.le_of_ble_eq_true rfl⟩ w
  replace w := ql_ifn w c9
  have e4 := c9
  clear c9
  by_cases c9 : (ql_sm x2.toNatClampNeg) = (6 : Int32)
  · replace w := ql_if w c9
    refine lv_tableIn (tgt := 133) (off := 122) C.1.1 C.1.2.1 dX4_applyTo_11 (by rw [c9]; decide) (by rw [c9]; decide) (by rw [c9]; rfl) (by decide) ?_
    refine ql_aload_n (r := rp1) C dX4_applyTo_133 rfl (lv_at hl 1 rfl) ?_
    refine ql_aload_n (r := (some a0)) C dX4_applyTo_134 rfl (lv_at hl 0 rfl) ?_
    refine ql_getI C S qf_7_1 gw_275 dX4_applyTo_135 w (fun x26 w => ?_)
    refine ql_aload_n (r := (some a0)) C dX4_applyTo_138 rfl (lv_at hl 0 rfl) ?_
    refine ql_getI C S qf_7_2 gw_277 dX4_applyTo_139 w (fun x27 w => ?_)
    refine ql_VI (As := [.int x26, .int x27]) (rest := []) C S htab hlocks hl qy_X1_tryCite qi_X1_tryCite qs_X1_tryCite gw_1617 (ci := 4) rfl w (fun b w => qm_X1_tryCite l hl9 D _ b x26 x27 _ _ w) rfl ⟨Nat.le_of_ble_eq_true rfl, Nat.le_of_ble_eq_true rfl⟩ ⟨rfl, rfl⟩ (by exact Nat.le_of_ble_eq_true rfl) (fun b e9 => by cases e9; rfl) dX4_applyTo_142 ⟨Nat.le_of_ble_eq_true rfl, Nat.le_of_ble_eq_true rfl⟩ ⟨Nat.le_of_ble_eq_true rfl, Nat.le_of_ble_eq_true rfl⟩ (fun x28 h H locs S w => ?_)
    refine W.cs (cells' := 0) (slots' := 0) rfl rfl ?_
    exact ql_iret C S hr hlocks dX4_applyTo_145 ⟨Nat.le_of_ble_eq_true rfl, Nat.le_of_ble_eq_true rfl⟩ w
  replace w := ql_ifn w c9
  have e5 := c9
  clear c9
  by_cases c9 : (ql_sm x2.toNatClampNeg) = (7 : Int32)
  · replace w := ql_if w c9
    refine lv_tableIn (tgt := 146) (off := 135) C.1.1 C.1.2.1 dX4_applyTo_11 (by rw [c9]; decide) (by rw [c9]; decide) (by rw [c9]; rfl) (by decide) ?_
    refine ql_aload_n (r := rp1) C dX4_applyTo_146 rfl (lv_at hl 1 rfl) ?_
    refine ql_aload_n (r := (some a0)) C dX4_applyTo_147 rfl (lv_at hl 0 rfl) ?_
    refine ql_getI C S qf_7_1 gw_275 dX4_applyTo_148 w (fun x30 w => ?_)
    refine ql_aload_n (r := (some a0)) C dX4_applyTo_151 rfl (lv_at hl 0 rfl) ?_
    refine ql_getI C S qf_7_2 gw_277 dX4_applyTo_152 w (fun x31 w => ?_)
    refine ql_VI (As := [.int x30, .int x31]) (rest := []) C S htab hlocks hl qy_X1_tryUncite qi_X1_tryUncite qs_X1_tryUncite gw_1618 (ci := 4) rfl w (fun b w => qm_X1_tryUncite l hl9 D _ b x30 x31 _ _ w) rfl ⟨Nat.le_of_ble_eq_true rfl, Nat.le_of_ble_eq_true rfl⟩ ⟨rfl, rfl⟩ (by exact Nat.le_of_ble_eq_true rfl) (fun b e9 => by cases e9; rfl) dX4_applyTo_155 ⟨Nat.le_of_ble_eq_true rfl, Nat.le_of_ble_eq_true rfl⟩ ⟨Nat.le_of_ble_eq_true rfl, Nat.le_of_ble_eq_true rfl⟩ (fun x32 h H locs S w => ?_)
    refine W.cs (cells' := 0) (slots' := 0) rfl rfl ?_
    exact ql_iret C S hr hlocks dX4_applyTo_158 ⟨Nat.le_of_ble_eq_true rfl, Nat.le_of_ble_eq_true rfl⟩ w
  replace w := ql_ifn w c9
  have e6 := c9
  clear c9
  by_cases c9 : (ql_sm x2.toNatClampNeg) = (8 : Int32)
  · replace w := ql_if w c9
    refine lv_tableIn (tgt := 159) (off := 148) C.1.1 C.1.2.1 dX4_applyTo_11 (by rw [c9]; decide) (by rw [c9]; decide) (by rw [c9]; rfl) (by decide) ?_
    refine ql_aload_n (r := rp1) C dX4_applyTo_159 rfl (lv_at hl 1 rfl) ?_
    refine ql_aload_n (r := (some a0)) C dX4_applyTo_160 rfl (lv_at hl 0 rfl) ?_
    refine ql_getI C S qf_7_1 gw_275 dX4_applyTo_161 w (fun x34 w => ?_)
    refine ql_VI (As := [.int x34]) (rest := []) C S htab hlocks hl qy_X1_tryRepeal qi_X1_tryRepeal qs_X1_tryRepeal gw_1619 (ci := 4) rfl w (fun b w => qm_X1_tryRepeal l hl9 D _ b x34 _ _ w) rfl ⟨Nat.le_of_ble_eq_true rfl, Nat.le_of_ble_eq_true rfl⟩ ⟨rfl, rfl⟩ (by exact Nat.le_of_ble_eq_true rfl) (fun b e9 => by cases e9; rfl) dX4_applyTo_164 ⟨Nat.le_of_ble_eq_true rfl, Nat.le_of_ble_eq_true rfl⟩ ⟨Nat.le_of_ble_eq_true rfl, Nat.le_of_ble_eq_true rfl⟩ (fun x35 h H locs S w => ?_)
    refine W.cs (cells' := 0) (slots' := 0) rfl rfl ?_
    exact ql_iret C S hr hlocks dX4_applyTo_167 ⟨Nat.le_of_ble_eq_true rfl, Nat.le_of_ble_eq_true rfl⟩ w
  replace w := ql_ifn w c9
  have e7 := c9
  clear c9
  by_cases c9 : (ql_sm x2.toNatClampNeg) = (9 : Int32)
  · replace w := ql_if w c9
    refine lv_tableIn (tgt := 168) (off := 157) C.1.1 C.1.2.1 dX4_applyTo_11 (by rw [c9]; decide) (by rw [c9]; decide) (by rw [c9]; rfl) (by decide) ?_
    refine ql_aload_n (r := rp1) C dX4_applyTo_168 rfl (lv_at hl 1 rfl) ?_
    refine ql_aload_n (r := (some a0)) C dX4_applyTo_169 rfl (lv_at hl 0 rfl) ?_
    refine ql_getI C S qf_7_1 gw_275 dX4_applyTo_170 w (fun x37 w => ?_)
    refine ql_VI (As := [.int x37]) (rest := []) C S htab hlocks hl qy_X1_tryAdvance qi_X1_tryAdvance qs_X1_tryAdvance gw_1620 (ci := 4) rfl w (fun b w => qm_X1_tryAdvance l hl9 D _ b x37 _ _ w) rfl ⟨Nat.le_of_ble_eq_true rfl, Nat.le_of_ble_eq_true rfl⟩ ⟨rfl, rfl⟩ (by exact Nat.le_of_ble_eq_true rfl) (fun b e9 => by cases e9; rfl) dX4_applyTo_173 ⟨Nat.le_of_ble_eq_true rfl, Nat.le_of_ble_eq_true rfl⟩ ⟨Nat.le_of_ble_eq_true rfl, Nat.le_of_ble_eq_true rfl⟩ (fun x38 h H locs S w => ?_)
    refine W.cs (cells' := 0) (slots' := 0) rfl rfl ?_
    exact ql_iret C S hr hlocks dX4_applyTo_176 ⟨Nat.le_of_ble_eq_true rfl, Nat.le_of_ble_eq_true rfl⟩ w
  replace w := ql_ifn w c9
  have e8 := c9
  clear c9
  refine lv_tableOut (tgt := 177) C.1.1 C.1.2.1 dX4_applyTo_11 (ql_sw (n := 9) (by decide) (fun k hk => ?_)) (by decide) ?_
  · rcases (show k = 0 ∨ k = 1 ∨ k = 2 ∨ k = 3 ∨ k = 4 ∨ k = 5 ∨ k = 6 ∨ k = 7 ∨ k = 8 by omega) with rfl | rfl | rfl | rfl | rfl | rfl | rfl | rfl | rfl
    · exact e0
    · exact e1
    · exact e2
    · exact e3
    · exact e4
    · exact e5
    · exact e6
    · exact e7
    · exact e8
  refine ql_aload_n (r := rp1) C dX4_applyTo_177 rfl (lv_at hl 1 rfl) ?_
  refine ql_VI (As := []) (rest := []) C S htab hlocks hl qy_X1_makeEdition qi_X1_makeEdition qs_X1_makeEdition gw_1621 (ci := 4) rfl w (fun b w => qm_X1_makeEdition l hl9 D _ b _ _ w) rfl ⟨Nat.le_of_ble_eq_true rfl, Nat.le_of_ble_eq_true rfl⟩ ⟨rfl, rfl⟩ (by exact Nat.le_of_ble_eq_true rfl) (fun b e9 => by cases e9; rfl) dX4_applyTo_178 ⟨Nat.le_of_ble_eq_true rfl, Nat.le_of_ble_eq_true rfl⟩ ⟨Nat.le_of_ble_eq_true rfl, Nat.le_of_ble_eq_true rfl⟩ (fun x40 h H locs S w => ?_)
  refine W.cs (cells' := 0) (slots' := 0) rfl rfl ?_
  exact ql_iret C S hr hlocks dX4_applyTo_181 ⟨Nat.le_of_ble_eq_true rfl, Nat.le_of_ble_eq_true rfl⟩ w
def qw_X5_init (a0 : Nat) (h : ql_H) (Q : ql_H → Prop) : Prop :=
ql_nm h 13 13 fun r1 h =>
ql_pV h (some a0) 8 0 (va_rf r1) fun h =>
Q h
set_option maxHeartbeats 4000000 in
set_option maxRecDepth 100000 in
theorem qm_X5_init (l : Launch) (hl9 : l.stackTraces = false) (D : ql_D) (h0 : ql_H) (a0 : Nat) (Q : ql_H → Prop) (X : String → ql_H → Prop) (w : qw_X5_init a0 h0 Q) : ql_M D l yX5_init cX5_init 1 none ({ frames := 3, cells := 14, slots := 182, locals := 48 } : Room) h0 [.ref a0] (ql_rV Q) X 14 182 := by
  refine ql_ofW (by decide) (Nat.le_of_ble_eq_true rfl) ?_
  intro p e s m below meth c ls C hr hlocks hnm htab S hl
  have hl : lv_has ls 1 [(0, .ref a0)] := hl
  unfold qw_X5_init at w
  refine ql_aload_n (r := (some a0)) C dX5_init_0 rfl (lv_at hl 0 rfl) ?_
  refine ql_objInit C hl gw_312 gw_114 gw_115 dX5_init_1 (Nat.le_of_ble_eq_true rfl) (by exact Nat.le_of_ble_eq_true rfl) ?_
  refine ql_aload_n (r := (some a0)) C dX5_init_4 rfl (lv_at hl 0 rfl) ?_
  refine lv_bipush (v := (13 : Int32)) C.1.1 C.1.2.1 dX5_init_5 (by decide) ?_
  refine lv_bipush (v := (13 : Int32)) C.1.1 C.1.2.1 dX5_init_7 (by decide) ?_
  refine ql_mna (N := 13) (K := 13) C S gw_313 gw_164 (by decide) (by decide) (by decide) (by decide) (by decide) (by decide) (by decide) (Nat.le_of_ble_eq_true rfl) (Nat.le_of_ble_eq_true rfl) dX5_init_9 w (fun r1 h H S w => ?_)
  refine W.cs (cells' := 14) (slots' := 182) rfl rfl ?_
  refine ql_putVF C S qf_8_0 gw_315 (tyX5) tyX5_ok nmX5 rfl hnm rfl dX5_init_13 (v := va_rf r1) (by cases r1 <;> rfl) (by cases r1 <;> rfl) w (fun h H locs S w => ?_)
  exact ql_vret C S hr hlocks dX5_init_16 ⟨Nat.le_of_ble_eq_true rfl, Nat.le_of_ble_eq_true rfl⟩ w
def qw_X9_noteOf (jp0 : Int64) (xp2 : Int32) (h : ql_H) (Q : Int32 → ql_H → Prop) : Prop :=
qw_X9_codeAt jp0 xp2 h (fun x1 h =>
ql_nz .char ((((97 : Int32) + x1) - (1 : Int32)).toUInt32 % 65536).toInt32 ∧ Q ((((97 : Int32) + x1) - (1 : Int32)).toUInt32 % 65536).toInt32 h)
set_option maxHeartbeats 4000000 in
set_option maxRecDepth 100000 in
theorem qm_X9_noteOf (l : Launch) (hl9 : l.stackTraces = false) (D : ql_D) (h0 : ql_H) (jp0 : Int64) (xp2 : Int32) (Q : Int32 → ql_H → Prop) (X : String → ql_H → Prop) (w : qw_X9_noteOf jp0 xp2 h0 Q) : ql_M D l yX9_noteOf cX9_noteOf 3 (some .char) ({ frames := 4, cells := 0, slots := 0, locals := 78 } : Room) h0 [.long jp0, .int xp2] (ql_rI Q) X 0 0 := by
  refine ql_ofW (by decide) (Nat.le_of_ble_eq_true rfl) ?_
  intro p e s m below meth c ls C hr hlocks hnm htab S hl
  have hl : lv_has ls 3 [(0, .long jp0), (2, .int xp2)] := hl
  unfold qw_X9_noteOf at w
  refine lv_bipush (v := (97 : Int32)) C.1.1 C.1.2.1 dX9_noteOf_0 (by decide) ?_
  refine lv_lload_n C.1.1 C.1.2.1 dX9_noteOf_2 rfl (lv_at hl 0 rfl) ?_
  refine lv_iload_n C.1.1 C.1.2.1 dX9_noteOf_3 rfl (lv_at hl 1 rfl) ?_
  refine ql_SI (As := [.long jp0, .int xp2]) (rest := [.int (97 : Int32)]) C S htab hlocks hl qy_X9_codeAt qi_X9_codeAt gw_721 (qm_X9_codeAt l hl9 D _ jp0 xp2 _ _ w) rfl ⟨Nat.le_of_ble_eq_true rfl, Nat.le_of_ble_eq_true rfl⟩ ⟨rfl, rfl⟩ (by exact Nat.le_of_ble_eq_true rfl) rfl dX9_noteOf_4 ⟨Nat.le_of_ble_eq_true rfl, Nat.le_of_ble_eq_true rfl⟩ ⟨Nat.le_of_ble_eq_true rfl, Nat.le_of_ble_eq_true rfl⟩ (fun x1 h H locs S w => ?_)
  refine W.cs (cells' := 0) (slots' := 0) rfl rfl ?_
  refine lv_iadd C.1.1 C.1.2.1 dX9_noteOf_7 ?_
  refine lv_iconst (v := (1 : Int32)) C.1.1 C.1.2.1 dX9_noteOf_8 (by decide) ?_
  refine lv_isub C.1.1 C.1.2.1 dX9_noteOf_9 ?_
  refine lv_i2c C.1.1 C.1.2.1 dX9_noteOf_10 rfl ?_
  exact ql_zret C S hr hlocks dX9_noteOf_11 ⟨Nat.le_of_ble_eq_true rfl, Nat.le_of_ble_eq_true rfl⟩ w
def qw_J9_min_7cf53 (xp0 : Int32) (xp1 : Int32) (h : ql_H) (Q : Int32 → ql_H → Prop) : Prop :=
if xp1 < xp0 then (Q xp1 h) else (Q xp0 h)
set_option maxHeartbeats 4000000 in
set_option maxRecDepth 100000 in
theorem qm_J9_min_7cf53 (l : Launch) (hl9 : l.stackTraces = false) (D : ql_D) (h0 : ql_H) (xp0 : Int32) (xp1 : Int32) (Q : Int32 → ql_H → Prop) (X : String → ql_H → Prop) (w : qw_J9_min_7cf53 xp0 xp1 h0 Q) : ql_M D l yJ9_min_7cf53 cJ9_min_7cf53 2 (some .int) ({ frames := 2, cells := 0, slots := 0, locals := 48 } : Room) h0 [.int xp0, .int xp1] (ql_rI Q) X 0 0 := by
  refine ql_ofW (by decide +kernel) (Nat.le_of_ble_eq_true rfl) ?_
  intro p e s m below meth c ls C hr hlocks hnm htab S hl
  have hl : lv_has ls 2 [(0, .int xp0), (1, .int xp1)] := hl
  unfold qw_J9_min_7cf53 at w
  refine lv_iload_n C.1.1 C.1.2.1 dJ9_min_7cf53_0 rfl (lv_at hl 0 rfl) ?_
  refine lv_iload_n C.1.1 C.1.2.1 dJ9_min_7cf53_1 rfl (lv_at hl 1 rfl) ?_
  refine lv_icmp_gt (tgt := 9) C.1.1 C.1.2.1 dJ9_min_7cf53_2 (by decide) (fun c9 => ?_) (fun c9 => ?_)
  · replace w := ql_if w c9
    refine lv_iload_n C.1.1 C.1.2.1 dJ9_min_7cf53_9 rfl (lv_at hl 1 rfl) ?_
    exact ql_iret C S hr hlocks dJ9_min_7cf53_10 ⟨Nat.le_of_ble_eq_true rfl, Nat.le_of_ble_eq_true rfl⟩ w
  · replace w := ql_ifn w c9
    refine lv_iload_n C.1.1 C.1.2.1 dJ9_min_7cf53_5 rfl (lv_at hl 0 rfl) ?_
    refine lv_goto (tgt := 10) C.1.1 C.1.2.1 dJ9_min_7cf53_6 (by decide) ?_
    exact ql_iret C S hr hlocks dJ9_min_7cf53_10 ⟨Nat.le_of_ble_eq_true rfl, Nat.le_of_ble_eq_true rfl⟩ w
def qw_X5_byBeginnings_145 (a0 : Nat) (Q : Int32 → ql_H → Prop) (k25 : Int64 → Int64 → Int32 → Int32 → Int32 → Int32 → ql_H → Prop) (jl1 : Int64) (jl3 : Int64) (xl5 : Int32) (xl6 : Int32) (xl7 : Int32) (xl8 : Int32) (h : ql_H) : Prop :=
k25 jl1 jl3 xl5 xl6 xl7 (xl8 + (1 : Int32)) h
def qw_X5_byBeginnings_42 (a0 : Nat) (Q : Int32 → ql_H → Prop) (k25 : Int64 → Int64 → Int32 → Int32 → Int32 → Int32 → ql_H → Prop) (jl1 : Int64) (jl3 : Int64) (xl5 : Int32) (xl6 : Int32) (xl7 : Int32) (xl8 : Int32) (h : ql_H) : Prop :=
ql_gR h (some a0) 8 0 fun r1 =>
ql_lR h r1 8 xl7 fun r2 =>
ql_sI h r2 0 xl8 (xl7 + xl8) fun h =>
qw_X5_byBeginnings_145 a0 Q k25 jl1 jl3 xl5 xl6 xl7 xl8 h
def qw_X5_byBeginnings_25 (a0 : Nat) (Q : Int32 → ql_H → Prop) (k15 : Int64 → Int64 → Int32 → Int32 → Int32 → ql_H → Prop) : Nat → Int64 → Int64 → Int32 → Int32 → Int32 → Int32 → ql_H → Prop
  | 0, _, _, _, _, _, _, _ => False
  | n + 1, jl1, jl3, xl5, xl6, xl7, xl8, h =>
    if xl6 < xl8 then (k15 jl1 jl3 xl5 xl6 (xl7 + (1 : Int32)) h) else (if xl7 = 0 then (qw_X5_byBeginnings_42 a0 Q (qw_X5_byBeginnings_25 a0 Q k15 n) jl1 jl3 xl5 xl6 xl7 xl8 h) else (if xl8 = 0 then (qw_X5_byBeginnings_42 a0 Q (qw_X5_byBeginnings_25 a0 Q k15 n) jl1 jl3 xl5 xl6 xl7 xl8 h) else (qw_X9_noteOf jl1 (xl7 - (1 : Int32)) h (fun x3 h =>
    qw_X9_noteOf jl3 (xl8 - (1 : Int32)) h (fun x4 h =>
    if x3 = x4 then (ql_gR h (some a0) 8 0 fun r14 =>
    ql_lR h r14 8 xl7 fun r15 =>
    ql_gR h (some a0) 8 0 fun r16 =>
    ql_lR h r16 8 (xl7 - (1 : Int32)) fun r17 =>
    ql_lI h r17 0 (xl8 - (1 : Int32)) fun x18 =>
    ql_sI h r15 0 xl8 x18 fun h =>
    qw_X5_byBeginnings_145 a0 Q (qw_X5_byBeginnings_25 a0 Q k15 n) jl1 jl3 xl5 xl6 xl7 xl8 h) else (ql_gR h (some a0) 8 0 fun r5 =>
    ql_lR h r5 8 xl7 fun r6 =>
    ql_gR h (some a0) 8 0 fun r7 =>
    ql_lR h r7 8 (xl7 - (1 : Int32)) fun r8 =>
    ql_lI h r8 0 xl8 fun x9 =>
    ql_gR h (some a0) 8 0 fun r10 =>
    ql_lR h r10 8 xl7 fun r11 =>
    ql_lI h r11 0 (xl8 - (1 : Int32)) fun x12 =>
    qw_J9_min_7cf53 x9 x12 h (fun x13 h =>
    ql_sI h r6 0 xl8 ((1 : Int32) + x13) fun h =>
    qw_X5_byBeginnings_145 a0 Q (qw_X5_byBeginnings_25 a0 Q k15 n) jl1 jl3 xl5 xl6 xl7 xl8 h)))))))
def qw_X5_byBeginnings_15 (a0 : Nat) (Q : Int32 → ql_H → Prop) : Nat → Int64 → Int64 → Int32 → Int32 → Int32 → ql_H → Prop
  | 0, _, _, _, _, _, _ => False
  | n + 1, jl1, jl3, xl5, xl6, xl7, h =>
    if xl5 < xl7 then (ql_gR h (some a0) 8 0 fun r19 =>
    ql_lR h r19 8 xl5 fun r20 =>
    ql_lI h r20 0 xl6 fun x21 =>
    Q x21 h) else (qw_X5_byBeginnings_25 a0 Q (qw_X5_byBeginnings_15 a0 Q n) ql_FU jl1 jl3 xl5 xl6 xl7 (0 : Int32) h)
def qw_X5_byBeginnings (a0 : Nat) (jp1 : Int64) (jp3 : Int64) (h : ql_H) (Q : Int32 → ql_H → Prop) : Prop :=
qw_X9_lengthOf jp1 h (fun x22 h =>
qw_X9_lengthOf jp3 h (fun x23 h =>
qw_X5_byBeginnings_15 a0 Q ql_FU jp1 jp3 x22 x23 (0 : Int32) h))
set_option maxHeartbeats 4000000 in
set_option maxRecDepth 100000 in
theorem qm_X5_byBeginnings (l : Launch) (hl9 : l.stackTraces = false) (D : ql_D) (h0 : ql_H) (a0 : Nat) (jp1 : Int64) (jp3 : Int64) (Q : Int32 → ql_H → Prop) (X : String → ql_H → Prop) (w : qw_X5_byBeginnings a0 jp1 jp3 h0 Q) : ql_M D l yX5_byBeginnings cX5_byBeginnings 9 (some .int) ({ frames := 6, cells := 0, slots := 0, locals := 108 } : Room) h0 [.ref a0, .long jp1, .long jp3] (ql_rI Q) X 0 0 := by
  refine ql_ofW (by decide) (Nat.le_of_ble_eq_true rfl) ?_
  intro p e s m below meth c ls C hr hlocks hnm htab S hl
  have hl : lv_has ls 9 [(0, .ref a0), (1, .long jp1), (3, .long jp3)] := hl
  have hB145 : ∀ (k25 : Int64 → Int64 → Int32 → Int32 → Int32 → Int32 → ql_H → Prop) (hk25 : ∀ (jl1 : Int64) (jl3 : Int64) (xl5 : Int32) (xl6 : Int32) (xl7 : Int32) (xl8 : Int32) (h : ql_H) (H : Heap) (locs : List Loc) (ls : Array Slot), ql_S D h0 s H locs h → lv_has ls 9 [(0, .ref a0), (1, .long jl1), (3, .long jl3), (5, .int xl5), (6, .int xl6), (7, .int xl7), (8, .int xl8)] → k25 jl1 jl3 xl5 xl6 xl7 xl8 h → W p l e ({ frames := 6, cells := 0, slots := 0, locals := 108 } : Room) s m ([.ref a0, .long jp1, .long jp3] : List Value).toArray below meth c H locs 0 0 (vx_MQ below (ql_Q D h0 (ql_rI Q)) (ql_X D h0 X) ([.ref a0, .long jp1, .long jp3] : List Value).toArray s 0 0 (ql_A h0)) (F0 m 25 ls [])) , ∀ (jl1 : Int64) (jl3 : Int64) (xl5 : Int32) (xl6 : Int32) (xl7 : Int32) (xl8 : Int32) (h : ql_H) (H : Heap) (locs : List Loc) (ls : Array Slot), ql_S D h0 s H locs h → lv_has ls 9 [(0, .ref a0), (1, .long jl1), (3, .long jl3), (5, .int xl5), (6, .int xl6), (7, .int xl7), (8, .int xl8)] → qw_X5_byBeginnings_145 a0 Q k25 jl1 jl3 xl5 xl6 xl7 xl8 h → W p l e ({ frames := 6, cells := 0, slots := 0, locals := 108 } : Room) s m ([.ref a0, .long jp1, .long jp3] : List Value).toArray below meth c H locs 0 0 (vx_MQ below (ql_Q D h0 (ql_rI Q)) (ql_X D h0 X) ([.ref a0, .long jp1, .long jp3] : List Value).toArray s 0 0 (ql_A h0)) (F0 m 145 ls []) := by
    intro k25 hk25 jl1 jl3 xl5 xl6 xl7 xl8 h H locs ls S hl w
    unfold qw_X5_byBeginnings_145 at w
    refine lv_iinc (v := (xl8 + (1 : Int32))) (lv' := [(8, .int (xl8 + (1 : Int32))), (0, .ref a0), (1, .long jl1), (3, .long jl3), (5, .int xl5), (6, .int xl6), (7, .int xl7)]) C.1.1 C.1.2.1 dX5_byBeginnings_145 hl (k := 6) rfl rfl (by decide) rfl (fun ls hl => ?_)
    refine lv_goto (tgt := 25) C.1.1 C.1.2.1 dX5_byBeginnings_148 (by decide) ?_
    exact hk25 jl1 jl3 xl5 xl6 xl7 (xl8 + (1 : Int32)) _ _ _ _ S (lv_sub hl [1, 2, 3, 4, 5, 6, 0] rfl) w
  have hB42 : ∀ (k25 : Int64 → Int64 → Int32 → Int32 → Int32 → Int32 → ql_H → Prop) (hk25 : ∀ (jl1 : Int64) (jl3 : Int64) (xl5 : Int32) (xl6 : Int32) (xl7 : Int32) (xl8 : Int32) (h : ql_H) (H : Heap) (locs : List Loc) (ls : Array Slot), ql_S D h0 s H locs h → lv_has ls 9 [(0, .ref a0), (1, .long jl1), (3, .long jl3), (5, .int xl5), (6, .int xl6), (7, .int xl7), (8, .int xl8)] → k25 jl1 jl3 xl5 xl6 xl7 xl8 h → W p l e ({ frames := 6, cells := 0, slots := 0, locals := 108 } : Room) s m ([.ref a0, .long jp1, .long jp3] : List Value).toArray below meth c H locs 0 0 (vx_MQ below (ql_Q D h0 (ql_rI Q)) (ql_X D h0 X) ([.ref a0, .long jp1, .long jp3] : List Value).toArray s 0 0 (ql_A h0)) (F0 m 25 ls [])) , ∀ (jl1 : Int64) (jl3 : Int64) (xl5 : Int32) (xl6 : Int32) (xl7 : Int32) (xl8 : Int32) (h : ql_H) (H : Heap) (locs : List Loc) (ls : Array Slot), ql_S D h0 s H locs h → lv_has ls 9 [(0, .ref a0), (1, .long jl1), (3, .long jl3), (5, .int xl5), (6, .int xl6), (7, .int xl7), (8, .int xl8)] → qw_X5_byBeginnings_42 a0 Q k25 jl1 jl3 xl5 xl6 xl7 xl8 h → W p l e ({ frames := 6, cells := 0, slots := 0, locals := 108 } : Room) s m ([.ref a0, .long jp1, .long jp3] : List Value).toArray below meth c H locs 0 0 (vx_MQ below (ql_Q D h0 (ql_rI Q)) (ql_X D h0 X) ([.ref a0, .long jp1, .long jp3] : List Value).toArray s 0 0 (ql_A h0)) (F0 m 42 ls []) := by
    intro k25 hk25 jl1 jl3 xl5 xl6 xl7 xl8 h H locs ls S hl w
    unfold qw_X5_byBeginnings_42 at w
    refine ql_aload_n (r := (some a0)) C dX5_byBeginnings_42 rfl (lv_at hl 0 rfl) ?_
    refine ql_getR C S qf_8_0 gw_315 dX5_byBeginnings_43 w (fun r1 w => ?_)
    refine lv_iload C.1.1 C.1.2.1 dX5_byBeginnings_46 (lv_at hl 5 rfl) ?_
    refine ql_aald (kd := 8) C S rfl rfl dX5_byBeginnings_48 w (fun r2 w => ?_)
    refine lv_iload C.1.1 C.1.2.1 dX5_byBeginnings_49 (lv_at hl 6 rfl) ?_
    refine lv_iload C.1.1 C.1.2.1 dX5_byBeginnings_51 (lv_at hl 5 rfl) ?_
    refine lv_iload C.1.1 C.1.2.1 dX5_byBeginnings_53 (lv_at hl 6 rfl) ?_
    refine lv_iadd C.1.1 C.1.2.1 dX5_byBeginnings_55 ?_
    refine ql_iast C S dX5_byBeginnings_56 w (fun h H locs S w => ?_)
    refine lv_goto (tgt := 145) C.1.1 C.1.2.1 dX5_byBeginnings_57 (by decide) ?_
    exact hB145 k25 hk25 jl1 jl3 xl5 xl6 xl7 xl8 _ _ _ _ S (lv_sub hl [0, 1, 2, 3, 4, 5, 6] rfl) w
  have hB25 : ∀ (k15 : Int64 → Int64 → Int32 → Int32 → Int32 → ql_H → Prop) (hk15 : ∀ (jl1 : Int64) (jl3 : Int64) (xl5 : Int32) (xl6 : Int32) (xl7 : Int32) (h : ql_H) (H : Heap) (locs : List Loc) (ls : Array Slot), ql_S D h0 s H locs h → lv_has ls 9 [(0, .ref a0), (1, .long jl1), (3, .long jl3), (5, .int xl5), (6, .int xl6), (7, .int xl7)] → k15 jl1 jl3 xl5 xl6 xl7 h → W p l e ({ frames := 6, cells := 0, slots := 0, locals := 108 } : Room) s m ([.ref a0, .long jp1, .long jp3] : List Value).toArray below meth c H locs 0 0 (vx_MQ below (ql_Q D h0 (ql_rI Q)) (ql_X D h0 X) ([.ref a0, .long jp1, .long jp3] : List Value).toArray s 0 0 (ql_A h0)) (F0 m 15 ls [])) , ∀ n : Nat, ∀ (jl1 : Int64) (jl3 : Int64) (xl5 : Int32) (xl6 : Int32) (xl7 : Int32) (xl8 : Int32) (h : ql_H) (H : Heap) (locs : List Loc) (ls : Array Slot), ql_S D h0 s H locs h → lv_has ls 9 [(0, .ref a0), (1, .long jl1), (3, .long jl3), (5, .int xl5), (6, .int xl6), (7, .int xl7), (8, .int xl8)] → qw_X5_byBeginnings_25 a0 Q k15 n jl1 jl3 xl5 xl6 xl7 xl8 h → W p l e ({ frames := 6, cells := 0, slots := 0, locals := 108 } : Room) s m ([.ref a0, .long jp1, .long jp3] : List Value).toArray below meth c H locs 0 0 (vx_MQ below (ql_Q D h0 (ql_rI Q)) (ql_X D h0 X) ([.ref a0, .long jp1, .long jp3] : List Value).toArray s 0 0 (ql_A h0)) (F0 m 25 ls []) := by
    intro k15 hk15 n
    induction n with
    | zero => intro jl1 jl3 xl5 xl6 xl7 xl8 h H locs ls S hl w; rw [qw_X5_byBeginnings_25] at w; exact w.elim
    | succ n ih =>
      intro jl1 jl3 xl5 xl6 xl7 xl8 h H locs ls S hl w
      rw [qw_X5_byBeginnings_25] at w
      refine lv_iload C.1.1 C.1.2.1 dX5_byBeginnings_25 (lv_at hl 6 rfl) ?_
      refine lv_iload C.1.1 C.1.2.1 dX5_byBeginnings_27 (lv_at hl 4 rfl) ?_
      refine lv_icmp_gt (tgt := 151) C.1.1 C.1.2.1 dX5_byBeginnings_29 (by decide) (fun c9 => ?_) (fun c9 => ?_)
      · replace w := ql_if w c9
        refine lv_iinc (v := (xl7 + (1 : Int32))) (lv' := [(7, .int (xl7 + (1 : Int32))), (0, .ref a0), (1, .long jl1), (3, .long jl3), (5, .int xl5), (6, .int xl6), (8, .int xl8)]) C.1.1 C.1.2.1 dX5_byBeginnings_151 hl (k := 5) rfl rfl (by decide) rfl (fun ls hl => ?_)
        refine lv_goto (tgt := 15) C.1.1 C.1.2.1 dX5_byBeginnings_154 (by decide) ?_
        exact hk15 jl1 jl3 xl5 xl6 (xl7 + (1 : Int32)) _ _ _ _ S (lv_sub hl [1, 2, 3, 4, 5, 0] rfl) w
      · replace w := ql_ifn w c9
        refine lv_iload C.1.1 C.1.2.1 dX5_byBeginnings_32 (lv_at hl 5 rfl) ?_
        refine lv_if_eq (tgt := 42) C.1.1 C.1.2.1 dX5_byBeginnings_34 (by decide) (fun c9 => ?_) (fun c9 => ?_)
        · replace w := ql_if w c9
          exact hB42 (qw_X5_byBeginnings_25 a0 Q k15 n) ih jl1 jl3 xl5 xl6 xl7 xl8 _ _ _ _ S (lv_sub hl [0, 1, 2, 3, 4, 5, 6] rfl) w
        · replace w := ql_ifn w c9
          refine lv_iload C.1.1 C.1.2.1 dX5_byBeginnings_37 (lv_at hl 6 rfl) ?_
          refine lv_if_ne (tgt := 60) C.1.1 C.1.2.1 dX5_byBeginnings_39 (by decide) (fun c9 => ?_) (fun c9 => ?_)
          · replace w := ql_ifn w c9
            refine lv_lload_n C.1.1 C.1.2.1 dX5_byBeginnings_60 rfl (lv_at hl 1 rfl) ?_
            refine lv_iload C.1.1 C.1.2.1 dX5_byBeginnings_61 (lv_at hl 5 rfl) ?_
            refine lv_iconst (v := (1 : Int32)) C.1.1 C.1.2.1 dX5_byBeginnings_63 (by decide) ?_
            refine lv_isub C.1.1 C.1.2.1 dX5_byBeginnings_64 ?_
            refine ql_SI (As := [.long jl1, .int (xl7 - (1 : Int32))]) (rest := []) C S htab hlocks hl qy_X9_noteOf qi_X9_noteOf gw_724 (qm_X9_noteOf l hl9 D _ jl1 (xl7 - (1 : Int32)) _ _ w) rfl ⟨Nat.le_of_ble_eq_true rfl, Nat.le_of_ble_eq_true rfl⟩ ⟨rfl, rfl⟩ (by exact Nat.le_of_ble_eq_true rfl) rfl dX5_byBeginnings_65 ⟨Nat.le_of_ble_eq_true rfl, Nat.le_of_ble_eq_true rfl⟩ ⟨Nat.le_of_ble_eq_true rfl, Nat.le_of_ble_eq_true rfl⟩ (fun x3 h H locs S w => ?_)
            refine W.cs (cells' := 0) (slots' := 0) rfl rfl ?_
            refine lv_lload_n C.1.1 C.1.2.1 dX5_byBeginnings_68 rfl (lv_at hl 2 rfl) ?_
            refine lv_iload C.1.1 C.1.2.1 dX5_byBeginnings_69 (lv_at hl 6 rfl) ?_
            refine lv_iconst (v := (1 : Int32)) C.1.1 C.1.2.1 dX5_byBeginnings_71 (by decide) ?_
            refine lv_isub C.1.1 C.1.2.1 dX5_byBeginnings_72 ?_
            refine ql_SI (As := [.long jl3, .int (xl8 - (1 : Int32))]) (rest := [.int x3]) C S htab hlocks hl qy_X9_noteOf qi_X9_noteOf gw_724 (qm_X9_noteOf l hl9 D _ jl3 (xl8 - (1 : Int32)) _ _ w) rfl ⟨Nat.le_of_ble_eq_true rfl, Nat.le_of_ble_eq_true rfl⟩ ⟨rfl, rfl⟩ (by exact Nat.le_of_ble_eq_true rfl) rfl dX5_byBeginnings_73 ⟨Nat.le_of_ble_eq_true rfl, Nat.le_of_ble_eq_true rfl⟩ ⟨Nat.le_of_ble_eq_true rfl, Nat.le_of_ble_eq_true rfl⟩ (fun x4 h H locs S w => ?_)
            refine W.cs (cells' := 0) (slots' := 0) rfl rfl ?_
            refine lv_icmp_ne (tgt := 106) C.1.1 C.1.2.1 dX5_byBeginnings_76 (by decide) (fun c9 => ?_) (fun c9 => ?_)
            · replace w := ql_ifn w c9
              refine ql_aload_n (r := (some a0)) C dX5_byBeginnings_106 rfl (lv_at hl 0 rfl) ?_
              refine ql_getR C S qf_8_0 gw_315 dX5_byBeginnings_107 w (fun r5 w => ?_)
              refine lv_iload C.1.1 C.1.2.1 dX5_byBeginnings_110 (lv_at hl 5 rfl) ?_
              refine ql_aald (kd := 8) C S rfl rfl dX5_byBeginnings_112 w (fun r6 w => ?_)
              refine lv_iload C.1.1 C.1.2.1 dX5_byBeginnings_113 (lv_at hl 6 rfl) ?_
              refine lv_iconst (v := (1 : Int32)) C.1.1 C.1.2.1 dX5_byBeginnings_115 (by decide) ?_
              refine ql_aload_n (r := (some a0)) C dX5_byBeginnings_116 rfl (lv_at hl 0 rfl) ?_
              refine ql_getR C S qf_8_0 gw_315 dX5_byBeginnings_117 w (fun r7 w => ?_)
              refine lv_iload C.1.1 C.1.2.1 dX5_byBeginnings_120 (lv_at hl 5 rfl) ?_
              refine lv_iconst (v := (1 : Int32)) C.1.1 C.1.2.1 dX5_byBeginnings_122 (by decide) ?_
              refine lv_isub C.1.1 C.1.2.1 dX5_byBeginnings_123 ?_
              refine ql_aald (kd := 8) C S rfl rfl dX5_byBeginnings_124 w (fun r8 w => ?_)
              refine lv_iload C.1.1 C.1.2.1 dX5_byBeginnings_125 (lv_at hl 6 rfl) ?_
              refine ql_iald C S dX5_byBeginnings_127 w (fun x9 w => ?_)
              refine ql_aload_n (r := (some a0)) C dX5_byBeginnings_128 rfl (lv_at hl 0 rfl) ?_
              refine ql_getR C S qf_8_0 gw_315 dX5_byBeginnings_129 w (fun r10 w => ?_)
              refine lv_iload C.1.1 C.1.2.1 dX5_byBeginnings_132 (lv_at hl 5 rfl) ?_
              refine ql_aald (kd := 8) C S rfl rfl dX5_byBeginnings_134 w (fun r11 w => ?_)
              refine lv_iload C.1.1 C.1.2.1 dX5_byBeginnings_135 (lv_at hl 6 rfl) ?_
              refine lv_iconst (v := (1 : Int32)) C.1.1 C.1.2.1 dX5_byBeginnings_137 (by decide) ?_
              refine lv_isub C.1.1 C.1.2.1 dX5_byBeginnings_138 ?_
              refine ql_iald C S dX5_byBeginnings_139 w (fun x12 w => ?_)
              refine ql_SI (As := [.int x9, .int x12]) (rest := [.int (1 : Int32), .int xl8, va_rf r6]) C S htab hlocks hl qy_J9_min_7cf53 qi_J9_min_7cf53 gw_727 (qm_J9_min_7cf53 l hl9 D _ x9 x12 _ _ w) rfl ⟨Nat.le_of_ble_eq_true rfl, Nat.le_of_ble_eq_true rfl⟩ ⟨rfl, rfl⟩ (by generalize r6 = z0; cases z0 <;> exact Nat.le_of_ble_eq_true rfl) rfl dX5_byBeginnings_140 ⟨Nat.le_of_ble_eq_true rfl, Nat.le_of_ble_eq_true rfl⟩ ⟨Nat.le_of_ble_eq_true rfl, Nat.le_of_ble_eq_true rfl⟩ (fun x13 h H locs S w => ?_)
              refine W.cs (cells' := 0) (slots' := 0) rfl rfl ?_
              refine lv_iadd C.1.1 C.1.2.1 dX5_byBeginnings_143 ?_
              refine ql_iast C S dX5_byBeginnings_144 w (fun h H locs S w => ?_)
              exact hB145 (qw_X5_byBeginnings_25 a0 Q k15 n) ih jl1 jl3 xl5 xl6 xl7 xl8 _ _ _ _ S (lv_sub hl [0, 1, 2, 3, 4, 5, 6] rfl) w
            · replace w := ql_if w c9
              refine ql_aload_n (r := (some a0)) C dX5_byBeginnings_79 rfl (lv_at hl 0 rfl) ?_
              refine ql_getR C S qf_8_0 gw_315 dX5_byBeginnings_80 w (fun r14 w => ?_)
              refine lv_iload C.1.1 C.1.2.1 dX5_byBeginnings_83 (lv_at hl 5 rfl) ?_
              refine ql_aald (kd := 8) C S rfl rfl dX5_byBeginnings_85 w (fun r15 w => ?_)
              refine lv_iload C.1.1 C.1.2.1 dX5_byBeginnings_86 (lv_at hl 6 rfl) ?_
              refine ql_aload_n (r := (some a0)) C dX5_byBeginnings_88 rfl (lv_at hl 0 rfl) ?_
              refine ql_getR C S qf_8_0 gw_315 dX5_byBeginnings_89 w (fun r16 w => ?_)
              refine lv_iload C.1.1 C.1.2.1 dX5_byBeginnings_92 (lv_at hl 5 rfl) ?_
              refine lv_iconst (v := (1 : Int32)) C.1.1 C.1.2.1 dX5_byBeginnings_94 (by decide) ?_
              refine lv_isub C.1.1 C.1.2.1 dX5_byBeginnings_95 ?_
              refine ql_aald (kd := 8) C S rfl rfl dX5_byBeginnings_96 w (fun r17 w => ?_)
              refine lv_iload C.1.1 C.1.2.1 dX5_byBeginnings_97 (lv_at hl 6 rfl) ?_
              refine lv_iconst (v := (1 : Int32)) C.1.1 C.1.2.1 dX5_byBeginnings_99 (by decide) ?_
              refine lv_isub C.1.1 C.1.2.1 dX5_byBeginnings_100 ?_
              refine ql_iald C S dX5_byBeginnings_101 w (fun x18 w => ?_)
              refine ql_iast C S dX5_byBeginnings_102 w (fun h H locs S w => ?_)
              refine lv_goto (tgt := 145) C.1.1 C.1.2.1 dX5_byBeginnings_103 (by decide) ?_
              exact hB145 (qw_X5_byBeginnings_25 a0 Q k15 n) ih jl1 jl3 xl5 xl6 xl7 xl8 _ _ _ _ S (lv_sub hl [0, 1, 2, 3, 4, 5, 6] rfl) w
          · replace w := ql_if w c9
            exact hB42 (qw_X5_byBeginnings_25 a0 Q k15 n) ih jl1 jl3 xl5 xl6 xl7 xl8 _ _ _ _ S (lv_sub hl [0, 1, 2, 3, 4, 5, 6] rfl) w
  have hB15 : ∀ n : Nat, ∀ (jl1 : Int64) (jl3 : Int64) (xl5 : Int32) (xl6 : Int32) (xl7 : Int32) (h : ql_H) (H : Heap) (locs : List Loc) (ls : Array Slot), ql_S D h0 s H locs h → lv_has ls 9 [(0, .ref a0), (1, .long jl1), (3, .long jl3), (5, .int xl5), (6, .int xl6), (7, .int xl7)] → qw_X5_byBeginnings_15 a0 Q n jl1 jl3 xl5 xl6 xl7 h → W p l e ({ frames := 6, cells := 0, slots := 0, locals := 108 } : Room) s m ([.ref a0, .long jp1, .long jp3] : List Value).toArray below meth c H locs 0 0 (vx_MQ below (ql_Q D h0 (ql_rI Q)) (ql_X D h0 X) ([.ref a0, .long jp1, .long jp3] : List Value).toArray s 0 0 (ql_A h0)) (F0 m 15 ls []) := by
    intro n
    induction n with
    | zero => intro jl1 jl3 xl5 xl6 xl7 h H locs ls S hl w; rw [qw_X5_byBeginnings_15] at w; exact w.elim
    | succ n ih =>
      intro jl1 jl3 xl5 xl6 xl7 h H locs ls S hl w
      rw [qw_X5_byBeginnings_15] at w
      refine lv_iload C.1.1 C.1.2.1 dX5_byBeginnings_15 (lv_at hl 5 rfl) ?_
      refine lv_iload C.1.1 C.1.2.1 dX5_byBeginnings_17 (lv_at hl 3 rfl) ?_
      refine lv_icmp_gt (tgt := 157) C.1.1 C.1.2.1 dX5_byBeginnings_19 (by decide) (fun c9 => ?_) (fun c9 => ?_)
      · replace w := ql_if w c9
        refine ql_aload_n (r := (some a0)) C dX5_byBeginnings_157 rfl (lv_at hl 0 rfl) ?_
        refine ql_getR C S qf_8_0 gw_315 dX5_byBeginnings_158 w (fun r19 w => ?_)
        refine lv_iload C.1.1 C.1.2.1 dX5_byBeginnings_161 (lv_at hl 3 rfl) ?_
        refine ql_aald (kd := 8) C S rfl rfl dX5_byBeginnings_163 w (fun r20 w => ?_)
        refine lv_iload C.1.1 C.1.2.1 dX5_byBeginnings_164 (lv_at hl 4 rfl) ?_
        refine ql_iald C S dX5_byBeginnings_166 w (fun x21 w => ?_)
        exact ql_iret C S hr hlocks dX5_byBeginnings_167 ⟨Nat.le_of_ble_eq_true rfl, Nat.le_of_ble_eq_true rfl⟩ w
      · replace w := ql_ifn w c9
        refine lv_iconst (v := (0 : Int32)) C.1.1 C.1.2.1 dX5_byBeginnings_22 (by decide) ?_
        refine lv_istore (lv' := [(8, .int (0 : Int32)), (0, .ref a0), (1, .long jl1), (3, .long jl3), (5, .int xl5), (6, .int xl6), (7, .int xl7)]) C.1.1 C.1.2.1 dX5_byBeginnings_23 hl (by decide) rfl (fun ls hl => ?_)
        exact hB25 (qw_X5_byBeginnings_15 a0 Q n) ih ql_FU jl1 jl3 xl5 xl6 xl7 (0 : Int32) _ _ _ _ S (lv_sub hl [1, 2, 3, 4, 5, 6, 0] rfl) w
  unfold qw_X5_byBeginnings at w
  refine lv_lload_n C.1.1 C.1.2.1 dX5_byBeginnings_0 rfl (lv_at hl 1 rfl) ?_
  refine ql_SI (As := [.long jp1]) (rest := []) C S htab hlocks hl qy_X9_lengthOf qi_X9_lengthOf gw_718 (qm_X9_lengthOf l hl9 D _ jp1 _ _ w) rfl ⟨Nat.le_of_ble_eq_true rfl, Nat.le_of_ble_eq_true rfl⟩ ⟨rfl, rfl⟩ (by exact Nat.le_of_ble_eq_true rfl) rfl dX5_byBeginnings_1 ⟨Nat.le_of_ble_eq_true rfl, Nat.le_of_ble_eq_true rfl⟩ ⟨Nat.le_of_ble_eq_true rfl, Nat.le_of_ble_eq_true rfl⟩ (fun x22 h H locs S w => ?_)
  refine W.cs (cells' := 0) (slots' := 0) rfl rfl ?_
  refine lv_istore (lv' := [(5, .int x22), (0, .ref a0), (1, .long jp1), (3, .long jp3)]) C.1.1 C.1.2.1 dX5_byBeginnings_4 hl (by decide) rfl (fun ls hl => ?_)
  refine lv_lload_n C.1.1 C.1.2.1 dX5_byBeginnings_6 rfl (lv_at hl 3 rfl) ?_
  refine ql_SI (As := [.long jp3]) (rest := []) C S htab hlocks hl qy_X9_lengthOf qi_X9_lengthOf gw_718 (qm_X9_lengthOf l hl9 D _ jp3 _ _ w) rfl ⟨Nat.le_of_ble_eq_true rfl, Nat.le_of_ble_eq_true rfl⟩ ⟨rfl, rfl⟩ (by exact Nat.le_of_ble_eq_true rfl) rfl dX5_byBeginnings_7 ⟨Nat.le_of_ble_eq_true rfl, Nat.le_of_ble_eq_true rfl⟩ ⟨Nat.le_of_ble_eq_true rfl, Nat.le_of_ble_eq_true rfl⟩ (fun x23 h H locs S w => ?_)
  refine W.cs (cells' := 0) (slots' := 0) rfl rfl ?_
  refine lv_istore (lv' := [(6, .int x23), (5, .int x22), (0, .ref a0), (1, .long jp1), (3, .long jp3)]) C.1.1 C.1.2.1 dX5_byBeginnings_10 hl (by decide) rfl (fun ls hl => ?_)
  refine lv_iconst (v := (0 : Int32)) C.1.1 C.1.2.1 dX5_byBeginnings_12 (by decide) ?_
  refine lv_istore (lv' := [(7, .int (0 : Int32)), (6, .int x23), (5, .int x22), (0, .ref a0), (1, .long jp1), (3, .long jp3)]) C.1.1 C.1.2.1 dX5_byBeginnings_13 hl (by decide) rfl (fun ls hl => ?_)
  exact hB15 ql_FU jp1 jp3 x22 x23 (0 : Int32) _ _ _ _ S (lv_sub hl [3, 4, 5, 2, 1, 0] rfl) w
def qw_X5_byEnds_149 (a0 : Nat) (Q : Int32 → ql_H → Prop) (k25 : Int64 → Int64 → Int32 → Int32 → Int32 → Int32 → ql_H → Prop) (jl1 : Int64) (jl3 : Int64) (xl5 : Int32) (xl6 : Int32) (xl7 : Int32) (xl8 : Int32) (h : ql_H) : Prop :=
k25 jl1 jl3 xl5 xl6 xl7 (xl8 + (-1 : Int32)) h
def qw_X5_byEnds_44 (a0 : Nat) (Q : Int32 → ql_H → Prop) (k25 : Int64 → Int64 → Int32 → Int32 → Int32 → Int32 → ql_H → Prop) (jl1 : Int64) (jl3 : Int64) (xl5 : Int32) (xl6 : Int32) (xl7 : Int32) (xl8 : Int32) (h : ql_H) : Prop :=
ql_gR h (some a0) 8 0 fun r1 =>
ql_lR h r1 8 xl7 fun r2 =>
ql_sI h r2 0 xl8 (((xl5 - xl7) + xl6) - xl8) fun h =>
qw_X5_byEnds_149 a0 Q k25 jl1 jl3 xl5 xl6 xl7 xl8 h
def qw_X5_byEnds_25 (a0 : Nat) (Q : Int32 → ql_H → Prop) (k16 : Int64 → Int64 → Int32 → Int32 → Int32 → ql_H → Prop) : Nat → Int64 → Int64 → Int32 → Int32 → Int32 → Int32 → ql_H → Prop
  | 0, _, _, _, _, _, _, _ => False
  | n + 1, jl1, jl3, xl5, xl6, xl7, xl8, h =>
    if xl8 < 0 then (k16 jl1 jl3 xl5 xl6 (xl7 + (-1 : Int32)) h) else (if xl7 = xl5 then (qw_X5_byEnds_44 a0 Q (qw_X5_byEnds_25 a0 Q k16 n) jl1 jl3 xl5 xl6 xl7 xl8 h) else (if xl8 = xl6 then (qw_X5_byEnds_44 a0 Q (qw_X5_byEnds_25 a0 Q k16 n) jl1 jl3 xl5 xl6 xl7 xl8 h) else (qw_X9_noteOf jl1 xl7 h (fun x3 h =>
    qw_X9_noteOf jl3 xl8 h (fun x4 h =>
    if x3 = x4 then (ql_gR h (some a0) 8 0 fun r14 =>
    ql_lR h r14 8 xl7 fun r15 =>
    ql_gR h (some a0) 8 0 fun r16 =>
    ql_lR h r16 8 (xl7 + (1 : Int32)) fun r17 =>
    ql_lI h r17 0 (xl8 + (1 : Int32)) fun x18 =>
    ql_sI h r15 0 xl8 x18 fun h =>
    qw_X5_byEnds_149 a0 Q (qw_X5_byEnds_25 a0 Q k16 n) jl1 jl3 xl5 xl6 xl7 xl8 h) else (ql_gR h (some a0) 8 0 fun r5 =>
    ql_lR h r5 8 xl7 fun r6 =>
    ql_gR h (some a0) 8 0 fun r7 =>
    ql_lR h r7 8 (xl7 + (1 : Int32)) fun r8 =>
    ql_lI h r8 0 xl8 fun x9 =>
    ql_gR h (some a0) 8 0 fun r10 =>
    ql_lR h r10 8 xl7 fun r11 =>
    ql_lI h r11 0 (xl8 + (1 : Int32)) fun x12 =>
    qw_J9_min_7cf53 x9 x12 h (fun x13 h =>
    ql_sI h r6 0 xl8 ((1 : Int32) + x13) fun h =>
    qw_X5_byEnds_149 a0 Q (qw_X5_byEnds_25 a0 Q k16 n) jl1 jl3 xl5 xl6 xl7 xl8 h)))))))
def qw_X5_byEnds_16 (a0 : Nat) (Q : Int32 → ql_H → Prop) : Nat → Int64 → Int64 → Int32 → Int32 → Int32 → ql_H → Prop
  | 0, _, _, _, _, _, _ => False
  | n + 1, jl1, jl3, xl5, xl6, xl7, h =>
    if xl7 < 0 then (ql_gR h (some a0) 8 0 fun r19 =>
    ql_lR h r19 8 (0 : Int32) fun r20 =>
    ql_lI h r20 0 (0 : Int32) fun x21 =>
    Q x21 h) else (qw_X5_byEnds_25 a0 Q (qw_X5_byEnds_16 a0 Q n) ql_FU jl1 jl3 xl5 xl6 xl7 xl6 h)
def qw_X5_byEnds (a0 : Nat) (jp1 : Int64) (jp3 : Int64) (h : ql_H) (Q : Int32 → ql_H → Prop) : Prop :=
qw_X9_lengthOf jp1 h (fun x22 h =>
qw_X9_lengthOf jp3 h (fun x23 h =>
qw_X5_byEnds_16 a0 Q ql_FU jp1 jp3 x22 x23 x22 h))
set_option maxHeartbeats 4000000 in
set_option maxRecDepth 100000 in
theorem qm_X5_byEnds (l : Launch) (hl9 : l.stackTraces = false) (D : ql_D) (h0 : ql_H) (a0 : Nat) (jp1 : Int64) (jp3 : Int64) (Q : Int32 → ql_H → Prop) (X : String → ql_H → Prop) (w : qw_X5_byEnds a0 jp1 jp3 h0 Q) : ql_M D l yX5_byEnds cX5_byEnds 9 (some .int) ({ frames := 6, cells := 0, slots := 0, locals := 108 } : Room) h0 [.ref a0, .long jp1, .long jp3] (ql_rI Q) X 0 0 := by
  refine ql_ofW (by decide) (Nat.le_of_ble_eq_true rfl) ?_
  intro p e s m below meth c ls C hr hlocks hnm htab S hl
  have hl : lv_has ls 9 [(0, .ref a0), (1, .long jp1), (3, .long jp3)] := hl
  have hB149 : ∀ (k25 : Int64 → Int64 → Int32 → Int32 → Int32 → Int32 → ql_H → Prop) (hk25 : ∀ (jl1 : Int64) (jl3 : Int64) (xl5 : Int32) (xl6 : Int32) (xl7 : Int32) (xl8 : Int32) (h : ql_H) (H : Heap) (locs : List Loc) (ls : Array Slot), ql_S D h0 s H locs h → lv_has ls 9 [(0, .ref a0), (1, .long jl1), (3, .long jl3), (5, .int xl5), (6, .int xl6), (7, .int xl7), (8, .int xl8)] → k25 jl1 jl3 xl5 xl6 xl7 xl8 h → W p l e ({ frames := 6, cells := 0, slots := 0, locals := 108 } : Room) s m ([.ref a0, .long jp1, .long jp3] : List Value).toArray below meth c H locs 0 0 (vx_MQ below (ql_Q D h0 (ql_rI Q)) (ql_X D h0 X) ([.ref a0, .long jp1, .long jp3] : List Value).toArray s 0 0 (ql_A h0)) (F0 m 25 ls [])) , ∀ (jl1 : Int64) (jl3 : Int64) (xl5 : Int32) (xl6 : Int32) (xl7 : Int32) (xl8 : Int32) (h : ql_H) (H : Heap) (locs : List Loc) (ls : Array Slot), ql_S D h0 s H locs h → lv_has ls 9 [(0, .ref a0), (1, .long jl1), (3, .long jl3), (5, .int xl5), (6, .int xl6), (7, .int xl7), (8, .int xl8)] → qw_X5_byEnds_149 a0 Q k25 jl1 jl3 xl5 xl6 xl7 xl8 h → W p l e ({ frames := 6, cells := 0, slots := 0, locals := 108 } : Room) s m ([.ref a0, .long jp1, .long jp3] : List Value).toArray below meth c H locs 0 0 (vx_MQ below (ql_Q D h0 (ql_rI Q)) (ql_X D h0 X) ([.ref a0, .long jp1, .long jp3] : List Value).toArray s 0 0 (ql_A h0)) (F0 m 149 ls []) := by
    intro k25 hk25 jl1 jl3 xl5 xl6 xl7 xl8 h H locs ls S hl w
    unfold qw_X5_byEnds_149 at w
    refine lv_iinc (v := (xl8 + (-1 : Int32))) (lv' := [(8, .int (xl8 + (-1 : Int32))), (0, .ref a0), (1, .long jl1), (3, .long jl3), (5, .int xl5), (6, .int xl6), (7, .int xl7)]) C.1.1 C.1.2.1 dX5_byEnds_149 hl (k := 6) rfl rfl (by decide) rfl (fun ls hl => ?_)
    refine lv_goto (tgt := 25) C.1.1 C.1.2.1 dX5_byEnds_152 (by decide) ?_
    exact hk25 jl1 jl3 xl5 xl6 xl7 (xl8 + (-1 : Int32)) _ _ _ _ S (lv_sub hl [1, 2, 3, 4, 5, 6, 0] rfl) w
  have hB44 : ∀ (k25 : Int64 → Int64 → Int32 → Int32 → Int32 → Int32 → ql_H → Prop) (hk25 : ∀ (jl1 : Int64) (jl3 : Int64) (xl5 : Int32) (xl6 : Int32) (xl7 : Int32) (xl8 : Int32) (h : ql_H) (H : Heap) (locs : List Loc) (ls : Array Slot), ql_S D h0 s H locs h → lv_has ls 9 [(0, .ref a0), (1, .long jl1), (3, .long jl3), (5, .int xl5), (6, .int xl6), (7, .int xl7), (8, .int xl8)] → k25 jl1 jl3 xl5 xl6 xl7 xl8 h → W p l e ({ frames := 6, cells := 0, slots := 0, locals := 108 } : Room) s m ([.ref a0, .long jp1, .long jp3] : List Value).toArray below meth c H locs 0 0 (vx_MQ below (ql_Q D h0 (ql_rI Q)) (ql_X D h0 X) ([.ref a0, .long jp1, .long jp3] : List Value).toArray s 0 0 (ql_A h0)) (F0 m 25 ls [])) , ∀ (jl1 : Int64) (jl3 : Int64) (xl5 : Int32) (xl6 : Int32) (xl7 : Int32) (xl8 : Int32) (h : ql_H) (H : Heap) (locs : List Loc) (ls : Array Slot), ql_S D h0 s H locs h → lv_has ls 9 [(0, .ref a0), (1, .long jl1), (3, .long jl3), (5, .int xl5), (6, .int xl6), (7, .int xl7), (8, .int xl8)] → qw_X5_byEnds_44 a0 Q k25 jl1 jl3 xl5 xl6 xl7 xl8 h → W p l e ({ frames := 6, cells := 0, slots := 0, locals := 108 } : Room) s m ([.ref a0, .long jp1, .long jp3] : List Value).toArray below meth c H locs 0 0 (vx_MQ below (ql_Q D h0 (ql_rI Q)) (ql_X D h0 X) ([.ref a0, .long jp1, .long jp3] : List Value).toArray s 0 0 (ql_A h0)) (F0 m 44 ls []) := by
    intro k25 hk25 jl1 jl3 xl5 xl6 xl7 xl8 h H locs ls S hl w
    unfold qw_X5_byEnds_44 at w
    refine ql_aload_n (r := (some a0)) C dX5_byEnds_44 rfl (lv_at hl 0 rfl) ?_
    refine ql_getR C S qf_8_0 gw_315 dX5_byEnds_45 w (fun r1 w => ?_)
    refine lv_iload C.1.1 C.1.2.1 dX5_byEnds_48 (lv_at hl 5 rfl) ?_
    refine ql_aald (kd := 8) C S rfl rfl dX5_byEnds_50 w (fun r2 w => ?_)
    refine lv_iload C.1.1 C.1.2.1 dX5_byEnds_51 (lv_at hl 6 rfl) ?_
    refine lv_iload C.1.1 C.1.2.1 dX5_byEnds_53 (lv_at hl 3 rfl) ?_
    refine lv_iload C.1.1 C.1.2.1 dX5_byEnds_55 (lv_at hl 5 rfl) ?_
    refine lv_isub C.1.1 C.1.2.1 dX5_byEnds_57 ?_
    refine lv_iload C.1.1 C.1.2.1 dX5_byEnds_58 (lv_at hl 4 rfl) ?_
    refine lv_iadd C.1.1 C.1.2.1 dX5_byEnds_60 ?_
    refine lv_iload C.1.1 C.1.2.1 dX5_byEnds_61 (lv_at hl 6 rfl) ?_
    refine lv_isub C.1.1 C.1.2.1 dX5_byEnds_63 ?_
    refine ql_iast C S dX5_byEnds_64 w (fun h H locs S w => ?_)
    refine lv_goto (tgt := 149) C.1.1 C.1.2.1 dX5_byEnds_65 (by decide) ?_
    exact hB149 k25 hk25 jl1 jl3 xl5 xl6 xl7 xl8 _ _ _ _ S (lv_sub hl [0, 1, 2, 3, 4, 5, 6] rfl) w
  have hB25 : ∀ (k16 : Int64 → Int64 → Int32 → Int32 → Int32 → ql_H → Prop) (hk16 : ∀ (jl1 : Int64) (jl3 : Int64) (xl5 : Int32) (xl6 : Int32) (xl7 : Int32) (h : ql_H) (H : Heap) (locs : List Loc) (ls : Array Slot), ql_S D h0 s H locs h → lv_has ls 9 [(0, .ref a0), (1, .long jl1), (3, .long jl3), (5, .int xl5), (6, .int xl6), (7, .int xl7)] → k16 jl1 jl3 xl5 xl6 xl7 h → W p l e ({ frames := 6, cells := 0, slots := 0, locals := 108 } : Room) s m ([.ref a0, .long jp1, .long jp3] : List Value).toArray below meth c H locs 0 0 (vx_MQ below (ql_Q D h0 (ql_rI Q)) (ql_X D h0 X) ([.ref a0, .long jp1, .long jp3] : List Value).toArray s 0 0 (ql_A h0)) (F0 m 16 ls [])) , ∀ n : Nat, ∀ (jl1 : Int64) (jl3 : Int64) (xl5 : Int32) (xl6 : Int32) (xl7 : Int32) (xl8 : Int32) (h : ql_H) (H : Heap) (locs : List Loc) (ls : Array Slot), ql_S D h0 s H locs h → lv_has ls 9 [(0, .ref a0), (1, .long jl1), (3, .long jl3), (5, .int xl5), (6, .int xl6), (7, .int xl7), (8, .int xl8)] → qw_X5_byEnds_25 a0 Q k16 n jl1 jl3 xl5 xl6 xl7 xl8 h → W p l e ({ frames := 6, cells := 0, slots := 0, locals := 108 } : Room) s m ([.ref a0, .long jp1, .long jp3] : List Value).toArray below meth c H locs 0 0 (vx_MQ below (ql_Q D h0 (ql_rI Q)) (ql_X D h0 X) ([.ref a0, .long jp1, .long jp3] : List Value).toArray s 0 0 (ql_A h0)) (F0 m 25 ls []) := by
    intro k16 hk16 n
    induction n with
    | zero => intro jl1 jl3 xl5 xl6 xl7 xl8 h H locs ls S hl w; rw [qw_X5_byEnds_25] at w; exact w.elim
    | succ n ih =>
      intro jl1 jl3 xl5 xl6 xl7 xl8 h H locs ls S hl w
      rw [qw_X5_byEnds_25] at w
      refine lv_iload C.1.1 C.1.2.1 dX5_byEnds_25 (lv_at hl 6 rfl) ?_
      refine lv_if_lt (tgt := 155) C.1.1 C.1.2.1 dX5_byEnds_27 (by decide) (fun c9 => ?_) (fun c9 => ?_)
      · replace w := ql_if w c9
        refine lv_iinc (v := (xl7 + (-1 : Int32))) (lv' := [(7, .int (xl7 + (-1 : Int32))), (0, .ref a0), (1, .long jl1), (3, .long jl3), (5, .int xl5), (6, .int xl6), (8, .int xl8)]) C.1.1 C.1.2.1 dX5_byEnds_155 hl (k := 5) rfl rfl (by decide) rfl (fun ls hl => ?_)
        refine lv_goto (tgt := 16) C.1.1 C.1.2.1 dX5_byEnds_158 (by decide) ?_
        exact hk16 jl1 jl3 xl5 xl6 (xl7 + (-1 : Int32)) _ _ _ _ S (lv_sub hl [1, 2, 3, 4, 5, 0] rfl) w
      · replace w := ql_ifn w c9
        refine lv_iload C.1.1 C.1.2.1 dX5_byEnds_30 (lv_at hl 5 rfl) ?_
        refine lv_iload C.1.1 C.1.2.1 dX5_byEnds_32 (lv_at hl 3 rfl) ?_
        refine lv_icmp_eq (tgt := 44) C.1.1 C.1.2.1 dX5_byEnds_34 (by decide) (fun c9 => ?_) (fun c9 => ?_)
        · replace w := ql_if w c9
          exact hB44 (qw_X5_byEnds_25 a0 Q k16 n) ih jl1 jl3 xl5 xl6 xl7 xl8 _ _ _ _ S (lv_sub hl [0, 1, 2, 3, 4, 5, 6] rfl) w
        · replace w := ql_ifn w c9
          refine lv_iload C.1.1 C.1.2.1 dX5_byEnds_37 (lv_at hl 6 rfl) ?_
          refine lv_iload C.1.1 C.1.2.1 dX5_byEnds_39 (lv_at hl 4 rfl) ?_
          refine lv_icmp_ne (tgt := 68) C.1.1 C.1.2.1 dX5_byEnds_41 (by decide) (fun c9 => ?_) (fun c9 => ?_)
          · replace w := ql_ifn w c9
            refine lv_lload_n C.1.1 C.1.2.1 dX5_byEnds_68 rfl (lv_at hl 1 rfl) ?_
            refine lv_iload C.1.1 C.1.2.1 dX5_byEnds_69 (lv_at hl 5 rfl) ?_
            refine ql_SI (As := [.long jl1, .int xl7]) (rest := []) C S htab hlocks hl qy_X9_noteOf qi_X9_noteOf gw_724 (qm_X9_noteOf l hl9 D _ jl1 xl7 _ _ w) rfl ⟨Nat.le_of_ble_eq_true rfl, Nat.le_of_ble_eq_true rfl⟩ ⟨rfl, rfl⟩ (by exact Nat.le_of_ble_eq_true rfl) rfl dX5_byEnds_71 ⟨Nat.le_of_ble_eq_true rfl, Nat.le_of_ble_eq_true rfl⟩ ⟨Nat.le_of_ble_eq_true rfl, Nat.le_of_ble_eq_true rfl⟩ (fun x3 h H locs S w => ?_)
            refine W.cs (cells' := 0) (slots' := 0) rfl rfl ?_
            refine lv_lload_n C.1.1 C.1.2.1 dX5_byEnds_74 rfl (lv_at hl 2 rfl) ?_
            refine lv_iload C.1.1 C.1.2.1 dX5_byEnds_75 (lv_at hl 6 rfl) ?_
            refine ql_SI (As := [.long jl3, .int xl8]) (rest := [.int x3]) C S htab hlocks hl qy_X9_noteOf qi_X9_noteOf gw_724 (qm_X9_noteOf l hl9 D _ jl3 xl8 _ _ w) rfl ⟨Nat.le_of_ble_eq_true rfl, Nat.le_of_ble_eq_true rfl⟩ ⟨rfl, rfl⟩ (by exact Nat.le_of_ble_eq_true rfl) rfl dX5_byEnds_77 ⟨Nat.le_of_ble_eq_true rfl, Nat.le_of_ble_eq_true rfl⟩ ⟨Nat.le_of_ble_eq_true rfl, Nat.le_of_ble_eq_true rfl⟩ (fun x4 h H locs S w => ?_)
            refine W.cs (cells' := 0) (slots' := 0) rfl rfl ?_
            refine lv_icmp_ne (tgt := 110) C.1.1 C.1.2.1 dX5_byEnds_80 (by decide) (fun c9 => ?_) (fun c9 => ?_)
            · replace w := ql_ifn w c9
              refine ql_aload_n (r := (some a0)) C dX5_byEnds_110 rfl (lv_at hl 0 rfl) ?_
              refine ql_getR C S qf_8_0 gw_315 dX5_byEnds_111 w (fun r5 w => ?_)
              refine lv_iload C.1.1 C.1.2.1 dX5_byEnds_114 (lv_at hl 5 rfl) ?_
              refine ql_aald (kd := 8) C S rfl rfl dX5_byEnds_116 w (fun r6 w => ?_)
              refine lv_iload C.1.1 C.1.2.1 dX5_byEnds_117 (lv_at hl 6 rfl) ?_
              refine lv_iconst (v := (1 : Int32)) C.1.1 C.1.2.1 dX5_byEnds_119 (by decide) ?_
              refine ql_aload_n (r := (some a0)) C dX5_byEnds_120 rfl (lv_at hl 0 rfl) ?_
              refine ql_getR C S qf_8_0 gw_315 dX5_byEnds_121 w (fun r7 w => ?_)
              refine lv_iload C.1.1 C.1.2.1 dX5_byEnds_124 (lv_at hl 5 rfl) ?_
              refine lv_iconst (v := (1 : Int32)) C.1.1 C.1.2.1 dX5_byEnds_126 (by decide) ?_
              refine lv_iadd C.1.1 C.1.2.1 dX5_byEnds_127 ?_
              refine ql_aald (kd := 8) C S rfl rfl dX5_byEnds_128 w (fun r8 w => ?_)
              refine lv_iload C.1.1 C.1.2.1 dX5_byEnds_129 (lv_at hl 6 rfl) ?_
              refine ql_iald C S dX5_byEnds_131 w (fun x9 w => ?_)
              refine ql_aload_n (r := (some a0)) C dX5_byEnds_132 rfl (lv_at hl 0 rfl) ?_
              refine ql_getR C S qf_8_0 gw_315 dX5_byEnds_133 w (fun r10 w => ?_)
              refine lv_iload C.1.1 C.1.2.1 dX5_byEnds_136 (lv_at hl 5 rfl) ?_
              refine ql_aald (kd := 8) C S rfl rfl dX5_byEnds_138 w (fun r11 w => ?_)
              refine lv_iload C.1.1 C.1.2.1 dX5_byEnds_139 (lv_at hl 6 rfl) ?_
              refine lv_iconst (v := (1 : Int32)) C.1.1 C.1.2.1 dX5_byEnds_141 (by decide) ?_
              refine lv_iadd C.1.1 C.1.2.1 dX5_byEnds_142 ?_
              refine ql_iald C S dX5_byEnds_143 w (fun x12 w => ?_)
              refine ql_SI (As := [.int x9, .int x12]) (rest := [.int (1 : Int32), .int xl8, va_rf r6]) C S htab hlocks hl qy_J9_min_7cf53 qi_J9_min_7cf53 gw_727 (qm_J9_min_7cf53 l hl9 D _ x9 x12 _ _ w) rfl ⟨Nat.le_of_ble_eq_true rfl, Nat.le_of_ble_eq_true rfl⟩ ⟨rfl, rfl⟩ (by generalize r6 = z0; cases z0 <;> exact Nat.le_of_ble_eq_true rfl) rfl dX5_byEnds_144 ⟨Nat.le_of_ble_eq_true rfl, Nat.le_of_ble_eq_true rfl⟩ ⟨Nat.le_of_ble_eq_true rfl, Nat.le_of_ble_eq_true rfl⟩ (fun x13 h H locs S w => ?_)
              refine W.cs (cells' := 0) (slots' := 0) rfl rfl ?_
              refine lv_iadd C.1.1 C.1.2.1 dX5_byEnds_147 ?_
              refine ql_iast C S dX5_byEnds_148 w (fun h H locs S w => ?_)
              exact hB149 (qw_X5_byEnds_25 a0 Q k16 n) ih jl1 jl3 xl5 xl6 xl7 xl8 _ _ _ _ S (lv_sub hl [0, 1, 2, 3, 4, 5, 6] rfl) w
            · replace w := ql_if w c9
              refine ql_aload_n (r := (some a0)) C dX5_byEnds_83 rfl (lv_at hl 0 rfl) ?_
              refine ql_getR C S qf_8_0 gw_315 dX5_byEnds_84 w (fun r14 w => ?_)
              refine lv_iload C.1.1 C.1.2.1 dX5_byEnds_87 (lv_at hl 5 rfl) ?_
              refine ql_aald (kd := 8) C S rfl rfl dX5_byEnds_89 w (fun r15 w => ?_)
              refine lv_iload C.1.1 C.1.2.1 dX5_byEnds_90 (lv_at hl 6 rfl) ?_
              refine ql_aload_n (r := (some a0)) C dX5_byEnds_92 rfl (lv_at hl 0 rfl) ?_
              refine ql_getR C S qf_8_0 gw_315 dX5_byEnds_93 w (fun r16 w => ?_)
              refine lv_iload C.1.1 C.1.2.1 dX5_byEnds_96 (lv_at hl 5 rfl) ?_
              refine lv_iconst (v := (1 : Int32)) C.1.1 C.1.2.1 dX5_byEnds_98 (by decide) ?_
              refine lv_iadd C.1.1 C.1.2.1 dX5_byEnds_99 ?_
              refine ql_aald (kd := 8) C S rfl rfl dX5_byEnds_100 w (fun r17 w => ?_)
              refine lv_iload C.1.1 C.1.2.1 dX5_byEnds_101 (lv_at hl 6 rfl) ?_
              refine lv_iconst (v := (1 : Int32)) C.1.1 C.1.2.1 dX5_byEnds_103 (by decide) ?_
              refine lv_iadd C.1.1 C.1.2.1 dX5_byEnds_104 ?_
              refine ql_iald C S dX5_byEnds_105 w (fun x18 w => ?_)
              refine ql_iast C S dX5_byEnds_106 w (fun h H locs S w => ?_)
              refine lv_goto (tgt := 149) C.1.1 C.1.2.1 dX5_byEnds_107 (by decide) ?_
              exact hB149 (qw_X5_byEnds_25 a0 Q k16 n) ih jl1 jl3 xl5 xl6 xl7 xl8 _ _ _ _ S (lv_sub hl [0, 1, 2, 3, 4, 5, 6] rfl) w
          · replace w := ql_if w c9
            exact hB44 (qw_X5_byEnds_25 a0 Q k16 n) ih jl1 jl3 xl5 xl6 xl7 xl8 _ _ _ _ S (lv_sub hl [0, 1, 2, 3, 4, 5, 6] rfl) w
  have hB16 : ∀ n : Nat, ∀ (jl1 : Int64) (jl3 : Int64) (xl5 : Int32) (xl6 : Int32) (xl7 : Int32) (h : ql_H) (H : Heap) (locs : List Loc) (ls : Array Slot), ql_S D h0 s H locs h → lv_has ls 9 [(0, .ref a0), (1, .long jl1), (3, .long jl3), (5, .int xl5), (6, .int xl6), (7, .int xl7)] → qw_X5_byEnds_16 a0 Q n jl1 jl3 xl5 xl6 xl7 h → W p l e ({ frames := 6, cells := 0, slots := 0, locals := 108 } : Room) s m ([.ref a0, .long jp1, .long jp3] : List Value).toArray below meth c H locs 0 0 (vx_MQ below (ql_Q D h0 (ql_rI Q)) (ql_X D h0 X) ([.ref a0, .long jp1, .long jp3] : List Value).toArray s 0 0 (ql_A h0)) (F0 m 16 ls []) := by
    intro n
    induction n with
    | zero => intro jl1 jl3 xl5 xl6 xl7 h H locs ls S hl w; rw [qw_X5_byEnds_16] at w; exact w.elim
    | succ n ih =>
      intro jl1 jl3 xl5 xl6 xl7 h H locs ls S hl w
      rw [qw_X5_byEnds_16] at w
      refine lv_iload C.1.1 C.1.2.1 dX5_byEnds_16 (lv_at hl 5 rfl) ?_
      refine lv_if_lt (tgt := 161) C.1.1 C.1.2.1 dX5_byEnds_18 (by decide) (fun c9 => ?_) (fun c9 => ?_)
      · replace w := ql_if w c9
        refine ql_aload_n (r := (some a0)) C dX5_byEnds_161 rfl (lv_at hl 0 rfl) ?_
        refine ql_getR C S qf_8_0 gw_315 dX5_byEnds_162 w (fun r19 w => ?_)
        refine lv_iconst (v := (0 : Int32)) C.1.1 C.1.2.1 dX5_byEnds_165 (by decide) ?_
        refine ql_aald (kd := 8) C S rfl rfl dX5_byEnds_166 w (fun r20 w => ?_)
        refine lv_iconst (v := (0 : Int32)) C.1.1 C.1.2.1 dX5_byEnds_167 (by decide) ?_
        refine ql_iald C S dX5_byEnds_168 w (fun x21 w => ?_)
        exact ql_iret C S hr hlocks dX5_byEnds_169 ⟨Nat.le_of_ble_eq_true rfl, Nat.le_of_ble_eq_true rfl⟩ w
      · replace w := ql_ifn w c9
        refine lv_iload C.1.1 C.1.2.1 dX5_byEnds_21 (lv_at hl 4 rfl) ?_
        refine lv_istore (lv' := [(8, .int xl6), (0, .ref a0), (1, .long jl1), (3, .long jl3), (5, .int xl5), (6, .int xl6), (7, .int xl7)]) C.1.1 C.1.2.1 dX5_byEnds_23 hl (by decide) rfl (fun ls hl => ?_)
        exact hB25 (qw_X5_byEnds_16 a0 Q n) ih ql_FU jl1 jl3 xl5 xl6 xl7 xl6 _ _ _ _ S (lv_sub hl [1, 2, 3, 4, 5, 6, 0] rfl) w
  unfold qw_X5_byEnds at w
  refine lv_lload_n C.1.1 C.1.2.1 dX5_byEnds_0 rfl (lv_at hl 1 rfl) ?_
  refine ql_SI (As := [.long jp1]) (rest := []) C S htab hlocks hl qy_X9_lengthOf qi_X9_lengthOf gw_718 (qm_X9_lengthOf l hl9 D _ jp1 _ _ w) rfl ⟨Nat.le_of_ble_eq_true rfl, Nat.le_of_ble_eq_true rfl⟩ ⟨rfl, rfl⟩ (by exact Nat.le_of_ble_eq_true rfl) rfl dX5_byEnds_1 ⟨Nat.le_of_ble_eq_true rfl, Nat.le_of_ble_eq_true rfl⟩ ⟨Nat.le_of_ble_eq_true rfl, Nat.le_of_ble_eq_true rfl⟩ (fun x22 h H locs S w => ?_)
  refine W.cs (cells' := 0) (slots' := 0) rfl rfl ?_
  refine lv_istore (lv' := [(5, .int x22), (0, .ref a0), (1, .long jp1), (3, .long jp3)]) C.1.1 C.1.2.1 dX5_byEnds_4 hl (by decide) rfl (fun ls hl => ?_)
  refine lv_lload_n C.1.1 C.1.2.1 dX5_byEnds_6 rfl (lv_at hl 3 rfl) ?_
  refine ql_SI (As := [.long jp3]) (rest := []) C S htab hlocks hl qy_X9_lengthOf qi_X9_lengthOf gw_718 (qm_X9_lengthOf l hl9 D _ jp3 _ _ w) rfl ⟨Nat.le_of_ble_eq_true rfl, Nat.le_of_ble_eq_true rfl⟩ ⟨rfl, rfl⟩ (by exact Nat.le_of_ble_eq_true rfl) rfl dX5_byEnds_7 ⟨Nat.le_of_ble_eq_true rfl, Nat.le_of_ble_eq_true rfl⟩ ⟨Nat.le_of_ble_eq_true rfl, Nat.le_of_ble_eq_true rfl⟩ (fun x23 h H locs S w => ?_)
  refine W.cs (cells' := 0) (slots' := 0) rfl rfl ?_
  refine lv_istore (lv' := [(6, .int x23), (5, .int x22), (0, .ref a0), (1, .long jp1), (3, .long jp3)]) C.1.1 C.1.2.1 dX5_byEnds_10 hl (by decide) rfl (fun ls hl => ?_)
  refine lv_iload C.1.1 C.1.2.1 dX5_byEnds_12 (lv_at hl 1 rfl) ?_
  refine lv_istore (lv' := [(7, .int x22), (6, .int x23), (5, .int x22), (0, .ref a0), (1, .long jp1), (3, .long jp3)]) C.1.1 C.1.2.1 dX5_byEnds_14 hl (by decide) rfl (fun ls hl => ?_)
  exact hB16 ql_FU jp1 jp3 x22 x23 x22 _ _ _ _ S (lv_sub hl [3, 4, 5, 2, 1, 0] rfl) w
def qw_X6_init_36 (a0 : Nat) (Q : ql_H → Prop) : Nat → Int32 → ql_H → Prop
  | 0, _, _ => False
  | n + 1, xl1, h =>
    ql_gR h (some a0) 9 0 fun r1 =>
    ql_len h r1 6 fun x2 =>
    if x2 ≤ xl1 then (Q h) else (ql_gR h (some a0) 9 0 fun r3 =>
    ql_nw h (.inr (4, [.null, .int 0, .int 0, .int 0, .int 0, .int 0, .int 0, .int 0, .null])) fun r4 h =>
    ql_nn r4 fun b4 => qw_X1_init b4  h (fun h =>
    ql_sR h r3 6 4 xl1 r4 fun h =>
    qw_X6_init_36 a0 Q n (xl1 + (1 : Int32)) h))
def qw_X6_init (a0 : Nat) (h : ql_H) (Q : ql_H → Prop) : Prop :=
ql_nw h (.inl (6, 8, .inr (.inr (.inr (.inr (fun _ => none)))))) fun r6 h =>
ql_pV h (some a0) 9 0 (va_rf r6) fun h =>
ql_nw h (.inr (4, [.null, .int 0, .int 0, .int 0, .int 0, .int 0, .int 0, .int 0, .null])) fun r7 h =>
ql_nn r7 fun b7 => qw_X1_init b7  h (fun h =>
ql_pV h (some a0) 9 1 (va_rf r7) fun h =>
ql_pV h (some a0) 9 2 (.int (0 : Int32)) fun h =>
ql_pV h (some a0) 9 3 (.int (0 : Int32)) fun h =>
qw_X6_init_36 a0 Q 9 (0 : Int32) h)
set_option maxHeartbeats 4000000 in
set_option maxRecDepth 100000 in
theorem qm_X6_init (l : Launch) (hl9 : l.stackTraces = false) (D : ql_D) (h0 : ql_H) (a0 : Nat) (Q : ql_H → Prop) (X : String → ql_H → Prop) (w : qw_X6_init a0 h0 Q) : ql_M D l yX6_init cX6_init 2 none ({ frames := 7, cells := 826, slots := 5893, locals := 105 } : Room) h0 [.ref a0] (ql_rV Q) X 826 5893 := by
  refine ql_ofW (by decide) (Nat.le_of_ble_eq_true rfl) ?_
  intro p e s m below meth c ls C hr hlocks hnm htab S hl
  have hl : lv_has ls 2 [(0, .ref a0)] := hl
  have hB36 : ∀ n : Nat, n ≤ 9 → ∀ (xl1 : Int32) (h : ql_H) (H : Heap) (locs : List Loc) (ls : Array Slot), ql_S D h0 s H locs h → lv_has ls 2 [(0, .ref a0), (1, .int xl1)] → qw_X6_init_36 a0 Q n xl1 h → W p l e ({ frames := 7, cells := 826, slots := 5893, locals := 105 } : Room) s m ([.ref a0] : List Value).toArray below meth c H locs (76 + (9 - n) * 75) (543 + (9 - n) * 535) (vx_MQ below (ql_Q D h0 (ql_rV Q)) (ql_X D h0 X) ([.ref a0] : List Value).toArray s 826 5893 (ql_A h0)) (F0 m 36 ls []) := by
    intro n
    induction n with
    | zero => intro _ xl1 h H locs ls S hl w; rw [qw_X6_init_36] at w; exact w.elim
    | succ n ih =>
      intro hn9 xl1 h H locs ls S hl w
      rw [qw_X6_init_36] at w
      refine lv_iload_n C.1.1 C.1.2.1 dX6_init_36 rfl (lv_at hl 1 rfl) ?_
      refine ql_aload_n (r := (some a0)) C dX6_init_37 rfl (lv_at hl 0 rfl) ?_
      refine ql_getR C S qf_9_0 gw_211 dX6_init_38 w (fun r1 w => ?_)
      refine ql_alen (kd := 6) C S rfl dX6_init_41 w (fun x2 w => ?_)
      refine lv_icmp_ge (tgt := 64) C.1.1 C.1.2.1 dX6_init_42 (by decide) (fun c9 => ?_) (fun c9 => ?_)
      · replace w := ql_if w c9
        exact ql_vret C S hr hlocks dX6_init_64 ⟨(by show _ ≤ (826 : Nat); omega), (by show _ ≤ (5893 : Nat); omega)⟩ w
      · replace w := ql_ifn w c9
        refine ql_aload_n (r := (some a0)) C dX6_init_45 rfl (lv_at hl 0 rfl) ?_
        refine ql_getR C S qf_9_0 gw_211 dX6_init_46 w (fun r3 w => ?_)
        refine lv_iload_n C.1.1 C.1.2.1 dX6_init_49 rfl (lv_at hl 1 rfl) ?_
        refine ql_new (ci := 4) (fs := [.null, .int 0, .int 0, .int 0, .int 0, .int 0, .int 0, .int 0, .null]) C S rfl qlay_4 tyX1 tyX1_ok gw_208 gw_117 gw_72 (fun j hj => by rcases (show j = 0 ∨ j = 1 ∨ j = 2 ∨ j = 3 ∨ j = 4 ∨ j = 5 ∨ j = 6 ∨ j = 7 ∨ j = 8 by omega) with rfl | rfl | rfl | rfl | rfl | rfl | rfl | rfl | rfl <;> rfl) ⟨(by show _ ≤ (826 : Nat); omega), (by show _ ≤ (5893 : Nat); omega)⟩ dX6_init_50 w (fun r4 h H S w => ?_)
        refine W.cs (cells' := (77 + (9 - (n + 1)) * 75)) (slots' := (552 + (9 - (n + 1)) * 535)) (by omega) (by omega) ?_
        refine lv_dup C.1.1 C.1.2.1 dX6_init_53 (ql_catR _) ?_
        refine ql_I0 (As := []) (rest := [va_rf r4, .int xl1, va_rf r3]) C S htab hlocks hl qy_X1_init qi_X1_init rfl gw_210 w (fun b w => qm_X1_init l hl9 D _ b _ _ w) rfl ⟨Nat.le_of_ble_eq_true rfl, Nat.le_of_ble_eq_true rfl⟩ ⟨rfl, rfl⟩ (by generalize r3 = z0; generalize r4 = z1; cases z0 <;> cases z1 <;> exact Nat.le_of_ble_eq_true rfl) (fun b e9 => by cases e9; rfl) dX6_init_54 ⟨(by show _ ≤ (826 : Nat); omega), (by show _ ≤ (5893 : Nat); omega)⟩ ⟨(by show _ ≤ (826 : Nat); omega), (by show _ ≤ (5893 : Nat); omega)⟩ (fun h H locs S w => ?_)
        refine W.cs (cells' := (151 + (9 - (n + 1)) * 75)) (slots' := (1078 + (9 - (n + 1)) * 535)) (by omega) (by omega) ?_
        refine ql_aast (kd := 6) (ci := 4) C S rfl rfl dX6_init_57 w (fun h H locs S w => ?_)
        refine lv_iinc (v := (xl1 + (1 : Int32))) (lv' := [(1, .int (xl1 + (1 : Int32))), (0, .ref a0)]) C.1.1 C.1.2.1 dX6_init_58 hl (k := 1) rfl rfl (by decide) rfl (fun ls hl => ?_)
        refine lv_goto (tgt := 36) C.1.1 C.1.2.1 dX6_init_61 (by decide) ?_
        refine W.cs (cells' := (76 + (9 - n) * 75)) (slots' := (543 + (9 - n) * 535)) (by omega) (by omega) ?_
        exact ih (by omega) (xl1 + (1 : Int32)) _ _ _ _ S (lv_sub hl [1, 0] rfl) w
  unfold qw_X6_init at w
  refine ql_aload_n (r := (some a0)) C dX6_init_0 rfl (lv_at hl 0 rfl) ?_
  refine ql_objInit C hl gw_207 gw_114 gw_115 dX6_init_1 (Nat.le_of_ble_eq_true rfl) (by exact Nat.le_of_ble_eq_true rfl) ?_
  refine ql_aload_n (r := (some a0)) C dX6_init_4 rfl (lv_at hl 0 rfl) ?_
  refine lv_bipush (v := (8 : Int32)) C.1.1 C.1.2.1 dX6_init_5 (by decide) ?_
  refine ql_newq (kd := 6) (N := 8) C S gw_208 (by decide) rfl (by decide) (by decide) (by decide) ⟨Nat.le_of_ble_eq_true rfl, Nat.le_of_ble_eq_true rfl⟩ dX6_init_7 w (fun r6 h H S w => ?_)
  refine W.cs (cells' := 1) (slots' := 8) rfl rfl ?_
  refine ql_putVF C S qf_9_0 gw_211 (tyX6) tyX6_ok nmX6 rfl hnm rfl dX6_init_10 (v := va_rf r6) (by cases r6 <;> rfl) (by cases r6 <;> rfl) w (fun h H locs S w => ?_)
  refine ql_aload_n (r := (some a0)) C dX6_init_13 rfl (lv_at hl 0 rfl) ?_
  refine ql_new (ci := 4) (fs := [.null, .int 0, .int 0, .int 0, .int 0, .int 0, .int 0, .int 0, .null]) C S rfl qlay_4 tyX1 tyX1_ok gw_208 gw_117 gw_72 (fun j hj => by rcases (show j = 0 ∨ j = 1 ∨ j = 2 ∨ j = 3 ∨ j = 4 ∨ j = 5 ∨ j = 6 ∨ j = 7 ∨ j = 8 by omega) with rfl | rfl | rfl | rfl | rfl | rfl | rfl | rfl | rfl <;> rfl) ⟨Nat.le_of_ble_eq_true rfl, Nat.le_of_ble_eq_true rfl⟩ dX6_init_14 w (fun r7 h H S w => ?_)
  refine W.cs (cells' := 2) (slots' := 17) rfl rfl ?_
  refine lv_dup C.1.1 C.1.2.1 dX6_init_17 (ql_catR _) ?_
  refine ql_I0 (As := []) (rest := [va_rf r7, .ref a0]) C S htab hlocks hl qy_X1_init qi_X1_init rfl gw_210 w (fun b w => qm_X1_init l hl9 D _ b _ _ w) rfl ⟨Nat.le_of_ble_eq_true rfl, Nat.le_of_ble_eq_true rfl⟩ ⟨rfl, rfl⟩ (by generalize r7 = z0; cases z0 <;> exact Nat.le_of_ble_eq_true rfl) (fun b e9 => by cases e9; rfl) dX6_init_18 ⟨Nat.le_of_ble_eq_true rfl, Nat.le_of_ble_eq_true rfl⟩ ⟨Nat.le_of_ble_eq_true rfl, Nat.le_of_ble_eq_true rfl⟩ (fun h H locs S w => ?_)
  refine W.cs (cells' := 76) (slots' := 543) rfl rfl ?_
  refine ql_putV C S qf_9_1 gw_212 (tyX6) tyX6_ok nmX6 rfl dX6_init_21 (v := va_rf r7) (by cases r7 <;> rfl) (by cases r7 <;> rfl) w (fun h H locs S w => ?_)
  refine ql_aload_n (r := (some a0)) C dX6_init_24 rfl (lv_at hl 0 rfl) ?_
  refine lv_iconst (v := (0 : Int32)) C.1.1 C.1.2.1 dX6_init_25 (by decide) ?_
  refine ql_putV C S qf_9_2 gw_213 (tyX6) tyX6_ok nmX6 rfl dX6_init_26 (v := .int (0 : Int32)) rfl rfl w (fun h H locs S w => ?_)
  refine ql_aload_n (r := (some a0)) C dX6_init_29 rfl (lv_at hl 0 rfl) ?_
  refine lv_iconst (v := (0 : Int32)) C.1.1 C.1.2.1 dX6_init_30 (by decide) ?_
  refine ql_putV C S qf_9_3 gw_214 (tyX6) tyX6_ok nmX6 rfl dX6_init_31 (v := .int (0 : Int32)) rfl rfl w (fun h H locs S w => ?_)
  refine lv_iconst (v := (0 : Int32)) C.1.1 C.1.2.1 dX6_init_34 (by decide) ?_
  refine lv_istore_n (lv' := [(1, .int (0 : Int32)), (0, .ref a0)]) C.1.1 C.1.2.1 dX6_init_35 rfl hl (by decide) rfl (fun ls hl => ?_)
  refine W.cs (cells' := (76 + (9 - 9) * 75)) (slots' := (543 + (9 - 9) * 535)) (by omega) (by omega) ?_
  exact hB36 9 (Nat.le_refl _) (0 : Int32) _ _ _ _ S (lv_sub hl [1, 0] rfl) w
def qw_X6_open (a0 : Nat) (rp1 : Option Nat) (h : ql_H) (Q : ql_H → Prop) : Prop :=
ql_gR h (some a0) 9 1 fun r1 =>
ql_rv h r1 4 fun b1 => qw_X1_copyFrom b1 rp1 h (fun h =>
Q h)
set_option maxHeartbeats 4000000 in
set_option maxRecDepth 100000 in
theorem qm_X6_open (l : Launch) (hl9 : l.stackTraces = false) (D : ql_D) (h0 : ql_H) (a0 : Nat) (rp1 : Option Nat) (Q : ql_H → Prop) (X : String → ql_H → Prop) (w : qw_X6_open a0 rp1 h0 Q) : ql_M D l yX6_open cX6_open 2 none ({ frames := 7, cells := 0, slots := 0, locals := 127 } : Room) h0 [.ref a0, va_rf rp1] (ql_rV Q) X 0 0 := by
  refine ql_ofW (by decide) (by cases rp1 <;> exact Nat.le_of_ble_eq_true rfl) ?_
  intro p e s m below meth c ls C hr hlocks hnm htab S hl
  rw [show lv_args 0 [.ref a0, va_rf rp1] = [(0, .ref a0), (1, va_rf rp1)] from by cases rp1 <;> rfl] at hl
  unfold qw_X6_open at w
  refine ql_aload_n (r := (some a0)) C dX6_open_0 rfl (lv_at hl 0 rfl) ?_
  refine ql_getR C S qf_9_1 gw_212 dX6_open_1 w (fun r1 w => ?_)
  refine ql_aload_n (r := rp1) C dX6_open_4 rfl (lv_at hl 1 rfl) ?_
  refine ql_VV (As := [va_rf rp1]) (rest := []) C S htab hlocks hl qy_X1_copyFrom qi_X1_copyFrom qs_X1_copyFrom gw_390 (ci := 4) rfl w (fun b w => qm_X1_copyFrom l hl9 D _ b rp1 _ _ w) rfl ⟨Nat.le_of_ble_eq_true rfl, Nat.le_of_ble_eq_true rfl⟩ ⟨rfl, rfl⟩ (by exact Nat.le_of_ble_eq_true rfl) (fun b e9 => by cases e9; rfl) dX6_open_5 ⟨Nat.le_of_ble_eq_true rfl, Nat.le_of_ble_eq_true rfl⟩ ⟨Nat.le_of_ble_eq_true rfl, Nat.le_of_ble_eq_true rfl⟩ (fun h H locs S w => ?_)
  refine W.cs (cells' := 0) (slots' := 0) rfl rfl ?_
  exact ql_vret C S hr hlocks dX6_open_8 ⟨Nat.le_of_ble_eq_true rfl, Nat.le_of_ble_eq_true rfl⟩ w
def qw_X6_keep (a0 : Nat) (h : ql_H) (Q : ql_H → Prop) : Prop :=
ql_gI h (some a0) 9 2 fun x1 =>
qw_J9_floorMod_7cf53 (x1 + (1 : Int32)) (8 : Int32) h (fun x2 h =>
ql_pV h (some a0) 9 2 (.int x2) fun h =>
ql_gR h (some a0) 9 0 fun r3 =>
ql_gI h (some a0) 9 2 fun x4 =>
ql_lR h r3 6 x4 fun r5 =>
ql_gR h (some a0) 9 0 fun r6 =>
ql_gI h (some a0) 9 2 fun x7 =>
ql_gR h (some a0) 9 1 fun r8 =>
ql_sR h r6 6 4 x7 r8 fun h =>
ql_pV h (some a0) 9 1 (va_rf r5) fun h =>
ql_gI h (some a0) 9 3 fun x9 =>
qw_J9_min_7cf53 (x9 + (1 : Int32)) (8 : Int32) h (fun x10 h =>
ql_pV h (some a0) 9 3 (.int x10) fun h =>
Q h))
set_option maxHeartbeats 4000000 in
set_option maxRecDepth 100000 in
theorem qm_X6_keep (l : Launch) (hl9 : l.stackTraces = false) (D : ql_D) (h0 : ql_H) (a0 : Nat) (Q : ql_H → Prop) (X : String → ql_H → Prop) (w : qw_X6_keep a0 h0 Q) : ql_M D l yX6_keep cX6_keep 2 none ({ frames := 4, cells := 0, slots := 0, locals := 78 } : Room) h0 [.ref a0] (ql_rV Q) X 0 0 := by
  refine ql_ofW (by decide) (Nat.le_of_ble_eq_true rfl) ?_
  intro p e s m below meth c ls C hr hlocks hnm htab S hl
  have hl : lv_has ls 2 [(0, .ref a0)] := hl
  unfold qw_X6_keep at w
  refine ql_aload_n (r := (some a0)) C dX6_keep_0 rfl (lv_at hl 0 rfl) ?_
  refine ql_aload_n (r := (some a0)) C dX6_keep_1 rfl (lv_at hl 0 rfl) ?_
  refine ql_getI C S qf_9_2 gw_213 dX6_keep_2 w (fun x1 w => ?_)
  refine lv_iconst (v := (1 : Int32)) C.1.1 C.1.2.1 dX6_keep_5 (by decide) ?_
  refine lv_iadd C.1.1 C.1.2.1 dX6_keep_6 ?_
  refine lv_bipush (v := (8 : Int32)) C.1.1 C.1.2.1 dX6_keep_7 (by decide) ?_
  refine ql_SI (As := [.int (x1 + (1 : Int32)), .int (8 : Int32)]) (rest := [.ref a0]) C S htab hlocks hl qy_J9_floorMod_7cf53 qi_J9_floorMod_7cf53 gw_621 (qm_J9_floorMod_7cf53 l hl9 D _ (x1 + (1 : Int32)) (8 : Int32) _ _ w) rfl ⟨Nat.le_of_ble_eq_true rfl, Nat.le_of_ble_eq_true rfl⟩ ⟨rfl, rfl⟩ (by exact Nat.le_of_ble_eq_true rfl) rfl dX6_keep_9 ⟨Nat.le_of_ble_eq_true rfl, Nat.le_of_ble_eq_true rfl⟩ ⟨Nat.le_of_ble_eq_true rfl, Nat.le_of_ble_eq_true rfl⟩ (fun x2 h H locs S w => ?_)
  refine W.cs (cells' := 0) (slots' := 0) rfl rfl ?_
  refine ql_putV C S qf_9_2 gw_213 (tyX6) tyX6_ok nmX6 rfl dX6_keep_12 (v := .int x2) rfl rfl w (fun h H locs S w => ?_)
  refine ql_aload_n (r := (some a0)) C dX6_keep_15 rfl (lv_at hl 0 rfl) ?_
  refine ql_getR C S qf_9_0 gw_211 dX6_keep_16 w (fun r3 w => ?_)
  refine ql_aload_n (r := (some a0)) C dX6_keep_19 rfl (lv_at hl 0 rfl) ?_
  refine ql_getI C S qf_9_2 gw_213 dX6_keep_20 w (fun x4 w => ?_)
  refine ql_aald (kd := 6) C S rfl rfl dX6_keep_23 w (fun r5 w => ?_)
  refine ql_astore_n (lv' := [(1, va_rf r5), (0, .ref a0)]) C dX6_keep_24 rfl hl (by decide) rfl (fun ls hl => ?_)
  refine ql_aload_n (r := (some a0)) C dX6_keep_25 rfl (lv_at hl 1 rfl) ?_
  refine ql_getR C S qf_9_0 gw_211 dX6_keep_26 w (fun r6 w => ?_)
  refine ql_aload_n (r := (some a0)) C dX6_keep_29 rfl (lv_at hl 1 rfl) ?_
  refine ql_getI C S qf_9_2 gw_213 dX6_keep_30 w (fun x7 w => ?_)
  refine ql_aload_n (r := (some a0)) C dX6_keep_33 rfl (lv_at hl 1 rfl) ?_
  refine ql_getR C S qf_9_1 gw_212 dX6_keep_34 w (fun r8 w => ?_)
  refine ql_aast (kd := 6) (ci := 4) C S rfl rfl dX6_keep_37 w (fun h H locs S w => ?_)
  refine ql_aload_n (r := (some a0)) C dX6_keep_38 rfl (lv_at hl 1 rfl) ?_
  refine ql_aload_n (r := r5) C dX6_keep_39 rfl (lv_at hl 0 rfl) ?_
  refine ql_putV C S qf_9_1 gw_212 (tyX6) tyX6_ok nmX6 rfl dX6_keep_40 (v := va_rf r5) (by cases r5 <;> rfl) (by cases r5 <;> rfl) w (fun h H locs S w => ?_)
  refine ql_aload_n (r := (some a0)) C dX6_keep_43 rfl (lv_at hl 1 rfl) ?_
  refine ql_aload_n (r := (some a0)) C dX6_keep_44 rfl (lv_at hl 1 rfl) ?_
  refine ql_getI C S qf_9_3 gw_214 dX6_keep_45 w (fun x9 w => ?_)
  refine lv_iconst (v := (1 : Int32)) C.1.1 C.1.2.1 dX6_keep_48 (by decide) ?_
  refine lv_iadd C.1.1 C.1.2.1 dX6_keep_49 ?_
  refine lv_bipush (v := (8 : Int32)) C.1.1 C.1.2.1 dX6_keep_50 (by decide) ?_
  refine ql_SI (As := [.int (x9 + (1 : Int32)), .int (8 : Int32)]) (rest := [.ref a0]) C S htab hlocks hl qy_J9_min_7cf53 qi_J9_min_7cf53 gw_622 (qm_J9_min_7cf53 l hl9 D _ (x9 + (1 : Int32)) (8 : Int32) _ _ w) rfl ⟨Nat.le_of_ble_eq_true rfl, Nat.le_of_ble_eq_true rfl⟩ ⟨rfl, rfl⟩ (by exact Nat.le_of_ble_eq_true rfl) rfl dX6_keep_52 ⟨Nat.le_of_ble_eq_true rfl, Nat.le_of_ble_eq_true rfl⟩ ⟨Nat.le_of_ble_eq_true rfl, Nat.le_of_ble_eq_true rfl⟩ (fun x10 h H locs S w => ?_)
  refine W.cs (cells' := 0) (slots' := 0) rfl rfl ?_
  refine ql_putV C S qf_9_3 gw_214 (tyX6) tyX6_ok nmX6 rfl dX6_keep_55 (v := .int x10) rfl rfl w (fun h H locs S w => ?_)
  exact ql_vret C S hr hlocks dX6_keep_58 ⟨Nat.le_of_ble_eq_true rfl, Nat.le_of_ble_eq_true rfl⟩ w
def qw_X6_abandon (a0 : Nat) (rp1 : Option Nat) (h : ql_H) (Q : ql_H → Prop) : Prop :=
ql_gR h (some a0) 9 1 fun r1 =>
ql_rv h rp1 4 fun b1 => qw_X1_copyFrom b1 r1 h (fun h =>
Q h)
set_option maxHeartbeats 4000000 in
set_option maxRecDepth 100000 in
theorem qm_X6_abandon (l : Launch) (hl9 : l.stackTraces = false) (D : ql_D) (h0 : ql_H) (a0 : Nat) (rp1 : Option Nat) (Q : ql_H → Prop) (X : String → ql_H → Prop) (w : qw_X6_abandon a0 rp1 h0 Q) : ql_M D l yX6_abandon cX6_abandon 2 none ({ frames := 7, cells := 0, slots := 0, locals := 127 } : Room) h0 [.ref a0, va_rf rp1] (ql_rV Q) X 0 0 := by
  refine ql_ofW (by decide) (by cases rp1 <;> exact Nat.le_of_ble_eq_true rfl) ?_
  intro p e s m below meth c ls C hr hlocks hnm htab S hl
  rw [show lv_args 0 [.ref a0, va_rf rp1] = [(0, .ref a0), (1, va_rf rp1)] from by cases rp1 <;> rfl] at hl
  unfold qw_X6_abandon at w
  refine ql_aload_n (r := rp1) C dX6_abandon_0 rfl (lv_at hl 1 rfl) ?_
  refine ql_aload_n (r := (some a0)) C dX6_abandon_1 rfl (lv_at hl 0 rfl) ?_
  refine ql_getR C S qf_9_1 gw_212 dX6_abandon_2 w (fun r1 w => ?_)
  refine ql_VV (As := [va_rf r1]) (rest := []) C S htab hlocks hl qy_X1_copyFrom qi_X1_copyFrom qs_X1_copyFrom gw_390 (ci := 4) rfl w (fun b w => qm_X1_copyFrom l hl9 D _ b r1 _ _ w) rfl ⟨Nat.le_of_ble_eq_true rfl, Nat.le_of_ble_eq_true rfl⟩ ⟨rfl, rfl⟩ (by exact Nat.le_of_ble_eq_true rfl) (fun b e9 => by cases e9; rfl) dX6_abandon_5 ⟨Nat.le_of_ble_eq_true rfl, Nat.le_of_ble_eq_true rfl⟩ ⟨Nat.le_of_ble_eq_true rfl, Nat.le_of_ble_eq_true rfl⟩ (fun h H locs S w => ?_)
  refine W.cs (cells' := 0) (slots' := 0) rfl rfl ?_
  exact ql_vret C S hr hlocks dX6_abandon_8 ⟨Nat.le_of_ble_eq_true rfl, Nat.le_of_ble_eq_true rfl⟩ w
def qw_X6_stepBack (a0 : Nat) (rp1 : Option Nat) (h : ql_H) (Q : ql_H → Prop) : Prop :=
ql_gR h (some a0) 9 0 fun r1 =>
ql_gI h (some a0) 9 2 fun x2 =>
ql_lR h r1 6 x2 fun r3 =>
ql_rv h rp1 4 fun b3 => qw_X1_copyFrom b3 r3 h (fun h =>
ql_gI h (some a0) 9 2 fun x5 =>
qw_J9_floorMod_7cf53 (x5 - (1 : Int32)) (8 : Int32) h (fun x6 h =>
ql_pV h (some a0) 9 2 (.int x6) fun h =>
ql_gI h (some a0) 9 3 fun x7 =>
ql_pV h (some a0) 9 3 (.int (x7 - (1 : Int32))) fun h =>
Q h))
set_option maxHeartbeats 4000000 in
set_option maxRecDepth 100000 in
theorem qm_X6_stepBack (l : Launch) (hl9 : l.stackTraces = false) (D : ql_D) (h0 : ql_H) (a0 : Nat) (rp1 : Option Nat) (Q : ql_H → Prop) (X : String → ql_H → Prop) (w : qw_X6_stepBack a0 rp1 h0 Q) : ql_M D l yX6_stepBack cX6_stepBack 2 none ({ frames := 7, cells := 0, slots := 0, locals := 127 } : Room) h0 [.ref a0, va_rf rp1] (ql_rV Q) X 0 0 := by
  refine ql_ofW (by decide) (by cases rp1 <;> exact Nat.le_of_ble_eq_true rfl) ?_
  intro p e s m below meth c ls C hr hlocks hnm htab S hl
  rw [show lv_args 0 [.ref a0, va_rf rp1] = [(0, .ref a0), (1, va_rf rp1)] from by cases rp1 <;> rfl] at hl
  unfold qw_X6_stepBack at w
  refine ql_aload_n (r := rp1) C dX6_stepBack_0 rfl (lv_at hl 1 rfl) ?_
  refine ql_aload_n (r := (some a0)) C dX6_stepBack_1 rfl (lv_at hl 0 rfl) ?_
  refine ql_getR C S qf_9_0 gw_211 dX6_stepBack_2 w (fun r1 w => ?_)
  refine ql_aload_n (r := (some a0)) C dX6_stepBack_5 rfl (lv_at hl 0 rfl) ?_
  refine ql_getI C S qf_9_2 gw_213 dX6_stepBack_6 w (fun x2 w => ?_)
  refine ql_aald (kd := 6) C S rfl rfl dX6_stepBack_9 w (fun r3 w => ?_)
  refine ql_VV (As := [va_rf r3]) (rest := []) C S htab hlocks hl qy_X1_copyFrom qi_X1_copyFrom qs_X1_copyFrom gw_390 (ci := 4) rfl w (fun b w => qm_X1_copyFrom l hl9 D _ b r3 _ _ w) rfl ⟨Nat.le_of_ble_eq_true rfl, Nat.le_of_ble_eq_true rfl⟩ ⟨rfl, rfl⟩ (by exact Nat.le_of_ble_eq_true rfl) (fun b e9 => by cases e9; rfl) dX6_stepBack_10 ⟨Nat.le_of_ble_eq_true rfl, Nat.le_of_ble_eq_true rfl⟩ ⟨Nat.le_of_ble_eq_true rfl, Nat.le_of_ble_eq_true rfl⟩ (fun h H locs S w => ?_)
  refine W.cs (cells' := 0) (slots' := 0) rfl rfl ?_
  refine ql_aload_n (r := (some a0)) C dX6_stepBack_13 rfl (lv_at hl 0 rfl) ?_
  refine ql_aload_n (r := (some a0)) C dX6_stepBack_14 rfl (lv_at hl 0 rfl) ?_
  refine ql_getI C S qf_9_2 gw_213 dX6_stepBack_15 w (fun x5 w => ?_)
  refine lv_iconst (v := (1 : Int32)) C.1.1 C.1.2.1 dX6_stepBack_18 (by decide) ?_
  refine lv_isub C.1.1 C.1.2.1 dX6_stepBack_19 ?_
  refine lv_bipush (v := (8 : Int32)) C.1.1 C.1.2.1 dX6_stepBack_20 (by decide) ?_
  refine ql_SI (As := [.int (x5 - (1 : Int32)), .int (8 : Int32)]) (rest := [.ref a0]) C S htab hlocks hl qy_J9_floorMod_7cf53 qi_J9_floorMod_7cf53 gw_621 (qm_J9_floorMod_7cf53 l hl9 D _ (x5 - (1 : Int32)) (8 : Int32) _ _ w) rfl ⟨Nat.le_of_ble_eq_true rfl, Nat.le_of_ble_eq_true rfl⟩ ⟨rfl, rfl⟩ (by exact Nat.le_of_ble_eq_true rfl) rfl dX6_stepBack_22 ⟨Nat.le_of_ble_eq_true rfl, Nat.le_of_ble_eq_true rfl⟩ ⟨Nat.le_of_ble_eq_true rfl, Nat.le_of_ble_eq_true rfl⟩ (fun x6 h H locs S w => ?_)
  refine W.cs (cells' := 0) (slots' := 0) rfl rfl ?_
  refine ql_putV C S qf_9_2 gw_213 (tyX6) tyX6_ok nmX6 rfl dX6_stepBack_25 (v := .int x6) rfl rfl w (fun h H locs S w => ?_)
  refine ql_aload_n (r := (some a0)) C dX6_stepBack_28 rfl (lv_at hl 0 rfl) ?_
  refine lv_dup C.1.1 C.1.2.1 dX6_stepBack_29 (ql_catR _) ?_
  refine ql_getI C S qf_9_3 gw_214 dX6_stepBack_30 w (fun x7 w => ?_)
  refine lv_iconst (v := (1 : Int32)) C.1.1 C.1.2.1 dX6_stepBack_33 (by decide) ?_
  refine lv_isub C.1.1 C.1.2.1 dX6_stepBack_34 ?_
  refine ql_putV C S qf_9_3 gw_214 (tyX6) tyX6_ok nmX6 rfl dX6_stepBack_35 (v := .int (x7 - (1 : Int32))) rfl rfl w (fun h H locs S w => ?_)
  exact ql_vret C S hr hlocks dX6_stepBack_38 ⟨Nat.le_of_ble_eq_true rfl, Nat.le_of_ble_eq_true rfl⟩ w
def qw_X6_clear (a0 : Nat) (h : ql_H) (Q : ql_H → Prop) : Prop :=
ql_pV h (some a0) 9 3 (.int (0 : Int32)) fun h =>
Q h
set_option maxHeartbeats 4000000 in
set_option maxRecDepth 100000 in
theorem qm_X6_clear (l : Launch) (hl9 : l.stackTraces = false) (D : ql_D) (h0 : ql_H) (a0 : Nat) (Q : ql_H → Prop) (X : String → ql_H → Prop) (w : qw_X6_clear a0 h0 Q) : ql_M D l yX6_clear cX6_clear 1 none ({ frames := 2, cells := 0, slots := 0, locals := 48 } : Room) h0 [.ref a0] (ql_rV Q) X 0 0 := by
  refine ql_ofW (by decide) (Nat.le_of_ble_eq_true rfl) ?_
  intro p e s m below meth c ls C hr hlocks hnm htab S hl
  have hl : lv_has ls 1 [(0, .ref a0)] := hl
  unfold qw_X6_clear at w
  refine ql_aload_n (r := (some a0)) C dX6_clear_0 rfl (lv_at hl 0 rfl) ?_
  refine lv_iconst (v := (0 : Int32)) C.1.1 C.1.2.1 dX6_clear_1 (by decide) ?_
  refine ql_putV C S qf_9_3 gw_214 (tyX6) tyX6_ok nmX6 rfl dX6_clear_2 (v := .int (0 : Int32)) rfl rfl w (fun h H locs S w => ?_)
  exact ql_vret C S hr hlocks dX6_clear_5 ⟨Nat.le_of_ble_eq_true rfl, Nat.le_of_ble_eq_true rfl⟩ w
def qw_J5_init_d00df (a0 : Nat) (xp1 : Int32) (h : ql_H) (Q : ql_H → Prop) : Prop :=
if (1 : Int32) = 0 then (False) else ((¬ xp1 < 0 ∧ xp1.toNatClampNeg ≤ 16) ∧ ql_nw h (.inl (3, xp1.toNatClampNeg, .inl (fun _ => 0))) fun r1 h =>
ql_pV h (some a0) 1 0 (va_rf r1) fun h =>
ql_pV h (some a0) 1 1 (.int (0 : Int32)) fun h =>
Q h)
set_option maxHeartbeats 4000000 in
set_option maxRecDepth 100000 in
theorem qm_J5_init_d00df (l : Launch) (hl9 : l.stackTraces = false) (D : ql_D) (h0 : ql_H) (a0 : Nat) (xp1 : Int32) (Q : ql_H → Prop) (X : String → ql_H → Prop) (w : qw_J5_init_d00df a0 xp1 h0 Q) : ql_M D l yJ5_init_d00df cJ5_init_d00df 2 none ({ frames := 3, cells := 1, slots := 16, locals := 48 } : Room) h0 [.ref a0, .int xp1] (ql_rV Q) X 1 16 := by
  refine ql_ofW (by decide +kernel) (Nat.le_of_ble_eq_true rfl) ?_
  intro p e s m below meth c ls C hr hlocks hnm htab S hl
  have hl : lv_has ls 2 [(0, .ref a0), (1, .int xp1)] := hl
  unfold qw_J5_init_d00df at w
  refine ql_aload_n (r := (some a0)) C dJ5_init_d00df_0 rfl (lv_at hl 0 rfl) ?_
  refine ql_objInit C hl gw_239 gw_114 gw_115 dJ5_init_d00df_1 (Nat.le_of_ble_eq_true rfl) (by exact Nat.le_of_ble_eq_true rfl) ?_
  refine ql_gs C S C.z.1.1 gw_240 dJ5_init_d00df_4 ?_
  refine lv_if_eq (tgt := 25) C.1.1 C.1.2.1 dJ5_init_d00df_7 (by decide) (fun c9 => ?_) (fun c9 => ?_)
  · replace w := ql_if w c9
    refine ql_aload_n (r := (some a0)) C dJ5_init_d00df_25 rfl (lv_at hl 0 rfl) ?_
    refine lv_iload_n C.1.1 C.1.2.1 dJ5_init_d00df_26 rfl (lv_at hl 1 rfl) ?_
    exact w.elim
  · replace w := ql_ifn w c9
    refine ql_aload_n (r := (some a0)) C dJ5_init_d00df_10 rfl (lv_at hl 0 rfl) ?_
    refine lv_iload_n C.1.1 C.1.2.1 dJ5_init_d00df_11 rfl (lv_at hl 1 rfl) ?_
    refine ql_newb (B := 16) C S gw_263 (by decide) ⟨Nat.le_of_ble_eq_true rfl, Nat.le_of_ble_eq_true rfl⟩ dJ5_init_d00df_12 w (fun r1 h H S w => ?_)
    refine W.cs (cells' := 1) (slots' := 16) rfl rfl ?_
    refine ql_putV C S qf_1_0 gw_249 (tyJ4) tyJ4_ok nmJ4 rfl dJ5_init_d00df_14 (v := va_rf r1) (by cases r1 <;> rfl) (by cases r1 <;> rfl) w (fun h H locs S w => ?_)
    refine ql_aload_n (r := (some a0)) C dJ5_init_d00df_17 rfl (lv_at hl 0 rfl) ?_
    refine lv_iconst (v := (0 : Int32)) C.1.1 C.1.2.1 dJ5_init_d00df_18 (by decide) ?_
    refine ql_putV C S qf_1_1 gw_250 (tyJ4) tyJ4_ok nmJ4 rfl dJ5_init_d00df_19 (v := .int (0 : Int32)) rfl rfl w (fun h H locs S w => ?_)
    refine lv_goto (tgt := 38) C.1.1 C.1.2.1 dJ5_init_d00df_22 (by decide) ?_
    exact ql_vret C S hr hlocks dJ5_init_d00df_38 ⟨Nat.le_of_ble_eq_true rfl, Nat.le_of_ble_eq_true rfl⟩ w
def qw_J4_init_da8c8 (a0 : Nat) (h : ql_H) (Q : ql_H → Prop) : Prop :=
ql_nn (some a0) fun b0 => qw_J5_init_d00df b0 (16 : Int32) h (fun h =>
Q h)
set_option maxHeartbeats 4000000 in
set_option maxRecDepth 100000 in
theorem qm_J4_init_da8c8 (l : Launch) (hl9 : l.stackTraces = false) (D : ql_D) (h0 : ql_H) (a0 : Nat) (Q : ql_H → Prop) (X : String → ql_H → Prop) (w : qw_J4_init_da8c8 a0 h0 Q) : ql_M D l yJ4_init_da8c8 cJ4_init_da8c8 1 none ({ frames := 5, cells := 1, slots := 16, locals := 77 } : Room) h0 [.ref a0] (ql_rV Q) X 1 16 := by
  refine ql_ofW (by decide +kernel) (Nat.le_of_ble_eq_true rfl) ?_
  intro p e s m below meth c ls C hr hlocks hnm htab S hl
  have hl : lv_has ls 1 [(0, .ref a0)] := hl
  unfold qw_J4_init_da8c8 at w
  refine ql_aload_n (r := (some a0)) C dJ4_init_da8c8_0 rfl (lv_at hl 0 rfl) ?_
  refine lv_bipush (v := (16 : Int32)) C.1.1 C.1.2.1 dJ4_init_da8c8_1 (by decide) ?_
  refine ql_I0 (As := [.int (16 : Int32)]) (rest := []) C S htab hlocks hl qy_J5_init_d00df qi_J5_init_d00df rfl gw_236 w (fun b w => qm_J5_init_d00df l hl9 D _ b (16 : Int32) _ _ w) rfl ⟨Nat.le_of_ble_eq_true rfl, Nat.le_of_ble_eq_true rfl⟩ ⟨rfl, rfl⟩ (by exact Nat.le_of_ble_eq_true rfl) (fun b e9 => by cases e9; rfl) dJ4_init_da8c8_3 ⟨Nat.le_of_ble_eq_true rfl, Nat.le_of_ble_eq_true rfl⟩ ⟨Nat.le_of_ble_eq_true rfl, Nat.le_of_ble_eq_true rfl⟩ (fun h H locs S w => ?_)
  refine W.cs (cells' := 1) (slots' := 16) rfl rfl ?_
  exact ql_vret C S hr hlocks dJ4_init_da8c8_6 ⟨Nat.le_of_ble_eq_true rfl, Nat.le_of_ble_eq_true rfl⟩ w
def qw_X8_init_36 (σ : Nat → Nat) (a0 : Nat) (Q : ql_H → Prop) : Nat → Int32 → ql_H → Prop
  | 0, _, _ => False
  | n + 1, xl1, h =>
    ql_gR h (some a0) 10 1 fun r1 =>
    ql_len h r1 7 fun x2 =>
    if x2 ≤ xl1 then (Q h) else (ql_gR h (some a0) 10 1 fun r3 =>
    ql_nw h (.inr (7, [.null, .int 0, .int 0, .int 0])) fun r4 h =>
    ql_nn r4 fun b4 => qw_X4_init σ b4  h (fun h =>
    ql_sR h r3 7 7 xl1 r4 fun h =>
    qw_X8_init_36 σ a0 Q n (xl1 + (1 : Int32)) h))
def qw_X8_init (σ : Nat → Nat) (a0 : Nat) (h : ql_H) (Q : ql_H → Prop) : Prop :=
ql_nw h (.inr (1, [.null, .int 0, .int 0, .int 0])) fun r6 h =>
ql_nn r6 fun b6 => qw_J4_init_da8c8 b6  h (fun h =>
ql_pV h (some a0) 10 0 (va_rf r6) fun h =>
ql_nw h (.inl (7, 12, .inr (.inr (.inr (.inr (fun _ => none)))))) fun r8 h =>
ql_pV h (some a0) 10 1 (va_rf r8) fun h =>
ql_pV h (some a0) 10 2 (.int (0 : Int32)) fun h =>
ql_pV h (some a0) 10 3 (.int (0 : Int32)) fun h =>
qw_X8_init_36 σ a0 Q 13 (0 : Int32) h)
set_option maxHeartbeats 4000000 in
set_option maxRecDepth 100000 in
theorem qm_X8_init (l : Launch) (hl9 : l.stackTraces = false) (D : ql_D) (h0 : ql_H) (a0 : Nat) (Q : ql_H → Prop) (X : String → ql_H → Prop) (w : qw_X8_init D.2 a0 h0 Q) : ql_M D l yX8_init cX8_init 2 none ({ frames := 7, cells := 17, slots := 88, locals := 105 } : Room) h0 [.ref a0] (ql_rV Q) X 17 88 := by
  refine ql_ofW (by decide) (Nat.le_of_ble_eq_true rfl) ?_
  intro p e s m below meth c ls C hr hlocks hnm htab S hl
  have hl : lv_has ls 2 [(0, .ref a0)] := hl
  have hB36 : ∀ n : Nat, n ≤ 13 → ∀ (xl1 : Int32) (h : ql_H) (H : Heap) (locs : List Loc) (ls : Array Slot), ql_S D h0 s H locs h → lv_has ls 2 [(0, .ref a0), (1, .int xl1)] → qw_X8_init_36 D.2 a0 Q n xl1 h → W p l e ({ frames := 7, cells := 17, slots := 88, locals := 105 } : Room) s m ([.ref a0] : List Value).toArray below meth c H locs (3 + (13 - n) * 1) (32 + (13 - n) * 4) (vx_MQ below (ql_Q D h0 (ql_rV Q)) (ql_X D h0 X) ([.ref a0] : List Value).toArray s 17 88 (ql_A h0)) (F0 m 36 ls []) := by
    intro n
    induction n with
    | zero => intro _ xl1 h H locs ls S hl w; rw [qw_X8_init_36] at w; exact w.elim
    | succ n ih =>
      intro hn9 xl1 h H locs ls S hl w
      rw [qw_X8_init_36] at w
      refine lv_iload_n C.1.1 C.1.2.1 dX8_init_36 rfl (lv_at hl 1 rfl) ?_
      refine ql_aload_n (r := (some a0)) C dX8_init_37 rfl (lv_at hl 0 rfl) ?_
      refine ql_getR C S qf_10_1 gw_291 dX8_init_38 w (fun r1 w => ?_)
      refine ql_alen (kd := 7) C S rfl dX8_init_41 w (fun x2 w => ?_)
      refine lv_icmp_ge (tgt := 64) C.1.1 C.1.2.1 dX8_init_42 (by decide) (fun c9 => ?_) (fun c9 => ?_)
      · replace w := ql_if w c9
        exact ql_vret C S hr hlocks dX8_init_64 ⟨(by show _ ≤ (17 : Nat); omega), (by show _ ≤ (88 : Nat); omega)⟩ w
      · replace w := ql_ifn w c9
        refine ql_aload_n (r := (some a0)) C dX8_init_45 rfl (lv_at hl 0 rfl) ?_
        refine ql_getR C S qf_10_1 gw_291 dX8_init_46 w (fun r3 w => ?_)
        refine lv_iload_n C.1.1 C.1.2.1 dX8_init_49 rfl (lv_at hl 1 rfl) ?_
        refine ql_new (ci := 7) (fs := [.null, .int 0, .int 0, .int 0]) C S rfl qlay_7 tyX4 tyX4_ok gw_264 gw_266 gw_80 (fun j hj => by rcases (show j = 0 ∨ j = 1 ∨ j = 2 ∨ j = 3 by omega) with rfl | rfl | rfl | rfl <;> rfl) ⟨(by show _ ≤ (17 : Nat); omega), (by show _ ≤ (88 : Nat); omega)⟩ dX8_init_50 w (fun r4 h H S w => ?_)
        refine W.cs (cells' := (4 + (13 - (n + 1)) * 1)) (slots' := (36 + (13 - (n + 1)) * 4)) (by omega) (by omega) ?_
        refine lv_dup C.1.1 C.1.2.1 dX8_init_53 (ql_catR _) ?_
        refine ql_IN0 (As := []) (rest := [va_rf r4, .int xl1, va_rf r3]) C S htab hlocks hl qy_X4_init qi_X4_init rfl (qn_RX8_31) w (fun b w => qm_X4_init l hl9 D _ b _ _ w) rfl ⟨Nat.le_of_ble_eq_true rfl, Nat.le_of_ble_eq_true rfl⟩ ⟨rfl, rfl⟩ (by generalize r3 = z0; generalize r4 = z1; cases z0 <;> cases z1 <;> exact Nat.le_of_ble_eq_true rfl) (fun b e9 => by cases e9; rfl) dX8_init_54 ⟨(by show _ ≤ (17 : Nat); omega), (by show _ ≤ (88 : Nat); omega)⟩ ⟨(by show _ ≤ (17 : Nat); omega), (by show _ ≤ (88 : Nat); omega)⟩ (fun h H locs S w => ?_)
        refine W.cs (cells' := (4 + (13 - (n + 1)) * 1)) (slots' := (36 + (13 - (n + 1)) * 4)) (by omega) (by omega) ?_
        refine ql_aast (kd := 7) (ci := 7) C S rfl rfl dX8_init_57 w (fun h H locs S w => ?_)
        refine lv_iinc (v := (xl1 + (1 : Int32))) (lv' := [(1, .int (xl1 + (1 : Int32))), (0, .ref a0)]) C.1.1 C.1.2.1 dX8_init_58 hl (k := 1) rfl rfl (by decide) rfl (fun ls hl => ?_)
        refine lv_goto (tgt := 36) C.1.1 C.1.2.1 dX8_init_61 (by decide) ?_
        refine W.cs (cells' := (3 + (13 - n) * 1)) (slots' := (32 + (13 - n) * 4)) (by omega) (by omega) ?_
        exact ih (by omega) (xl1 + (1 : Int32)) _ _ _ _ S (lv_sub hl [1, 0] rfl) w
  unfold qw_X8_init at w
  refine ql_aload_n (r := (some a0)) C dX8_init_0 rfl (lv_at hl 0 rfl) ?_
  refine ql_objInit C hl gw_230 gw_114 gw_115 dX8_init_1 (Nat.le_of_ble_eq_true rfl) (by exact Nat.le_of_ble_eq_true rfl) ?_
  refine ql_aload_n (r := (some a0)) C dX8_init_4 rfl (lv_at hl 0 rfl) ?_
  refine ql_new (ci := 1) (fs := [.null, .int 0, .int 0, .int 0]) C S rfl qlay_1 tyJ4 tyJ4_ok gw_231 gw_232 gw_77 (fun j hj => by rcases (show j = 0 ∨ j = 1 ∨ j = 2 ∨ j = 3 by omega) with rfl | rfl | rfl | rfl <;> rfl) ⟨Nat.le_of_ble_eq_true rfl, Nat.le_of_ble_eq_true rfl⟩ dX8_init_5 w (fun r6 h H S w => ?_)
  refine W.cs (cells' := 1) (slots' := 4) rfl rfl ?_
  refine lv_dup C.1.1 C.1.2.1 dX8_init_8 (ql_catR _) ?_
  refine ql_I0 (As := []) (rest := [va_rf r6, .ref a0]) C S htab hlocks hl qy_J4_init_da8c8 qi_J4_init_da8c8 rfl gw_233 w (fun b w => qm_J4_init_da8c8 l hl9 D _ b _ _ w) rfl ⟨Nat.le_of_ble_eq_true rfl, Nat.le_of_ble_eq_true rfl⟩ ⟨rfl, rfl⟩ (by generalize r6 = z0; cases z0 <;> exact Nat.le_of_ble_eq_true rfl) (fun b e9 => by cases e9; rfl) dX8_init_9 ⟨Nat.le_of_ble_eq_true rfl, Nat.le_of_ble_eq_true rfl⟩ ⟨Nat.le_of_ble_eq_true rfl, Nat.le_of_ble_eq_true rfl⟩ (fun h H locs S w => ?_)
  refine W.cs (cells' := 2) (slots' := 20) rfl rfl ?_
  refine ql_putVF C S qf_10_0 gw_290 (tyX8) tyX8_ok nmX8 rfl hnm rfl dX8_init_12 (v := va_rf r6) (by cases r6 <;> rfl) (by cases r6 <;> rfl) w (fun h H locs S w => ?_)
  refine ql_aload_n (r := (some a0)) C dX8_init_15 rfl (lv_at hl 0 rfl) ?_
  refine lv_bipush (v := (12 : Int32)) C.1.1 C.1.2.1 dX8_init_16 (by decide) ?_
  refine ql_newq (kd := 7) (N := 12) C S gw_264 (by decide) rfl (by decide) (by decide) (by decide) ⟨Nat.le_of_ble_eq_true rfl, Nat.le_of_ble_eq_true rfl⟩ dX8_init_18 w (fun r8 h H S w => ?_)
  refine W.cs (cells' := 3) (slots' := 32) rfl rfl ?_
  refine ql_putVF C S qf_10_1 gw_291 (tyX8) tyX8_ok nmX8 rfl hnm rfl dX8_init_21 (v := va_rf r8) (by cases r8 <;> rfl) (by cases r8 <;> rfl) w (fun h H locs S w => ?_)
  refine ql_aload_n (r := (some a0)) C dX8_init_24 rfl (lv_at hl 0 rfl) ?_
  refine lv_iconst (v := (0 : Int32)) C.1.1 C.1.2.1 dX8_init_25 (by decide) ?_
  refine ql_putV C S qf_10_2 gw_292 (tyX8) tyX8_ok nmX8 rfl dX8_init_26 (v := .int (0 : Int32)) rfl rfl w (fun h H locs S w => ?_)
  refine ql_aload_n (r := (some a0)) C dX8_init_29 rfl (lv_at hl 0 rfl) ?_
  refine lv_iconst (v := (0 : Int32)) C.1.1 C.1.2.1 dX8_init_30 (by decide) ?_
  refine ql_putV C S qf_10_3 gw_294 (tyX8) tyX8_ok nmX8 rfl dX8_init_31 (v := .int (0 : Int32)) rfl rfl w (fun h H locs S w => ?_)
  refine lv_iconst (v := (0 : Int32)) C.1.1 C.1.2.1 dX8_init_34 (by decide) ?_
  refine lv_istore_n (lv' := [(1, .int (0 : Int32)), (0, .ref a0)]) C.1.1 C.1.2.1 dX8_init_35 rfl hl (by decide) rfl (fun ls hl => ?_)
  refine W.cs (cells' := (3 + (13 - 13) * 1)) (slots' := (32 + (13 - 13) * 4)) (by omega) (by omega) ?_
  exact hB36 13 (Nat.le_refl _) (0 : Int32) _ _ _ _ S (lv_sub hl [1, 0] rfl) w
def qw_J5_length_8abf5 (a0 : Nat) (h : ql_H) (Q : Int32 → ql_H → Prop) : Prop :=
ql_gI h (some a0) 1 3 fun x1 =>
Q x1 h
set_option maxHeartbeats 4000000 in
set_option maxRecDepth 100000 in
theorem qm_J5_length_8abf5 (l : Launch) (hl9 : l.stackTraces = false) (D : ql_D) (h0 : ql_H) (a0 : Nat) (Q : Int32 → ql_H → Prop) (X : String → ql_H → Prop) (w : qw_J5_length_8abf5 a0 h0 Q) : ql_M D l yJ5_length_8abf5 cJ5_length_8abf5 1 (some .int) ({ frames := 2, cells := 0, slots := 0, locals := 48 } : Room) h0 [.ref a0] (ql_rI Q) X 0 0 := by
  refine ql_ofW (by decide +kernel) (Nat.le_of_ble_eq_true rfl) ?_
  intro p e s m below meth c ls C hr hlocks hnm htab S hl
  have hl : lv_has ls 1 [(0, .ref a0)] := hl
  unfold qw_J5_length_8abf5 at w
  refine ql_aload_n (r := (some a0)) C dJ5_length_8abf5_0 rfl (lv_at hl 0 rfl) ?_
  refine ql_getI C S qf_1_3 gw_253 dJ5_length_8abf5_1 w (fun x1 w => ?_)
  exact ql_iret C S hr hlocks dJ5_length_8abf5_4 ⟨Nat.le_of_ble_eq_true rfl, Nat.le_of_ble_eq_true rfl⟩ w
def qw_J4_length_8abf5 (a0 : Nat) (h : ql_H) (Q : Int32 → ql_H → Prop) : Prop :=
ql_rv h (some a0) 1 fun b1 => qw_J5_length_8abf5 b1  h (fun x1 h =>
Q x1 h)
set_option maxHeartbeats 4000000 in
set_option maxRecDepth 100000 in
theorem qm_J4_length_8abf5 (l : Launch) (hl9 : l.stackTraces = false) (D : ql_D) (h0 : ql_H) (a0 : Nat) (Q : Int32 → ql_H → Prop) (X : String → ql_H → Prop) (w : qw_J4_length_8abf5 a0 h0 Q) : ql_M D l yJ4_length_8abf5 cJ4_length_8abf5 1 (some .int) ({ frames := 4, cells := 0, slots := 0, locals := 76 } : Room) h0 [.ref a0] (ql_rI Q) X 0 0 := by
  refine ql_ofW (by decide +kernel) (Nat.le_of_ble_eq_true rfl) ?_
  intro p e s m below meth c ls C hr hlocks hnm htab S hl
  have hl : lv_has ls 1 [(0, .ref a0)] := hl
  unfold qw_J4_length_8abf5 at w
  refine ql_aload_n (r := (some a0)) C dJ4_length_8abf5_0 rfl (lv_at hl 0 rfl) ?_
  refine ql_PI (As := []) (rest := []) C S htab hlocks hl qy_J5_length_8abf5 qi_J5_length_8abf5 gw_1381 gw_262 (by decide) gw_1385 (ci := 1) (Cn := "java/lang/StringBuilder") rfl rfl w (fun b w => qm_J5_length_8abf5 l hl9 D _ b _ _ w) rfl ⟨Nat.le_of_ble_eq_true rfl, Nat.le_of_ble_eq_true rfl⟩ ⟨rfl, rfl⟩ (by exact Nat.le_of_ble_eq_true rfl) (fun b e9 => by cases e9; rfl) dJ4_length_8abf5_1 ⟨Nat.le_of_ble_eq_true rfl, Nat.le_of_ble_eq_true rfl⟩ ⟨Nat.le_of_ble_eq_true rfl, Nat.le_of_ble_eq_true rfl⟩ (fun x1 h H locs S w => ?_)
  refine W.cs (cells' := 0) (slots' := 0) rfl rfl ?_
  exact ql_iret C S hr hlocks dJ4_length_8abf5_4 ⟨Nat.le_of_ble_eq_true rfl, Nat.le_of_ble_eq_true rfl⟩ w
def qw_X8_isFull (a0 : Nat) (h : ql_H) (Q : Int32 → ql_H → Prop) : Prop :=
ql_gR h (some a0) 10 0 fun r1 =>
ql_rv h r1 1 fun b2 => qw_J4_length_8abf5 b2  h (fun x2 h =>
if x2 < (60 : Int32) then (ql_nz .boolean (0 : Int32) ∧ Q (0 : Int32) h) else (ql_nz .boolean (1 : Int32) ∧ Q (1 : Int32) h))
set_option maxHeartbeats 4000000 in
set_option maxRecDepth 100000 in
theorem qm_X8_isFull (l : Launch) (hl9 : l.stackTraces = false) (D : ql_D) (h0 : ql_H) (a0 : Nat) (Q : Int32 → ql_H → Prop) (X : String → ql_H → Prop) (w : qw_X8_isFull a0 h0 Q) : ql_M D l yX8_isFull cX8_isFull 1 (some .boolean) ({ frames := 6, cells := 0, slots := 0, locals := 104 } : Room) h0 [.ref a0] (ql_rI Q) X 0 0 := by
  refine ql_ofW (by decide) (Nat.le_of_ble_eq_true rfl) ?_
  intro p e s m below meth c ls C hr hlocks hnm htab S hl
  have hl : lv_has ls 1 [(0, .ref a0)] := hl
  unfold qw_X8_isFull at w
  refine ql_aload_n (r := (some a0)) C dX8_isFull_0 rfl (lv_at hl 0 rfl) ?_
  refine ql_getR C S qf_10_0 gw_290 dX8_isFull_1 w (fun r1 w => ?_)
  refine ql_VI (As := []) (rest := []) C S htab hlocks hl qy_J4_length_8abf5 qi_J4_length_8abf5 qs_J4_length_8abf5 gw_1518 (ci := 1) rfl w (fun b w => qm_J4_length_8abf5 l hl9 D _ b _ _ w) rfl ⟨Nat.le_of_ble_eq_true rfl, Nat.le_of_ble_eq_true rfl⟩ ⟨rfl, rfl⟩ (by exact Nat.le_of_ble_eq_true rfl) (fun b e9 => by cases e9; rfl) dX8_isFull_4 ⟨Nat.le_of_ble_eq_true rfl, Nat.le_of_ble_eq_true rfl⟩ ⟨Nat.le_of_ble_eq_true rfl, Nat.le_of_ble_eq_true rfl⟩ (fun x2 h H locs S w => ?_)
  refine W.cs (cells' := 0) (slots' := 0) rfl rfl ?_
  refine lv_bipush (v := (60 : Int32)) C.1.1 C.1.2.1 dX8_isFull_7 (by decide) ?_
  refine lv_icmp_lt (tgt := 16) C.1.1 C.1.2.1 dX8_isFull_9 (by decide) (fun c9 => ?_) (fun c9 => ?_)
  · replace w := ql_if w c9
    refine lv_iconst (v := (0 : Int32)) C.1.1 C.1.2.1 dX8_isFull_16 (by decide) ?_
    exact ql_zret C S hr hlocks dX8_isFull_17 ⟨Nat.le_of_ble_eq_true rfl, Nat.le_of_ble_eq_true rfl⟩ w
  · replace w := ql_ifn w c9
    refine lv_iconst (v := (1 : Int32)) C.1.1 C.1.2.1 dX8_isFull_12 (by decide) ?_
    refine lv_goto (tgt := 17) C.1.1 C.1.2.1 dX8_isFull_13 (by decide) ?_
    exact ql_zret C S hr hlocks dX8_isFull_17 ⟨Nat.le_of_ble_eq_true rfl, Nat.le_of_ble_eq_true rfl⟩ w
def qw_J9_max_7cf53 (xp0 : Int32) (xp1 : Int32) (h : ql_H) (Q : Int32 → ql_H → Prop) : Prop :=
if xp0 < xp1 then (Q xp1 h) else (Q xp0 h)
set_option maxHeartbeats 4000000 in
set_option maxRecDepth 100000 in
theorem qm_J9_max_7cf53 (l : Launch) (hl9 : l.stackTraces = false) (D : ql_D) (h0 : ql_H) (xp0 : Int32) (xp1 : Int32) (Q : Int32 → ql_H → Prop) (X : String → ql_H → Prop) (w : qw_J9_max_7cf53 xp0 xp1 h0 Q) : ql_M D l yJ9_max_7cf53 cJ9_max_7cf53 2 (some .int) ({ frames := 2, cells := 0, slots := 0, locals := 48 } : Room) h0 [.int xp0, .int xp1] (ql_rI Q) X 0 0 := by
  refine ql_ofW (by decide +kernel) (Nat.le_of_ble_eq_true rfl) ?_
  intro p e s m below meth c ls C hr hlocks hnm htab S hl
  have hl : lv_has ls 2 [(0, .int xp0), (1, .int xp1)] := hl
  unfold qw_J9_max_7cf53 at w
  refine lv_iload_n C.1.1 C.1.2.1 dJ9_max_7cf53_0 rfl (lv_at hl 0 rfl) ?_
  refine lv_iload_n C.1.1 C.1.2.1 dJ9_max_7cf53_1 rfl (lv_at hl 1 rfl) ?_
  refine lv_icmp_lt (tgt := 9) C.1.1 C.1.2.1 dJ9_max_7cf53_2 (by decide) (fun c9 => ?_) (fun c9 => ?_)
  · replace w := ql_if w c9
    refine lv_iload_n C.1.1 C.1.2.1 dJ9_max_7cf53_9 rfl (lv_at hl 1 rfl) ?_
    exact ql_iret C S hr hlocks dJ9_max_7cf53_10 ⟨Nat.le_of_ble_eq_true rfl, Nat.le_of_ble_eq_true rfl⟩ w
  · replace w := ql_ifn w c9
    refine lv_iload_n C.1.1 C.1.2.1 dJ9_max_7cf53_5 rfl (lv_at hl 0 rfl) ?_
    refine lv_goto (tgt := 10) C.1.1 C.1.2.1 dJ9_max_7cf53_6 (by decide) ?_
    exact ql_iret C S hr hlocks dJ9_max_7cf53_10 ⟨Nat.le_of_ble_eq_true rfl, Nat.le_of_ble_eq_true rfl⟩ w
def qw_J8_newLength_cabcc_21 (Q : Int32 → ql_H → Prop) (xl0 : Int32) (xl1 : Int32) (h : ql_H) : Prop :=
False
def qw_J8_newLength_cabcc (xp0 : Int32) (xp1 : Int32) (xp2 : Int32) (h : ql_H) (Q : Int32 → ql_H → Prop) : Prop :=
qw_J9_max_7cf53 xp1 xp2 h (fun x1 h =>
if (xp0 + x1) ≤ (0 : Int32) then (qw_J8_newLength_cabcc_21 Q xp0 xp1 h) else (if (2147483639 : Int32) < (xp0 + x1) then (qw_J8_newLength_cabcc_21 Q xp0 xp1 h) else (Q (xp0 + x1) h)))
set_option maxHeartbeats 4000000 in
set_option maxRecDepth 100000 in
theorem qm_J8_newLength_cabcc (l : Launch) (hl9 : l.stackTraces = false) (D : ql_D) (h0 : ql_H) (xp0 : Int32) (xp1 : Int32) (xp2 : Int32) (Q : Int32 → ql_H → Prop) (X : String → ql_H → Prop) (w : qw_J8_newLength_cabcc xp0 xp1 xp2 h0 Q) : ql_M D l yJ8_newLength_cabcc cJ8_newLength_cabcc 4 (some .int) ({ frames := 4, cells := 0, slots := 0, locals := 77 } : Room) h0 [.int xp0, .int xp1, .int xp2] (ql_rI Q) X 0 0 := by
  refine ql_ofW (by decide +kernel) (Nat.le_of_ble_eq_true rfl) ?_
  intro p e s m below meth c ls C hr hlocks hnm htab S hl
  have hl : lv_has ls 4 [(0, .int xp0), (1, .int xp1), (2, .int xp2)] := hl
  have hB21 : ∀ (xl0 : Int32) (xl1 : Int32) (h : ql_H) (H : Heap) (locs : List Loc) (ls : Array Slot), ql_S D h0 s H locs h → lv_has ls 4 [(0, .int xl0), (1, .int xl1)] → qw_J8_newLength_cabcc_21 Q xl0 xl1 h → W p l e ({ frames := 4, cells := 0, slots := 0, locals := 77 } : Room) s m ([.int xp0, .int xp1, .int xp2] : List Value).toArray below meth c H locs 0 0 (vx_MQ below (ql_Q D h0 (ql_rI Q)) (ql_X D h0 X) ([.int xp0, .int xp1, .int xp2] : List Value).toArray s 0 0 (ql_A h0)) (F0 m 21 ls []) := by
    intro xl0 xl1 h H locs ls S hl w
    unfold qw_J8_newLength_cabcc_21 at w
    refine lv_iload_n C.1.1 C.1.2.1 dJ8_newLength_cabcc_21 rfl (lv_at hl 0 rfl) ?_
    refine lv_iload_n C.1.1 C.1.2.1 dJ8_newLength_cabcc_22 rfl (lv_at hl 1 rfl) ?_
    exact w.elim
  unfold qw_J8_newLength_cabcc at w
  refine lv_iload_n C.1.1 C.1.2.1 dJ8_newLength_cabcc_0 rfl (lv_at hl 0 rfl) ?_
  refine lv_iload_n C.1.1 C.1.2.1 dJ8_newLength_cabcc_1 rfl (lv_at hl 1 rfl) ?_
  refine lv_iload_n C.1.1 C.1.2.1 dJ8_newLength_cabcc_2 rfl (lv_at hl 2 rfl) ?_
  refine ql_SI (As := [.int xp1, .int xp2]) (rest := [.int xp0]) C S htab hlocks hl qy_J9_max_7cf53 qi_J9_max_7cf53 gw_1243 (qm_J9_max_7cf53 l hl9 D _ xp1 xp2 _ _ w) rfl ⟨Nat.le_of_ble_eq_true rfl, Nat.le_of_ble_eq_true rfl⟩ ⟨rfl, rfl⟩ (by exact Nat.le_of_ble_eq_true rfl) rfl dJ8_newLength_cabcc_3 ⟨Nat.le_of_ble_eq_true rfl, Nat.le_of_ble_eq_true rfl⟩ ⟨Nat.le_of_ble_eq_true rfl, Nat.le_of_ble_eq_true rfl⟩ (fun x1 h H locs S w => ?_)
  refine W.cs (cells' := 0) (slots' := 0) rfl rfl ?_
  refine lv_iadd C.1.1 C.1.2.1 dJ8_newLength_cabcc_6 ?_
  refine lv_istore_n (lv' := [(3, .int (xp0 + x1)), (0, .int xp0), (1, .int xp1), (2, .int xp2)]) C.1.1 C.1.2.1 dJ8_newLength_cabcc_7 rfl hl (by decide) rfl (fun ls hl => ?_)
  refine lv_iconst (v := (0 : Int32)) C.1.1 C.1.2.1 dJ8_newLength_cabcc_8 (by decide) ?_
  refine lv_iload_n C.1.1 C.1.2.1 dJ8_newLength_cabcc_9 rfl (lv_at hl 0 rfl) ?_
  refine lv_icmp_ge (tgt := 21) C.1.1 C.1.2.1 dJ8_newLength_cabcc_10 (by decide) (fun c9 => ?_) (fun c9 => ?_)
  · replace w := ql_if w c9
    exact hB21 xp0 xp1 _ _ _ _ S (lv_sub hl [1, 2] rfl) w
  · replace w := ql_ifn w c9
    refine lv_iload_n C.1.1 C.1.2.1 dJ8_newLength_cabcc_13 rfl (lv_at hl 0 rfl) ?_
    refine lv_ldc (v := (2147483639 : Int32)) C.1.1 C.1.2.1 C.1.2.2.2.1 (C.1.2.2.2.2 _ gw_1246) dJ8_newLength_cabcc_14 ?_
    refine lv_icmp_gt (tgt := 21) C.1.1 C.1.2.1 dJ8_newLength_cabcc_16 (by decide) (fun c9 => ?_) (fun c9 => ?_)
    · replace w := ql_if w c9
      exact hB21 xp0 xp1 _ _ _ _ S (lv_sub hl [1, 2] rfl) w
    · replace w := ql_ifn w c9
      refine lv_iload_n C.1.1 C.1.2.1 dJ8_newLength_cabcc_19 rfl (lv_at hl 0 rfl) ?_
      exact ql_iret C S hr hlocks dJ8_newLength_cabcc_20 ⟨Nat.le_of_ble_eq_true rfl, Nat.le_of_ble_eq_true rfl⟩ w
def qw_J5_newCapacity_0f7a4 (a0 : Nat) (xp1 : Int32) (h : ql_H) (Q : Int32 → ql_H → Prop) : Prop :=
ql_gR h (some a0) 1 0 fun r1 =>
ql_len h r1 3 fun x2 =>
ql_gI h (some a0) 1 1 fun x3 =>
ql_gI h (some a0) 1 1 fun x4 =>
qw_J8_newLength_cabcc x2 ((xp1 <<< (x3 &&& 31)) - x2) (x2 + ((2 : Int32) <<< (x4 &&& 31))) h (fun x5 h =>
if x5 = (2147483647 : Int32) then (False) else (ql_gI h (some a0) 1 1 fun x6 =>
Q (x5 >>> (x6 &&& 31)) h))
set_option maxHeartbeats 4000000 in
set_option maxRecDepth 100000 in
theorem qm_J5_newCapacity_0f7a4 (l : Launch) (hl9 : l.stackTraces = false) (D : ql_D) (h0 : ql_H) (a0 : Nat) (xp1 : Int32) (Q : Int32 → ql_H → Prop) (X : String → ql_H → Prop) (w : qw_J5_newCapacity_0f7a4 a0 xp1 h0 Q) : ql_M D l yJ5_newCapacity_0f7a4 cJ5_newCapacity_0f7a4 6 (some .int) ({ frames := 6, cells := 0, slots := 0, locals := 108 } : Room) h0 [.ref a0, .int xp1] (ql_rI Q) X 0 0 := by
  refine ql_ofW (by decide +kernel) (Nat.le_of_ble_eq_true rfl) ?_
  intro p e s m below meth c ls C hr hlocks hnm htab S hl
  have hl : lv_has ls 6 [(0, .ref a0), (1, .int xp1)] := hl
  unfold qw_J5_newCapacity_0f7a4 at w
  refine ql_aload_n (r := (some a0)) C dJ5_newCapacity_0f7a4_0 rfl (lv_at hl 0 rfl) ?_
  refine ql_getR C S qf_1_0 gw_249 dJ5_newCapacity_0f7a4_1 w (fun r1 w => ?_)
  refine ql_alen (kd := 3) C S rfl dJ5_newCapacity_0f7a4_4 w (fun x2 w => ?_)
  refine lv_istore_n (lv' := [(2, .int x2), (0, .ref a0), (1, .int xp1)]) C.1.1 C.1.2.1 dJ5_newCapacity_0f7a4_5 rfl hl (by decide) rfl (fun ls hl => ?_)
  refine lv_iload_n C.1.1 C.1.2.1 dJ5_newCapacity_0f7a4_6 rfl (lv_at hl 2 rfl) ?_
  refine ql_aload_n (r := (some a0)) C dJ5_newCapacity_0f7a4_7 rfl (lv_at hl 1 rfl) ?_
  refine ql_getI C S qf_1_1 gw_250 dJ5_newCapacity_0f7a4_8 w (fun x3 w => ?_)
  refine lv_ishl C.1.1 C.1.2.1 dJ5_newCapacity_0f7a4_11 ?_
  refine lv_istore_n (lv' := [(3, .int (xp1 <<< (x3 &&& 31))), (2, .int x2), (0, .ref a0), (1, .int xp1)]) C.1.1 C.1.2.1 dJ5_newCapacity_0f7a4_12 rfl hl (by decide) rfl (fun ls hl => ?_)
  refine lv_iload_n C.1.1 C.1.2.1 dJ5_newCapacity_0f7a4_13 rfl (lv_at hl 0 rfl) ?_
  refine lv_iload_n C.1.1 C.1.2.1 dJ5_newCapacity_0f7a4_14 rfl (lv_at hl 1 rfl) ?_
  refine lv_isub C.1.1 C.1.2.1 dJ5_newCapacity_0f7a4_15 ?_
  refine lv_istore (lv' := [(4, .int ((xp1 <<< (x3 &&& 31)) - x2)), (3, .int (xp1 <<< (x3 &&& 31))), (2, .int x2), (0, .ref a0), (1, .int xp1)]) C.1.1 C.1.2.1 dJ5_newCapacity_0f7a4_16 hl (by decide) rfl (fun ls hl => ?_)
  refine lv_iload_n C.1.1 C.1.2.1 dJ5_newCapacity_0f7a4_18 rfl (lv_at hl 2 rfl) ?_
  refine lv_iload C.1.1 C.1.2.1 dJ5_newCapacity_0f7a4_19 (lv_at hl 0 rfl) ?_
  refine lv_iload_n C.1.1 C.1.2.1 dJ5_newCapacity_0f7a4_21 rfl (lv_at hl 2 rfl) ?_
  refine lv_iconst (v := (2 : Int32)) C.1.1 C.1.2.1 dJ5_newCapacity_0f7a4_22 (by decide) ?_
  refine ql_aload_n (r := (some a0)) C dJ5_newCapacity_0f7a4_23 rfl (lv_at hl 3 rfl) ?_
  refine ql_getI C S qf_1_1 gw_250 dJ5_newCapacity_0f7a4_24 w (fun x4 w => ?_)
  refine lv_ishl C.1.1 C.1.2.1 dJ5_newCapacity_0f7a4_27 ?_
  refine lv_iadd C.1.1 C.1.2.1 dJ5_newCapacity_0f7a4_28 ?_
  refine ql_SI (As := [.int x2, .int ((xp1 <<< (x3 &&& 31)) - x2), .int (x2 + ((2 : Int32) <<< (x4 &&& 31)))]) (rest := []) C S htab hlocks hl qy_J8_newLength_cabcc qi_J8_newLength_cabcc gw_1240 (qm_J8_newLength_cabcc l hl9 D _ x2 ((xp1 <<< (x3 &&& 31)) - x2) (x2 + ((2 : Int32) <<< (x4 &&& 31))) _ _ w) rfl ⟨Nat.le_of_ble_eq_true rfl, Nat.le_of_ble_eq_true rfl⟩ ⟨rfl, rfl⟩ (by exact Nat.le_of_ble_eq_true rfl) rfl dJ5_newCapacity_0f7a4_29 ⟨Nat.le_of_ble_eq_true rfl, Nat.le_of_ble_eq_true rfl⟩ ⟨Nat.le_of_ble_eq_true rfl, Nat.le_of_ble_eq_true rfl⟩ (fun x5 h H locs S w => ?_)
  refine W.cs (cells' := 0) (slots' := 0) rfl rfl ?_
  refine lv_istore (lv' := [(5, .int x5), (4, .int ((xp1 <<< (x3 &&& 31)) - x2)), (3, .int (xp1 <<< (x3 &&& 31))), (2, .int x2), (0, .ref a0), (1, .int xp1)]) C.1.1 C.1.2.1 dJ5_newCapacity_0f7a4_32 hl (by decide) rfl (fun ls hl => ?_)
  refine lv_iload C.1.1 C.1.2.1 dJ5_newCapacity_0f7a4_34 (lv_at hl 0 rfl) ?_
  refine lv_ldc (v := (2147483647 : Int32)) C.1.1 C.1.2.1 C.1.2.2.2.1 (C.1.2.2.2.2 _ gw_1250) dJ5_newCapacity_0f7a4_36 ?_
  refine lv_icmp_ne (tgt := 51) C.1.1 C.1.2.1 dJ5_newCapacity_0f7a4_38 (by decide) (fun c9 => ?_) (fun c9 => ?_)
  · replace w := ql_ifn w c9
    refine lv_iload C.1.1 C.1.2.1 dJ5_newCapacity_0f7a4_51 (lv_at hl 0 rfl) ?_
    refine ql_aload_n (r := (some a0)) C dJ5_newCapacity_0f7a4_53 rfl (lv_at hl 4 rfl) ?_
    refine ql_getI C S qf_1_1 gw_250 dJ5_newCapacity_0f7a4_54 w (fun x6 w => ?_)
    refine lv_ishr C.1.1 C.1.2.1 dJ5_newCapacity_0f7a4_57 ?_
    exact ql_iret C S hr hlocks dJ5_newCapacity_0f7a4_58 ⟨Nat.le_of_ble_eq_true rfl, Nat.le_of_ble_eq_true rfl⟩ w
  · replace w := ql_if w c9
    exact w.elim
def qw_J7_copyOf_9075b (rp0 : Option Nat) (xp1 : Int32) (h : ql_H) (Q : Option Nat → ql_H → Prop) : Prop :=
ql_len h rp0 3 fun x1 =>
if xp1 = x1 then (False) else ((¬ xp1 < 0 ∧ xp1.toNatClampNeg ≤ 256) ∧ ql_nw h (.inl (3, xp1.toNatClampNeg, .inl (fun _ => 0))) fun r2 h =>
ql_len h rp0 3 fun x3 =>
qw_J9_min_7cf53 x3 xp1 h (fun x4 h =>
ql_cpI h rp0 (0 : Int32) r2 (0 : Int32) x4 3 .byte fun h =>
Q r2 h))
set_option maxHeartbeats 4000000 in
set_option maxRecDepth 100000 in
theorem qm_J7_copyOf_9075b (l : Launch) (hl9 : l.stackTraces = false) (D : ql_D) (h0 : ql_H) (rp0 : Option Nat) (xp1 : Int32) (Q : Option Nat → ql_H → Prop) (X : String → ql_H → Prop) (w : qw_J7_copyOf_9075b rp0 xp1 h0 Q) : ql_M D l yJ7_copyOf_9075b cJ7_copyOf_9075b 3 (some (.array .byte)) ({ frames := 4, cells := 1, slots := 256, locals := 77 } : Room) h0 [va_rf rp0, .int xp1] (ql_rR Q) X 1 256 := by
  refine ql_ofW (by decide +kernel) (by cases rp0 <;> exact Nat.le_of_ble_eq_true rfl) ?_
  intro p e s m below meth c ls C hr hlocks hnm htab S hl
  rw [show lv_args 0 [va_rf rp0, .int xp1] = [(0, va_rf rp0), (1, .int xp1)] from by cases rp0 <;> rfl] at hl
  unfold qw_J7_copyOf_9075b at w
  refine lv_iload_n C.1.1 C.1.2.1 dJ7_copyOf_9075b_0 rfl (lv_at hl 1 rfl) ?_
  refine ql_aload_n (r := rp0) C dJ7_copyOf_9075b_1 rfl (lv_at hl 0 rfl) ?_
  refine ql_alen (kd := 3) C S rfl dJ7_copyOf_9075b_2 w (fun x1 w => ?_)
  refine lv_icmp_ne (tgt := 14) C.1.1 C.1.2.1 dJ7_copyOf_9075b_3 (by decide) (fun c9 => ?_) (fun c9 => ?_)
  · replace w := ql_ifn w c9
    refine lv_iload_n C.1.1 C.1.2.1 dJ7_copyOf_9075b_14 rfl (lv_at hl 1 rfl) ?_
    refine ql_newb (B := 256) C S gw_263 (by decide) ⟨Nat.le_of_ble_eq_true rfl, Nat.le_of_ble_eq_true rfl⟩ dJ7_copyOf_9075b_15 w (fun r2 h H S w => ?_)
    refine W.cs (cells' := 1) (slots' := 256) rfl rfl ?_
    refine ql_astore_n (lv' := [(2, va_rf r2), (0, va_rf rp0), (1, .int xp1)]) C dJ7_copyOf_9075b_17 rfl hl (by decide) rfl (fun ls hl => ?_)
    refine ql_aload_n (r := rp0) C dJ7_copyOf_9075b_18 rfl (lv_at hl 1 rfl) ?_
    refine lv_iconst (v := (0 : Int32)) C.1.1 C.1.2.1 dJ7_copyOf_9075b_19 (by decide) ?_
    refine ql_aload_n (r := r2) C dJ7_copyOf_9075b_20 rfl (lv_at hl 0 rfl) ?_
    refine lv_iconst (v := (0 : Int32)) C.1.1 C.1.2.1 dJ7_copyOf_9075b_21 (by decide) ?_
    refine ql_aload_n (r := rp0) C dJ7_copyOf_9075b_22 rfl (lv_at hl 1 rfl) ?_
    refine ql_alen (kd := 3) C S rfl dJ7_copyOf_9075b_23 w (fun x3 w => ?_)
    refine lv_iload_n C.1.1 C.1.2.1 dJ7_copyOf_9075b_24 rfl (lv_at hl 2 rfl) ?_
    refine ql_SI (As := [.int x3, .int xp1]) (rest := [.int (0 : Int32), va_rf r2, .int (0 : Int32), va_rf rp0]) C S htab hlocks hl qy_J9_min_7cf53 qi_J9_min_7cf53 gw_1261 (qm_J9_min_7cf53 l hl9 D _ x3 xp1 _ _ w) rfl ⟨Nat.le_of_ble_eq_true rfl, Nat.le_of_ble_eq_true rfl⟩ ⟨rfl, rfl⟩ (by generalize rp0 = z0; generalize r2 = z1; cases z0 <;> cases z1 <;> exact Nat.le_of_ble_eq_true rfl) rfl dJ7_copyOf_9075b_25 ⟨Nat.le_of_ble_eq_true rfl, Nat.le_of_ble_eq_true rfl⟩ ⟨Nat.le_of_ble_eq_true rfl, Nat.le_of_ble_eq_true rfl⟩ (fun x4 h H locs S w => ?_)
    refine W.cs (cells' := 1) (slots' := 256) rfl rfl ?_
    refine ql_copyI (kd := 3) (ty := .byte) C S hl rfl rfl ⟨gw_1262, gw_400, gw_399, gw_87⟩ (Nat.le_of_ble_eq_true rfl) (by exact Nat.le_of_ble_eq_true rfl) dJ7_copyOf_9075b_28 w (fun h H locs S w => ?_)
    refine ql_aload_n (r := r2) C dJ7_copyOf_9075b_31 rfl (lv_at hl 0 rfl) ?_
    exact ql_aretA C S hr hlocks dJ7_copyOf_9075b_32 ⟨Nat.le_of_ble_eq_true rfl, Nat.le_of_ble_eq_true rfl⟩ w
  · replace w := ql_if w c9
    refine ql_aload_n (r := rp0) C dJ7_copyOf_9075b_6 rfl (lv_at hl 0 rfl) ?_
    exact w.elim
def qw_J5_ensureCapacityInternal_d00df (a0 : Nat) (xp1 : Int32) (h : ql_H) (Q : ql_H → Prop) : Prop :=
ql_gR h (some a0) 1 0 fun r1 =>
ql_len h r1 3 fun x2 =>
ql_gI h (some a0) 1 1 fun x3 =>
if (xp1 - (x2 >>> (x3 &&& 31))) ≤ 0 then (Q h) else (ql_gR h (some a0) 1 0 fun r4 =>
ql_rv h (some a0) 1 fun b5 => qw_J5_newCapacity_0f7a4 b5 xp1 h (fun x5 h =>
ql_gI h (some a0) 1 1 fun x7 =>
qw_J7_copyOf_9075b r4 (x5 <<< (x7 &&& 31)) h (fun r8 h =>
ql_pV h (some a0) 1 0 (va_rf r8) fun h =>
Q h)))
set_option maxHeartbeats 4000000 in
set_option maxRecDepth 100000 in
theorem qm_J5_ensureCapacityInternal_d00df (l : Launch) (hl9 : l.stackTraces = false) (D : ql_D) (h0 : ql_H) (a0 : Nat) (xp1 : Int32) (Q : ql_H → Prop) (X : String → ql_H → Prop) (w : qw_J5_ensureCapacityInternal_d00df a0 xp1 h0 Q) : ql_M D l yJ5_ensureCapacityInternal_d00df cJ5_ensureCapacityInternal_d00df 3 none ({ frames := 8, cells := 1, slots := 256, locals := 141 } : Room) h0 [.ref a0, .int xp1] (ql_rV Q) X 1 256 := by
  refine ql_ofW (by decide +kernel) (Nat.le_of_ble_eq_true rfl) ?_
  intro p e s m below meth c ls C hr hlocks hnm htab S hl
  have hl : lv_has ls 3 [(0, .ref a0), (1, .int xp1)] := hl
  unfold qw_J5_ensureCapacityInternal_d00df at w
  refine ql_aload_n (r := (some a0)) C dJ5_ensureCapacityInternal_d00df_0 rfl (lv_at hl 0 rfl) ?_
  refine ql_getR C S qf_1_0 gw_249 dJ5_ensureCapacityInternal_d00df_1 w (fun r1 w => ?_)
  refine ql_alen (kd := 3) C S rfl dJ5_ensureCapacityInternal_d00df_4 w (fun x2 w => ?_)
  refine ql_aload_n (r := (some a0)) C dJ5_ensureCapacityInternal_d00df_5 rfl (lv_at hl 0 rfl) ?_
  refine ql_getI C S qf_1_1 gw_250 dJ5_ensureCapacityInternal_d00df_6 w (fun x3 w => ?_)
  refine lv_ishr C.1.1 C.1.2.1 dJ5_ensureCapacityInternal_d00df_9 ?_
  refine lv_istore_n (lv' := [(2, .int (x2 >>> (x3 &&& 31))), (0, .ref a0), (1, .int xp1)]) C.1.1 C.1.2.1 dJ5_ensureCapacityInternal_d00df_10 rfl hl (by decide) rfl (fun ls hl => ?_)
  refine lv_iload_n C.1.1 C.1.2.1 dJ5_ensureCapacityInternal_d00df_11 rfl (lv_at hl 2 rfl) ?_
  refine lv_iload_n C.1.1 C.1.2.1 dJ5_ensureCapacityInternal_d00df_12 rfl (lv_at hl 0 rfl) ?_
  refine lv_isub C.1.1 C.1.2.1 dJ5_ensureCapacityInternal_d00df_13 ?_
  refine lv_if_le (tgt := 38) C.1.1 C.1.2.1 dJ5_ensureCapacityInternal_d00df_14 (by decide) (fun c9 => ?_) (fun c9 => ?_)
  · replace w := ql_if w c9
    exact ql_vret C S hr hlocks dJ5_ensureCapacityInternal_d00df_38 ⟨Nat.le_of_ble_eq_true rfl, Nat.le_of_ble_eq_true rfl⟩ w
  · replace w := ql_ifn w c9
    refine ql_aload_n (r := (some a0)) C dJ5_ensureCapacityInternal_d00df_17 rfl (lv_at hl 1 rfl) ?_
    refine ql_aload_n (r := (some a0)) C dJ5_ensureCapacityInternal_d00df_18 rfl (lv_at hl 1 rfl) ?_
    refine ql_getR C S qf_1_0 gw_249 dJ5_ensureCapacityInternal_d00df_19 w (fun r4 w => ?_)
    refine ql_aload_n (r := (some a0)) C dJ5_ensureCapacityInternal_d00df_22 rfl (lv_at hl 1 rfl) ?_
    refine lv_iload_n C.1.1 C.1.2.1 dJ5_ensureCapacityInternal_d00df_23 rfl (lv_at hl 2 rfl) ?_
    refine ql_UI (As := [.int xp1]) (rest := [va_rf r4, .ref a0]) C S htab hlocks hl qy_J5_newCapacity_0f7a4 qi_J5_newCapacity_0f7a4 (Cn := "java/lang/StringBuilder") qx_nca gw_1236 (ci := 1) rfl w (fun b w => qm_J5_newCapacity_0f7a4 l hl9 D _ b xp1 _ _ w) rfl ⟨Nat.le_of_ble_eq_true rfl, Nat.le_of_ble_eq_true rfl⟩ ⟨rfl, rfl⟩ (by generalize r4 = z0; cases z0 <;> exact Nat.le_of_ble_eq_true rfl) (fun b e9 => by cases e9; rfl) dJ5_ensureCapacityInternal_d00df_24 ⟨Nat.le_of_ble_eq_true rfl, Nat.le_of_ble_eq_true rfl⟩ ⟨Nat.le_of_ble_eq_true rfl, Nat.le_of_ble_eq_true rfl⟩ (fun x5 h H locs S w => ?_)
    refine W.cs (cells' := 0) (slots' := 0) rfl rfl ?_
    refine ql_aload_n (r := (some a0)) C dJ5_ensureCapacityInternal_d00df_27 rfl (lv_at hl 1 rfl) ?_
    refine ql_getI C S qf_1_1 gw_250 dJ5_ensureCapacityInternal_d00df_28 w (fun x7 w => ?_)
    refine lv_ishl C.1.1 C.1.2.1 dJ5_ensureCapacityInternal_d00df_31 ?_
    refine ql_SR (As := [va_rf r4, .int (x5 <<< (x7 &&& 31))]) (rest := [.ref a0]) C S htab hlocks hl qy_J7_copyOf_9075b qi_J7_copyOf_9075b gw_1251 (qm_J7_copyOf_9075b l hl9 D _ r4 (x5 <<< (x7 &&& 31)) _ _ w) rfl ⟨Nat.le_of_ble_eq_true rfl, Nat.le_of_ble_eq_true rfl⟩ ⟨rfl, rfl⟩ (by exact Nat.le_of_ble_eq_true rfl) rfl dJ5_ensureCapacityInternal_d00df_32 ⟨Nat.le_of_ble_eq_true rfl, Nat.le_of_ble_eq_true rfl⟩ ⟨Nat.le_of_ble_eq_true rfl, Nat.le_of_ble_eq_true rfl⟩ (fun r8 h H locs S w => ?_)
    refine W.cs (cells' := 1) (slots' := 256) rfl rfl ?_
    refine ql_putV C S qf_1_0 gw_249 (tyJ4) tyJ4_ok nmJ4 rfl dJ5_ensureCapacityInternal_d00df_35 (v := va_rf r8) (by cases r8 <;> rfl) (by cases r8 <;> rfl) w (fun h H locs S w => ?_)
    exact ql_vret C S hr hlocks dJ5_ensureCapacityInternal_d00df_38 ⟨Nat.le_of_ble_eq_true rfl, Nat.le_of_ble_eq_true rfl⟩ w
def qw_J1_canEncode_fc78d (xp0 : Int32) (h : ql_H) (Q : Int32 → ql_H → Prop) : Prop :=
if (255 : Int32) < xp0 then (ql_nz .boolean (0 : Int32) ∧ Q (0 : Int32) h) else (ql_nz .boolean (1 : Int32) ∧ Q (1 : Int32) h)
set_option maxHeartbeats 4000000 in
set_option maxRecDepth 100000 in
theorem qm_J1_canEncode_fc78d (l : Launch) (hl9 : l.stackTraces = false) (D : ql_D) (h0 : ql_H) (xp0 : Int32) (Q : Int32 → ql_H → Prop) (X : String → ql_H → Prop) (w : qw_J1_canEncode_fc78d xp0 h0 Q) : ql_M D l yJ1_canEncode_fc78d cJ1_canEncode_fc78d 1 (some .boolean) ({ frames := 2, cells := 0, slots := 0, locals := 48 } : Room) h0 [.int xp0] (ql_rI Q) X 0 0 := by
  refine ql_ofW (by decide +kernel) (Nat.le_of_ble_eq_true rfl) ?_
  intro p e s m below meth c ls C hr hlocks hnm htab S hl
  have hl : lv_has ls 1 [(0, .int xp0)] := hl
  unfold qw_J1_canEncode_fc78d at w
  refine lv_iload_n C.1.1 C.1.2.1 dJ1_canEncode_fc78d_0 rfl (lv_at hl 0 rfl) ?_
  refine lv_sipush (v := (255 : Int32)) C.1.1 C.1.2.1 dJ1_canEncode_fc78d_1 (by decide) ?_
  refine lv_icmp_gt (tgt := 11) C.1.1 C.1.2.1 dJ1_canEncode_fc78d_4 (by decide) (fun c9 => ?_) (fun c9 => ?_)
  · replace w := ql_if w c9
    refine lv_iconst (v := (0 : Int32)) C.1.1 C.1.2.1 dJ1_canEncode_fc78d_11 (by decide) ?_
    exact ql_zret C S hr hlocks dJ1_canEncode_fc78d_12 ⟨Nat.le_of_ble_eq_true rfl, Nat.le_of_ble_eq_true rfl⟩ w
  · replace w := ql_ifn w c9
    refine lv_iconst (v := (1 : Int32)) C.1.1 C.1.2.1 dJ1_canEncode_fc78d_7 (by decide) ?_
    refine lv_goto (tgt := 12) C.1.1 C.1.2.1 dJ1_canEncode_fc78d_8 (by decide) ?_
    exact ql_zret C S hr hlocks dJ1_canEncode_fc78d_12 ⟨Nat.le_of_ble_eq_true rfl, Nat.le_of_ble_eq_true rfl⟩ w
def qw_J5_isLatin1_aae02 (a0 : Nat) (h : ql_H) (Q : Int32 → ql_H → Prop) : Prop :=
if (1 : Int32) = 0 then (ql_nz .boolean (0 : Int32) ∧ Q (0 : Int32) h) else (ql_gI h (some a0) 1 1 fun x1 =>
if x1 = 0 then (ql_nz .boolean (1 : Int32) ∧ Q (1 : Int32) h) else (ql_nz .boolean (0 : Int32) ∧ Q (0 : Int32) h))
set_option maxHeartbeats 4000000 in
set_option maxRecDepth 100000 in
theorem qm_J5_isLatin1_aae02 (l : Launch) (hl9 : l.stackTraces = false) (D : ql_D) (h0 : ql_H) (a0 : Nat) (Q : Int32 → ql_H → Prop) (X : String → ql_H → Prop) (w : qw_J5_isLatin1_aae02 a0 h0 Q) : ql_M D l yJ5_isLatin1_aae02 cJ5_isLatin1_aae02 1 (some .boolean) ({ frames := 2, cells := 0, slots := 0, locals := 48 } : Room) h0 [.ref a0] (ql_rI Q) X 0 0 := by
  refine ql_ofW (by decide +kernel) (Nat.le_of_ble_eq_true rfl) ?_
  intro p e s m below meth c ls C hr hlocks hnm htab S hl
  have hl : lv_has ls 1 [(0, .ref a0)] := hl
  unfold qw_J5_isLatin1_aae02 at w
  refine ql_gs C S C.z.1.1 gw_240 dJ5_isLatin1_aae02_0 ?_
  refine lv_if_eq (tgt := 17) C.1.1 C.1.2.1 dJ5_isLatin1_aae02_3 (by decide) (fun c9 => ?_) (fun c9 => ?_)
  · replace w := ql_if w c9
    refine lv_iconst (v := (0 : Int32)) C.1.1 C.1.2.1 dJ5_isLatin1_aae02_17 (by decide) ?_
    exact ql_zret C S hr hlocks dJ5_isLatin1_aae02_18 ⟨Nat.le_of_ble_eq_true rfl, Nat.le_of_ble_eq_true rfl⟩ w
  · replace w := ql_ifn w c9
    refine ql_aload_n (r := (some a0)) C dJ5_isLatin1_aae02_6 rfl (lv_at hl 0 rfl) ?_
    refine ql_getI C S qf_1_1 gw_250 dJ5_isLatin1_aae02_7 w (fun x1 w => ?_)
    refine lv_if_ne (tgt := 17) C.1.1 C.1.2.1 dJ5_isLatin1_aae02_10 (by decide) (fun c9 => ?_) (fun c9 => ?_)
    · replace w := ql_ifn w c9
      refine lv_iconst (v := (0 : Int32)) C.1.1 C.1.2.1 dJ5_isLatin1_aae02_17 (by decide) ?_
      exact ql_zret C S hr hlocks dJ5_isLatin1_aae02_18 ⟨Nat.le_of_ble_eq_true rfl, Nat.le_of_ble_eq_true rfl⟩ w
    · replace w := ql_if w c9
      refine lv_iconst (v := (1 : Int32)) C.1.1 C.1.2.1 dJ5_isLatin1_aae02_13 (by decide) ?_
      refine lv_goto (tgt := 18) C.1.1 C.1.2.1 dJ5_isLatin1_aae02_14 (by decide) ?_
      exact ql_zret C S hr hlocks dJ5_isLatin1_aae02_18 ⟨Nat.le_of_ble_eq_true rfl, Nat.le_of_ble_eq_true rfl⟩ w
def qw_J5_append_3fe6f_45 (a0 : Nat) (Q : Option Nat → ql_H → Prop) (xl1 : Int32) (h : ql_H) : Prop :=
ql_rv h (some a0) 1 fun b1 => qw_J5_isLatin1_aae02 b1  h (fun x1 h =>
if x1 = 0 then (ql_gR h (some a0) 1 0 fun r3 =>
ql_gI h (some a0) 1 3 fun x4 =>
ql_pV h (some a0) 1 3 (.int (x4 + (1 : Int32))) fun h =>
False) else (False))
def qw_J5_append_3fe6f (a0 : Nat) (xp1 : Int32) (h : ql_H) (Q : Option Nat → ql_H → Prop) : Prop :=
ql_gI h (some a0) 1 3 fun x5 =>
ql_rv h (some a0) 1 fun b5 => qw_J5_ensureCapacityInternal_d00df b5 (x5 + (1 : Int32)) h (fun h =>
ql_rv h (some a0) 1 fun b7 => qw_J5_isLatin1_aae02 b7  h (fun x7 h =>
if x7 = 0 then (qw_J5_append_3fe6f_45 a0 Q xp1 h) else (qw_J1_canEncode_fc78d xp1 h (fun x9 h =>
if x9 = 0 then (qw_J5_append_3fe6f_45 a0 Q xp1 h) else (ql_gR h (some a0) 1 0 fun r10 =>
ql_gI h (some a0) 1 3 fun x11 =>
ql_pV h (some a0) 1 3 (.int (x11 + (1 : Int32))) fun h =>
ql_sI h r10 3 x11 (vp_nar .byte xp1.toInt8.toInt32) fun h =>
Q (some a0) h)))))
set_option maxHeartbeats 4000000 in
set_option maxRecDepth 100000 in
theorem qm_J5_append_3fe6f (l : Launch) (hl9 : l.stackTraces = false) (D : ql_D) (h0 : ql_H) (a0 : Nat) (xp1 : Int32) (Q : Option Nat → ql_H → Prop) (X : String → ql_H → Prop) (w : qw_J5_append_3fe6f a0 xp1 h0 Q) : ql_M D l yJ5_append_3fe6f cJ5_append_3fe6f 2 (some (.object "java/lang/AbstractStringBuilder")) ({ frames := 10, cells := 1, slots := 256, locals := 171 } : Room) h0 [.ref a0, .int xp1] (ql_rR Q) X 1 256 := by
  refine ql_ofW (by decide +kernel) (Nat.le_of_ble_eq_true rfl) ?_
  intro p e s m below meth c ls C hr hlocks hnm htab S hl
  have hl : lv_has ls 2 [(0, .ref a0), (1, .int xp1)] := hl
  have hB45 : ∀ (xl1 : Int32) (h : ql_H) (H : Heap) (locs : List Loc) (ls : Array Slot), ql_S D h0 s H locs h → lv_has ls 2 [(0, .ref a0), (1, .int xl1)] → qw_J5_append_3fe6f_45 a0 Q xl1 h → W p l e ({ frames := 10, cells := 1, slots := 256, locals := 171 } : Room) s m ([.ref a0, .int xp1] : List Value).toArray below meth c H locs 1 256 (vx_MQ below (ql_Q D h0 (ql_rR Q)) (ql_X D h0 X) ([.ref a0, .int xp1] : List Value).toArray s 1 256 (ql_A h0)) (F0 m 45 ls []) := by
    intro xl1 h H locs ls S hl w
    unfold qw_J5_append_3fe6f_45 at w
    refine ql_aload_n (r := (some a0)) C dJ5_append_3fe6f_45 rfl (lv_at hl 0 rfl) ?_
    refine ql_UI (As := []) (rest := []) C S htab hlocks hl qy_J5_isLatin1_aae02 qi_J5_isLatin1_aae02 (Cn := "java/lang/StringBuilder") gw_1266 gw_1263 (ci := 1) rfl w (fun b w => qm_J5_isLatin1_aae02 l hl9 D _ b _ _ w) rfl ⟨Nat.le_of_ble_eq_true rfl, Nat.le_of_ble_eq_true rfl⟩ ⟨rfl, rfl⟩ (by exact Nat.le_of_ble_eq_true rfl) (fun b e9 => by cases e9; rfl) dJ5_append_3fe6f_46 ⟨Nat.le_of_ble_eq_true rfl, Nat.le_of_ble_eq_true rfl⟩ ⟨Nat.le_of_ble_eq_true rfl, Nat.le_of_ble_eq_true rfl⟩ (fun x1 h H locs S w => ?_)
    refine W.cs (cells' := 1) (slots' := 256) rfl rfl ?_
    refine lv_if_eq (tgt := 56) C.1.1 C.1.2.1 dJ5_append_3fe6f_49 (by decide) (fun c9 => ?_) (fun c9 => ?_)
    · replace w := ql_if w c9
      refine ql_aload_n (r := (some a0)) C dJ5_append_3fe6f_56 rfl (lv_at hl 0 rfl) ?_
      refine ql_getR C S qf_1_0 gw_249 dJ5_append_3fe6f_57 w (fun r3 w => ?_)
      refine ql_aload_n (r := (some a0)) C dJ5_append_3fe6f_60 rfl (lv_at hl 0 rfl) ?_
      refine lv_dup C.1.1 C.1.2.1 dJ5_append_3fe6f_61 (ql_catR _) ?_
      refine ql_getI C S qf_1_3 gw_253 dJ5_append_3fe6f_62 w (fun x4 w => ?_)
      refine lv_dup_x1 C.1.1 C.1.2.1 dJ5_append_3fe6f_65 rfl (ql_catR _) ?_
      refine lv_iconst (v := (1 : Int32)) C.1.1 C.1.2.1 dJ5_append_3fe6f_66 (by decide) ?_
      refine lv_iadd C.1.1 C.1.2.1 dJ5_append_3fe6f_67 ?_
      refine ql_putV C S qf_1_3 gw_253 (tyJ4) tyJ4_ok nmJ4 rfl dJ5_append_3fe6f_68 (v := .int (x4 + (1 : Int32))) rfl rfl w (fun h H locs S w => ?_)
      refine lv_iload_n C.1.1 C.1.2.1 dJ5_append_3fe6f_71 rfl (lv_at hl 1 rfl) ?_
      exact w.elim
    · replace w := ql_ifn w c9
      refine ql_aload_n (r := (some a0)) C dJ5_append_3fe6f_52 rfl (lv_at hl 0 rfl) ?_
      exact w.elim
  unfold qw_J5_append_3fe6f at w
  refine ql_aload_n (r := (some a0)) C dJ5_append_3fe6f_0 rfl (lv_at hl 0 rfl) ?_
  refine ql_aload_n (r := (some a0)) C dJ5_append_3fe6f_1 rfl (lv_at hl 0 rfl) ?_
  refine ql_getI C S qf_1_3 gw_253 dJ5_append_3fe6f_2 w (fun x5 w => ?_)
  refine lv_iconst (v := (1 : Int32)) C.1.1 C.1.2.1 dJ5_append_3fe6f_5 (by decide) ?_
  refine lv_iadd C.1.1 C.1.2.1 dJ5_append_3fe6f_6 ?_
  refine ql_UV (As := [.int (x5 + (1 : Int32))]) (rest := []) C S htab hlocks hl qy_J5_ensureCapacityInternal_d00df qi_J5_ensureCapacityInternal_d00df (Cn := "java/lang/StringBuilder") qx_eci gw_1232 (ci := 1) rfl w (fun b w => qm_J5_ensureCapacityInternal_d00df l hl9 D _ b (x5 + (1 : Int32)) _ _ w) rfl ⟨Nat.le_of_ble_eq_true rfl, Nat.le_of_ble_eq_true rfl⟩ ⟨rfl, rfl⟩ (by exact Nat.le_of_ble_eq_true rfl) (fun b e9 => by cases e9; rfl) dJ5_append_3fe6f_7 ⟨Nat.le_of_ble_eq_true rfl, Nat.le_of_ble_eq_true rfl⟩ ⟨Nat.le_of_ble_eq_true rfl, Nat.le_of_ble_eq_true rfl⟩ (fun h H locs S w => ?_)
  refine W.cs (cells' := 1) (slots' := 256) rfl rfl ?_
  refine ql_aload_n (r := (some a0)) C dJ5_append_3fe6f_10 rfl (lv_at hl 0 rfl) ?_
  refine ql_UI (As := []) (rest := []) C S htab hlocks hl qy_J5_isLatin1_aae02 qi_J5_isLatin1_aae02 (Cn := "java/lang/StringBuilder") gw_1266 gw_1263 (ci := 1) rfl w (fun b w => qm_J5_isLatin1_aae02 l hl9 D _ b _ _ w) rfl ⟨Nat.le_of_ble_eq_true rfl, Nat.le_of_ble_eq_true rfl⟩ ⟨rfl, rfl⟩ (by exact Nat.le_of_ble_eq_true rfl) (fun b e9 => by cases e9; rfl) dJ5_append_3fe6f_11 ⟨Nat.le_of_ble_eq_true rfl, Nat.le_of_ble_eq_true rfl⟩ ⟨Nat.le_of_ble_eq_true rfl, Nat.le_of_ble_eq_true rfl⟩ (fun x7 h H locs S w => ?_)
  refine W.cs (cells' := 1) (slots' := 256) rfl rfl ?_
  refine lv_if_eq (tgt := 45) C.1.1 C.1.2.1 dJ5_append_3fe6f_14 (by decide) (fun c9 => ?_) (fun c9 => ?_)
  · replace w := ql_if w c9
    exact hB45 xp1 _ _ _ _ S (lv_sub hl [0, 1] rfl) w
  · replace w := ql_ifn w c9
    refine lv_iload_n C.1.1 C.1.2.1 dJ5_append_3fe6f_17 rfl (lv_at hl 1 rfl) ?_
    refine ql_SI (As := [.int xp1]) (rest := []) C S htab hlocks hl qy_J1_canEncode_fc78d qi_J1_canEncode_fc78d gw_1470 (qm_J1_canEncode_fc78d l hl9 D _ xp1 _ _ w) rfl ⟨Nat.le_of_ble_eq_true rfl, Nat.le_of_ble_eq_true rfl⟩ ⟨rfl, rfl⟩ (by exact Nat.le_of_ble_eq_true rfl) rfl dJ5_append_3fe6f_18 ⟨Nat.le_of_ble_eq_true rfl, Nat.le_of_ble_eq_true rfl⟩ ⟨Nat.le_of_ble_eq_true rfl, Nat.le_of_ble_eq_true rfl⟩ (fun x9 h H locs S w => ?_)
    refine W.cs (cells' := 1) (slots' := 256) rfl rfl ?_
    refine lv_if_eq (tgt := 45) C.1.1 C.1.2.1 dJ5_append_3fe6f_21 (by decide) (fun c9 => ?_) (fun c9 => ?_)
    · replace w := ql_if w c9
      exact hB45 xp1 _ _ _ _ S (lv_sub hl [0, 1] rfl) w
    · replace w := ql_ifn w c9
      refine ql_aload_n (r := (some a0)) C dJ5_append_3fe6f_24 rfl (lv_at hl 0 rfl) ?_
      refine ql_getR C S qf_1_0 gw_249 dJ5_append_3fe6f_25 w (fun r10 w => ?_)
      refine ql_aload_n (r := (some a0)) C dJ5_append_3fe6f_28 rfl (lv_at hl 0 rfl) ?_
      refine lv_dup C.1.1 C.1.2.1 dJ5_append_3fe6f_29 (ql_catR _) ?_
      refine ql_getI C S qf_1_3 gw_253 dJ5_append_3fe6f_30 w (fun x11 w => ?_)
      refine lv_dup_x1 C.1.1 C.1.2.1 dJ5_append_3fe6f_33 rfl (ql_catR _) ?_
      refine lv_iconst (v := (1 : Int32)) C.1.1 C.1.2.1 dJ5_append_3fe6f_34 (by decide) ?_
      refine lv_iadd C.1.1 C.1.2.1 dJ5_append_3fe6f_35 ?_
      refine ql_putV C S qf_1_3 gw_253 (tyJ4) tyJ4_ok nmJ4 rfl dJ5_append_3fe6f_36 (v := .int (x11 + (1 : Int32))) rfl rfl w (fun h H locs S w => ?_)
      refine lv_iload_n C.1.1 C.1.2.1 dJ5_append_3fe6f_39 rfl (lv_at hl 1 rfl) ?_
      refine lv_i2b C.1.1 C.1.2.1 dJ5_append_3fe6f_40 rfl ?_
      refine ql_bast C S dJ5_append_3fe6f_41 w (fun h H locs S w => ?_)
      refine lv_goto (tgt := 75) C.1.1 C.1.2.1 dJ5_append_3fe6f_42 (by decide) ?_
      refine ql_aload_n (r := (some a0)) C dJ5_append_3fe6f_75 rfl (lv_at hl 0 rfl) ?_
      exact ql_aret C S hr hlocks dJ5_append_3fe6f_76 ⟨Nat.le_of_ble_eq_true rfl, Nat.le_of_ble_eq_true rfl⟩ w
def qw_J4_append_cf468 (a0 : Nat) (xp1 : Int32) (h : ql_H) (Q : Option Nat → ql_H → Prop) : Prop :=
ql_rv h (some a0) 1 fun b1 => qw_J5_append_3fe6f b1 xp1 h (fun r1 h =>
Q (some a0) h)
set_option maxHeartbeats 4000000 in
set_option maxRecDepth 100000 in
theorem qm_J4_append_cf468 (l : Launch) (hl9 : l.stackTraces = false) (D : ql_D) (h0 : ql_H) (a0 : Nat) (xp1 : Int32) (Q : Option Nat → ql_H → Prop) (X : String → ql_H → Prop) (w : qw_J4_append_cf468 a0 xp1 h0 Q) : ql_M D l yJ4_append_cf468 cJ4_append_cf468 2 (some (.object "java/lang/StringBuilder")) ({ frames := 12, cells := 1, slots := 256, locals := 200 } : Room) h0 [.ref a0, .int xp1] (ql_rR Q) X 1 256 := by
  refine ql_ofW (by decide +kernel) (Nat.le_of_ble_eq_true rfl) ?_
  intro p e s m below meth c ls C hr hlocks hnm htab S hl
  have hl : lv_has ls 2 [(0, .ref a0), (1, .int xp1)] := hl
  unfold qw_J4_append_cf468 at w
  refine ql_aload_n (r := (some a0)) C dJ4_append_cf468_0 rfl (lv_at hl 0 rfl) ?_
  refine lv_iload_n C.1.1 C.1.2.1 dJ4_append_cf468_1 rfl (lv_at hl 1 rfl) ?_
  refine ql_PR (As := [.int xp1]) (rest := []) C S htab hlocks hl qy_J5_append_3fe6f qi_J5_append_3fe6f gw_2156 gw_262 (by decide) gw_1467 (ci := 1) (Cn := "java/lang/StringBuilder") rfl rfl w (fun b w => qm_J5_append_3fe6f l hl9 D _ b xp1 _ _ w) rfl ⟨Nat.le_of_ble_eq_true rfl, Nat.le_of_ble_eq_true rfl⟩ ⟨rfl, rfl⟩ (by exact Nat.le_of_ble_eq_true rfl) (fun b e9 => by cases e9; rfl) dJ4_append_cf468_2 ⟨Nat.le_of_ble_eq_true rfl, Nat.le_of_ble_eq_true rfl⟩ ⟨Nat.le_of_ble_eq_true rfl, Nat.le_of_ble_eq_true rfl⟩ (fun r1 h H locs S w => ?_)
  refine W.cs (cells' := 1) (slots' := 256) rfl rfl ?_
  refine lv_pop C.1.1 C.1.2.1 dJ4_append_cf468_5 (ql_catR _) ?_
  refine ql_aload_n (r := (some a0)) C dJ4_append_cf468_6 rfl (lv_at hl 0 rfl) ?_
  exact ql_aret C S hr hlocks dJ4_append_cf468_7 ⟨Nat.le_of_ble_eq_true rfl, Nat.le_of_ble_eq_true rfl⟩ w
def qw_X8_append (a0 : Nat) (xp1 : Int32) (h : ql_H) (Q : Int32 → ql_H → Prop) : Prop :=
ql_gR h (some a0) 10 0 fun r1 =>
ql_rv h r1 1 fun b2 => qw_J4_append_cf468 b2 xp1 h (fun r2 h =>
ql_gR h (some a0) 10 0 fun r4 =>
ql_rv h r4 1 fun b5 => qw_J4_length_8abf5 b5  h (fun x5 h =>
Q x5 h))
set_option maxHeartbeats 4000000 in
set_option maxRecDepth 100000 in
theorem qm_X8_append (l : Launch) (hl9 : l.stackTraces = false) (D : ql_D) (h0 : ql_H) (a0 : Nat) (xp1 : Int32) (Q : Int32 → ql_H → Prop) (X : String → ql_H → Prop) (w : qw_X8_append a0 xp1 h0 Q) : ql_M D l yX8_append cX8_append 2 (some .int) ({ frames := 14, cells := 1, slots := 256, locals := 229 } : Room) h0 [.ref a0, .int xp1] (ql_rI Q) X 1 256 := by
  refine ql_ofW (by decide) (Nat.le_of_ble_eq_true rfl) ?_
  intro p e s m below meth c ls C hr hlocks hnm htab S hl
  have hl : lv_has ls 2 [(0, .ref a0), (1, .int xp1)] := hl
  unfold qw_X8_append at w
  refine ql_aload_n (r := (some a0)) C dX8_append_0 rfl (lv_at hl 0 rfl) ?_
  refine ql_getR C S qf_10_0 gw_290 dX8_append_1 w (fun r1 w => ?_)
  refine lv_iload_n C.1.1 C.1.2.1 dX8_append_4 rfl (lv_at hl 1 rfl) ?_
  refine ql_VR (As := [.int xp1]) (rest := []) C S htab hlocks hl qy_J4_append_cf468 qi_J4_append_cf468 qs_J4_append_cf468 gw_1523 (ci := 1) rfl w (fun b w => qm_J4_append_cf468 l hl9 D _ b xp1 _ _ w) rfl ⟨Nat.le_of_ble_eq_true rfl, Nat.le_of_ble_eq_true rfl⟩ ⟨rfl, rfl⟩ (by exact Nat.le_of_ble_eq_true rfl) (fun b e9 => by cases e9; rfl) dX8_append_5 ⟨Nat.le_of_ble_eq_true rfl, Nat.le_of_ble_eq_true rfl⟩ ⟨Nat.le_of_ble_eq_true rfl, Nat.le_of_ble_eq_true rfl⟩ (fun r2 h H locs S w => ?_)
  refine W.cs (cells' := 1) (slots' := 256) rfl rfl ?_
  refine lv_pop C.1.1 C.1.2.1 dX8_append_8 (ql_catR _) ?_
  refine ql_aload_n (r := (some a0)) C dX8_append_9 rfl (lv_at hl 0 rfl) ?_
  refine ql_getR C S qf_10_0 gw_290 dX8_append_10 w (fun r4 w => ?_)
  refine ql_VI (As := []) (rest := []) C S htab hlocks hl qy_J4_length_8abf5 qi_J4_length_8abf5 qs_J4_length_8abf5 gw_1518 (ci := 1) rfl w (fun b w => qm_J4_length_8abf5 l hl9 D _ b _ _ w) rfl ⟨Nat.le_of_ble_eq_true rfl, Nat.le_of_ble_eq_true rfl⟩ ⟨rfl, rfl⟩ (by exact Nat.le_of_ble_eq_true rfl) (fun b e9 => by cases e9; rfl) dX8_append_13 ⟨Nat.le_of_ble_eq_true rfl, Nat.le_of_ble_eq_true rfl⟩ ⟨Nat.le_of_ble_eq_true rfl, Nat.le_of_ble_eq_true rfl⟩ (fun x5 h H locs S w => ?_)
  refine W.cs (cells' := 1) (slots' := 256) rfl rfl ?_
  exact ql_iret C S hr hlocks dX8_append_16 ⟨Nat.le_of_ble_eq_true rfl, Nat.le_of_ble_eq_true rfl⟩ w
def qw_J5_setLength_d00df_76 (a0 : Nat) (Q : ql_H → Prop) (xl1 : Int32) (h : ql_H) : Prop :=
ql_pV h (some a0) 1 3 (.int xl1) fun h =>
Q h
def qw_J5_setLength_d00df (a0 : Nat) (xp1 : Int32) (h : ql_H) (Q : ql_H → Prop) : Prop :=
if 0 ≤ xp1 then (ql_rv h (some a0) 1 fun b0 => qw_J5_ensureCapacityInternal_d00df b0 xp1 h (fun h =>
ql_gI h (some a0) 1 3 fun x2 =>
if xp1 ≤ x2 then (ql_gI h (some a0) 1 3 fun x3 =>
if x3 ≤ xp1 then (qw_J5_setLength_d00df_76 a0 Q xp1 h) else (ql_pV h (some a0) 1 2 (.int (1 : Int32)) fun h =>
qw_J5_setLength_d00df_76 a0 Q xp1 h)) else (ql_rv h (some a0) 1 fun b4 => qw_J5_isLatin1_aae02 b4  h (fun x4 h =>
if x4 = 0 then (ql_gR h (some a0) 1 0 fun r6 =>
ql_gI h (some a0) 1 3 fun x7 =>
False) else (ql_gR h (some a0) 1 0 fun r8 =>
ql_gI h (some a0) 1 3 fun x9 =>
False))))) else (False)
set_option maxHeartbeats 4000000 in
set_option maxRecDepth 100000 in
theorem qm_J5_setLength_d00df (l : Launch) (hl9 : l.stackTraces = false) (D : ql_D) (h0 : ql_H) (a0 : Nat) (xp1 : Int32) (Q : ql_H → Prop) (X : String → ql_H → Prop) (w : qw_J5_setLength_d00df a0 xp1 h0 Q) : ql_M D l yJ5_setLength_d00df cJ5_setLength_d00df 2 none ({ frames := 10, cells := 1, slots := 256, locals := 171 } : Room) h0 [.ref a0, .int xp1] (ql_rV Q) X 1 256 := by
  refine ql_ofW (by decide +kernel) (Nat.le_of_ble_eq_true rfl) ?_
  intro p e s m below meth c ls C hr hlocks hnm htab S hl
  have hl : lv_has ls 2 [(0, .ref a0), (1, .int xp1)] := hl
  have hB76 : ∀ (xl1 : Int32) (h : ql_H) (H : Heap) (locs : List Loc) (ls : Array Slot), ql_S D h0 s H locs h → lv_has ls 2 [(0, .ref a0), (1, .int xl1)] → qw_J5_setLength_d00df_76 a0 Q xl1 h → W p l e ({ frames := 10, cells := 1, slots := 256, locals := 171 } : Room) s m ([.ref a0, .int xp1] : List Value).toArray below meth c H locs 1 256 (vx_MQ below (ql_Q D h0 (ql_rV Q)) (ql_X D h0 X) ([.ref a0, .int xp1] : List Value).toArray s 1 256 (ql_A h0)) (F0 m 76 ls []) := by
    intro xl1 h H locs ls S hl w
    unfold qw_J5_setLength_d00df_76 at w
    refine ql_aload_n (r := (some a0)) C dJ5_setLength_d00df_76 rfl (lv_at hl 0 rfl) ?_
    refine lv_iload_n C.1.1 C.1.2.1 dJ5_setLength_d00df_77 rfl (lv_at hl 1 rfl) ?_
    refine ql_putV C S qf_1_3 gw_253 (tyJ4) tyJ4_ok nmJ4 rfl dJ5_setLength_d00df_78 (v := .int xl1) rfl rfl w (fun h H locs S w => ?_)
    exact ql_vret C S hr hlocks dJ5_setLength_d00df_81 ⟨Nat.le_of_ble_eq_true rfl, Nat.le_of_ble_eq_true rfl⟩ w
  unfold qw_J5_setLength_d00df at w
  refine lv_iload_n C.1.1 C.1.2.1 dJ5_setLength_d00df_0 rfl (lv_at hl 1 rfl) ?_
  refine lv_if_ge (tgt := 13) C.1.1 C.1.2.1 dJ5_setLength_d00df_1 (by decide) (fun c9 => ?_) (fun c9 => ?_)
  · replace w := ql_if w c9
    refine ql_aload_n (r := (some a0)) C dJ5_setLength_d00df_13 rfl (lv_at hl 0 rfl) ?_
    refine lv_iload_n C.1.1 C.1.2.1 dJ5_setLength_d00df_14 rfl (lv_at hl 1 rfl) ?_
    refine ql_UV (As := [.int xp1]) (rest := []) C S htab hlocks hl qy_J5_ensureCapacityInternal_d00df qi_J5_ensureCapacityInternal_d00df (Cn := "java/lang/StringBuilder") qx_eci gw_1232 (ci := 1) rfl w (fun b w => qm_J5_ensureCapacityInternal_d00df l hl9 D _ b xp1 _ _ w) rfl ⟨Nat.le_of_ble_eq_true rfl, Nat.le_of_ble_eq_true rfl⟩ ⟨rfl, rfl⟩ (by exact Nat.le_of_ble_eq_true rfl) (fun b e9 => by cases e9; rfl) dJ5_setLength_d00df_15 ⟨Nat.le_of_ble_eq_true rfl, Nat.le_of_ble_eq_true rfl⟩ ⟨Nat.le_of_ble_eq_true rfl, Nat.le_of_ble_eq_true rfl⟩ (fun h H locs S w => ?_)
    refine W.cs (cells' := 1) (slots' := 256) rfl rfl ?_
    refine ql_aload_n (r := (some a0)) C dJ5_setLength_d00df_18 rfl (lv_at hl 0 rfl) ?_
    refine ql_getI C S qf_1_3 gw_253 dJ5_setLength_d00df_19 w (fun x2 w => ?_)
    refine lv_iload_n C.1.1 C.1.2.1 dJ5_setLength_d00df_22 rfl (lv_at hl 1 rfl) ?_
    refine lv_icmp_ge (tgt := 63) C.1.1 C.1.2.1 dJ5_setLength_d00df_23 (by decide) (fun c9 => ?_) (fun c9 => ?_)
    · replace w := ql_if w c9
      refine ql_aload_n (r := (some a0)) C dJ5_setLength_d00df_63 rfl (lv_at hl 0 rfl) ?_
      refine ql_getI C S qf_1_3 gw_253 dJ5_setLength_d00df_64 w (fun x3 w => ?_)
      refine lv_iload_n C.1.1 C.1.2.1 dJ5_setLength_d00df_67 rfl (lv_at hl 1 rfl) ?_
      refine lv_icmp_le (tgt := 76) C.1.1 C.1.2.1 dJ5_setLength_d00df_68 (by decide) (fun c9 => ?_) (fun c9 => ?_)
      · replace w := ql_if w c9
        exact hB76 xp1 _ _ _ _ S (lv_sub hl [0, 1] rfl) w
      · replace w := ql_ifn w c9
        refine ql_aload_n (r := (some a0)) C dJ5_setLength_d00df_71 rfl (lv_at hl 0 rfl) ?_
        refine lv_iconst (v := (1 : Int32)) C.1.1 C.1.2.1 dJ5_setLength_d00df_72 (by decide) ?_
        refine ql_putV C S qf_1_2 gw_251 (tyJ4) tyJ4_ok nmJ4 rfl dJ5_setLength_d00df_73 (v := .int (1 : Int32)) rfl rfl w (fun h H locs S w => ?_)
        exact hB76 xp1 _ _ _ _ S (lv_sub hl [0, 1] rfl) w
    · replace w := ql_ifn w c9
      refine ql_aload_n (r := (some a0)) C dJ5_setLength_d00df_26 rfl (lv_at hl 0 rfl) ?_
      refine ql_UI (As := []) (rest := []) C S htab hlocks hl qy_J5_isLatin1_aae02 qi_J5_isLatin1_aae02 (Cn := "java/lang/StringBuilder") gw_1266 gw_1263 (ci := 1) rfl w (fun b w => qm_J5_isLatin1_aae02 l hl9 D _ b _ _ w) rfl ⟨Nat.le_of_ble_eq_true rfl, Nat.le_of_ble_eq_true rfl⟩ ⟨rfl, rfl⟩ (by exact Nat.le_of_ble_eq_true rfl) (fun b e9 => by cases e9; rfl) dJ5_setLength_d00df_27 ⟨Nat.le_of_ble_eq_true rfl, Nat.le_of_ble_eq_true rfl⟩ ⟨Nat.le_of_ble_eq_true rfl, Nat.le_of_ble_eq_true rfl⟩ (fun x4 h H locs S w => ?_)
      refine W.cs (cells' := 1) (slots' := 256) rfl rfl ?_
      refine lv_if_eq (tgt := 48) C.1.1 C.1.2.1 dJ5_setLength_d00df_30 (by decide) (fun c9 => ?_) (fun c9 => ?_)
      · replace w := ql_if w c9
        refine ql_aload_n (r := (some a0)) C dJ5_setLength_d00df_48 rfl (lv_at hl 0 rfl) ?_
        refine ql_getR C S qf_1_0 gw_249 dJ5_setLength_d00df_49 w (fun r6 w => ?_)
        refine ql_aload_n (r := (some a0)) C dJ5_setLength_d00df_52 rfl (lv_at hl 0 rfl) ?_
        refine ql_getI C S qf_1_3 gw_253 dJ5_setLength_d00df_53 w (fun x7 w => ?_)
        refine lv_iload_n C.1.1 C.1.2.1 dJ5_setLength_d00df_56 rfl (lv_at hl 1 rfl) ?_
        exact w.elim
      · replace w := ql_ifn w c9
        refine ql_aload_n (r := (some a0)) C dJ5_setLength_d00df_33 rfl (lv_at hl 0 rfl) ?_
        refine ql_getR C S qf_1_0 gw_249 dJ5_setLength_d00df_34 w (fun r8 w => ?_)
        refine ql_aload_n (r := (some a0)) C dJ5_setLength_d00df_37 rfl (lv_at hl 0 rfl) ?_
        refine ql_getI C S qf_1_3 gw_253 dJ5_setLength_d00df_38 w (fun x9 w => ?_)
        refine lv_iload_n C.1.1 C.1.2.1 dJ5_setLength_d00df_41 rfl (lv_at hl 1 rfl) ?_
        exact w.elim
  · replace w := ql_ifn w c9
    exact w.elim
def qw_J4_setLength_d00df (a0 : Nat) (xp1 : Int32) (h : ql_H) (Q : ql_H → Prop) : Prop :=
ql_rv h (some a0) 1 fun b0 => qw_J5_setLength_d00df b0 xp1 h (fun h =>
Q h)
set_option maxHeartbeats 4000000 in
set_option maxRecDepth 100000 in
theorem qm_J4_setLength_d00df (l : Launch) (hl9 : l.stackTraces = false) (D : ql_D) (h0 : ql_H) (a0 : Nat) (xp1 : Int32) (Q : ql_H → Prop) (X : String → ql_H → Prop) (w : qw_J4_setLength_d00df a0 xp1 h0 Q) : ql_M D l yJ4_setLength_d00df cJ4_setLength_d00df 2 none ({ frames := 12, cells := 1, slots := 256, locals := 200 } : Room) h0 [.ref a0, .int xp1] (ql_rV Q) X 1 256 := by
  refine ql_ofW (by decide +kernel) (Nat.le_of_ble_eq_true rfl) ?_
  intro p e s m below meth c ls C hr hlocks hnm htab S hl
  have hl : lv_has ls 2 [(0, .ref a0), (1, .int xp1)] := hl
  unfold qw_J4_setLength_d00df at w
  refine ql_aload_n (r := (some a0)) C dJ4_setLength_d00df_0 rfl (lv_at hl 0 rfl) ?_
  refine lv_iload_n C.1.1 C.1.2.1 dJ4_setLength_d00df_1 rfl (lv_at hl 1 rfl) ?_
  refine ql_PV (As := [.int xp1]) (rest := []) C S htab hlocks hl qy_J5_setLength_d00df qi_J5_setLength_d00df gw_2147 gw_262 (by decide) gw_1210 (ci := 1) (Cn := "java/lang/StringBuilder") rfl rfl w (fun b w => qm_J5_setLength_d00df l hl9 D _ b xp1 _ _ w) rfl ⟨Nat.le_of_ble_eq_true rfl, Nat.le_of_ble_eq_true rfl⟩ ⟨rfl, rfl⟩ (by exact Nat.le_of_ble_eq_true rfl) (fun b e9 => by cases e9; rfl) dJ4_setLength_d00df_2 ⟨Nat.le_of_ble_eq_true rfl, Nat.le_of_ble_eq_true rfl⟩ ⟨Nat.le_of_ble_eq_true rfl, Nat.le_of_ble_eq_true rfl⟩ (fun h H locs S w => ?_)
  refine W.cs (cells' := 1) (slots' := 256) rfl rfl ?_
  exact ql_vret C S hr hlocks dJ4_setLength_d00df_5 ⟨Nat.le_of_ble_eq_true rfl, Nat.le_of_ble_eq_true rfl⟩ w
def qw_X8_empty (a0 : Nat) (h : ql_H) (Q : ql_H → Prop) : Prop :=
ql_gR h (some a0) 10 0 fun r1 =>
ql_rv h r1 1 fun b1 => qw_J4_setLength_d00df b1 (0 : Int32) h (fun h =>
Q h)
set_option maxHeartbeats 4000000 in
set_option maxRecDepth 100000 in
theorem qm_X8_empty (l : Launch) (hl9 : l.stackTraces = false) (D : ql_D) (h0 : ql_H) (a0 : Nat) (Q : ql_H → Prop) (X : String → ql_H → Prop) (w : qw_X8_empty a0 h0 Q) : ql_M D l yX8_empty cX8_empty 1 none ({ frames := 14, cells := 1, slots := 256, locals := 229 } : Room) h0 [.ref a0] (ql_rV Q) X 1 256 := by
  refine ql_ofW (by decide) (Nat.le_of_ble_eq_true rfl) ?_
  intro p e s m below meth c ls C hr hlocks hnm htab S hl
  have hl : lv_has ls 1 [(0, .ref a0)] := hl
  unfold qw_X8_empty at w
  refine ql_aload_n (r := (some a0)) C dX8_empty_0 rfl (lv_at hl 0 rfl) ?_
  refine ql_getR C S qf_10_0 gw_290 dX8_empty_1 w (fun r1 w => ?_)
  refine lv_iconst (v := (0 : Int32)) C.1.1 C.1.2.1 dX8_empty_4 (by decide) ?_
  refine ql_VV (As := [.int (0 : Int32)]) (rest := []) C S htab hlocks hl qy_J4_setLength_d00df qi_J4_setLength_d00df qs_J4_setLength_d00df gw_1595 (ci := 1) rfl w (fun b w => qm_J4_setLength_d00df l hl9 D _ b (0 : Int32) _ _ w) rfl ⟨Nat.le_of_ble_eq_true rfl, Nat.le_of_ble_eq_true rfl⟩ ⟨rfl, rfl⟩ (by exact Nat.le_of_ble_eq_true rfl) (fun b e9 => by cases e9; rfl) dX8_empty_5 ⟨Nat.le_of_ble_eq_true rfl, Nat.le_of_ble_eq_true rfl⟩ ⟨Nat.le_of_ble_eq_true rfl, Nat.le_of_ble_eq_true rfl⟩ (fun h H locs S w => ?_)
  refine W.cs (cells' := 1) (slots' := 256) rfl rfl ?_
  exact ql_vret C S hr hlocks dX8_empty_8 ⟨Nat.le_of_ble_eq_true rfl, Nat.le_of_ble_eq_true rfl⟩ w
