def qw_X11_clauseByCites_64 (a0 : Nat) (Q : Int32 → ql_H → Prop) (X : String → ql_H → Prop) (k13 : Int32 → Int32 → ql_H → Prop) (xl1 : Int32) (xl2 : Int32) (h : ql_H) : Prop :=
k13 xl1 (xl2 + (1 : Int32)) h
def qw_X11_clauseByCites_13 (a0 : Nat) (Q : Int32 → ql_H → Prop) (X : String → ql_H → Prop) : Nat → Int32 → Int32 → ql_H → Prop
  | 0, _, _, _ => False
  | n + 1, xl1, xl2, h =>
    ql_gR h (some a0) 12 0 fun r1 =>
    ql_gR h r1 4 0 fun r2 =>
    ql_len h r2 5 fun x3 =>
    if x3 ≤ xl2 then (∀ n9 : Nat, h.1 ≤ n9 → X "java/util/NoSuchElementException" (n9, h.2)) else (ql_gR h (some a0) 12 0 fun r4 =>
    ql_gR h r4 4 0 fun r5 =>
    ql_lR h r5 5 xl2 fun r6 =>
    ql_gI h r6 6 0 fun x7 =>
    if x7 = 0 then (qw_X11_clauseByCites_64 a0 Q X (qw_X11_clauseByCites_13 a0 Q X n) xl1 xl2 h) else (ql_gR h (some a0) 12 10 fun r8 =>
    ql_rv h r8 5 fun b9 => qw_X2_countCiters b9 xl2 h (fun x9 h =>
    ql_rv h (some a0) 12 fun b11 => qw_X11_countRankedBefore b11 r6 x9 h (fun x11 h =>
    if x11 = xl1 then (ql_gI h r6 6 1 fun x13 =>
    Q x13 h) else (qw_X11_clauseByCites_64 a0 Q X (qw_X11_clauseByCites_13 a0 Q X n) xl1 xl2 h)))))
def qw_X11_clauseByCites (a0 : Nat) (xp1 : Int32) (h : ql_H) (Q : Int32 → ql_H → Prop) (X : String → ql_H → Prop) : Prop :=
ql_gR h (some a0) 12 10 fun r14 =>
ql_gR h (some a0) 12 0 fun r15 =>
ql_rv h r14 5 fun b15 => qw_X2_read b15 r15 h (fun h =>
qw_X11_clauseByCites_13 a0 Q X ql_FU xp1 (0 : Int32) h)
set_option maxHeartbeats 4000000 in
set_option maxRecDepth 100000 in
theorem qm_X11_clauseByCites (l : Launch) (hl9 : l.stackTraces = false) (D : ql_D) (h0 : ql_H) (a0 : Nat) (xp1 : Int32) (Q : Int32 → ql_H → Prop) (X : String → ql_H → Prop) (w : qw_X11_clauseByCites a0 xp1 h0 Q X) : ql_M D l yX11_clauseByCites cX11_clauseByCites 4 (some .int) ({ frames := 8, cells := 1, slots := 6, locals := 145 } : Room) h0 [.ref a0, .int xp1] (ql_rI Q) X 1 6 := by
  refine ql_ofW (by decide) (Nat.le_of_ble_eq_true rfl) ?_
  intro p e s m below meth c ls C hr hlocks hnm htab S hl
  have hl : lv_has ls 4 [(0, .ref a0), (1, .int xp1)] := hl
  have hB64 : ∀ (k13 : Int32 → Int32 → ql_H → Prop) (hk13 : ∀ (xl1 : Int32) (xl2 : Int32) (h : ql_H) (H : Heap) (locs : List Loc) (ls : Array Slot), ql_S D h0 s H locs h → lv_has ls 4 [(0, .ref a0), (1, .int xl1), (2, .int xl2)] → k13 xl1 xl2 h → W p l e ({ frames := 8, cells := 1, slots := 6, locals := 145 } : Room) s m ([.ref a0, .int xp1] : List Value).toArray below meth c H locs 0 0 (vx_MQ below (ql_Q D h0 (ql_rI Q)) (ql_X D h0 X) ([.ref a0, .int xp1] : List Value).toArray s 1 6 (ql_A h0)) (F0 m 13 ls [])) , ∀ (xl1 : Int32) (xl2 : Int32) (h : ql_H) (H : Heap) (locs : List Loc) (ls : Array Slot), ql_S D h0 s H locs h → lv_has ls 4 [(0, .ref a0), (1, .int xl1), (2, .int xl2)] → qw_X11_clauseByCites_64 a0 Q X k13 xl1 xl2 h → W p l e ({ frames := 8, cells := 1, slots := 6, locals := 145 } : Room) s m ([.ref a0, .int xp1] : List Value).toArray below meth c H locs 0 0 (vx_MQ below (ql_Q D h0 (ql_rI Q)) (ql_X D h0 X) ([.ref a0, .int xp1] : List Value).toArray s 1 6 (ql_A h0)) (F0 m 64 ls []) := by
    intro k13 hk13 xl1 xl2 h H locs ls S hl w
    unfold qw_X11_clauseByCites_64 at w
    refine lv_iinc (v := (xl2 + (1 : Int32))) (lv' := [(2, .int (xl2 + (1 : Int32))), (0, .ref a0), (1, .int xl1)]) C.1.1 C.1.2.1 dX11_clauseByCites_64 hl (k := 2) rfl rfl (by decide) rfl (fun ls hl => ?_)
    refine lv_goto (tgt := 13) C.1.1 C.1.2.1 dX11_clauseByCites_67 (by decide) ?_
    exact hk13 xl1 (xl2 + (1 : Int32)) _ _ _ _ S (lv_sub hl [1, 2, 0] rfl) w
  have hB13 : ∀ n : Nat, ∀ (xl1 : Int32) (xl2 : Int32) (h : ql_H) (H : Heap) (locs : List Loc) (ls : Array Slot), ql_S D h0 s H locs h → lv_has ls 4 [(0, .ref a0), (1, .int xl1), (2, .int xl2)] → qw_X11_clauseByCites_13 a0 Q X n xl1 xl2 h → W p l e ({ frames := 8, cells := 1, slots := 6, locals := 145 } : Room) s m ([.ref a0, .int xp1] : List Value).toArray below meth c H locs 0 0 (vx_MQ below (ql_Q D h0 (ql_rI Q)) (ql_X D h0 X) ([.ref a0, .int xp1] : List Value).toArray s 1 6 (ql_A h0)) (F0 m 13 ls []) := by
    intro n
    induction n with
    | zero => intro xl1 xl2 h H locs ls S hl w; rw [qw_X11_clauseByCites_13] at w; exact w.elim
    | succ n ih =>
      intro xl1 xl2 h H locs ls S hl w
      rw [qw_X11_clauseByCites_13] at w
      refine lv_iload_n C.1.1 C.1.2.1 dX11_clauseByCites_13 rfl (lv_at hl 2 rfl) ?_
      refine ql_aload_n (r := (some a0)) C dX11_clauseByCites_14 rfl (lv_at hl 0 rfl) ?_
      refine ql_getR C S qf_12_0 gw_348 dX11_clauseByCites_15 w (fun r1 w => ?_)
      refine ql_getRN C S qf_4_0 (qn_RX11_221) dX11_clauseByCites_18 w (fun r2 w => ?_)
      refine ql_alen (kd := 5) C S rfl dX11_clauseByCites_21 w (fun x3 w => ?_)
      refine lv_icmp_ge (tgt := 70) C.1.1 C.1.2.1 dX11_clauseByCites_22 (by decide) (fun c9 => ?_) (fun c9 => ?_)
      · replace w := ql_if w c9
        exact ql_throw trivial C S qx_RX11_123 gw_488 gw_92 hl htab hlocks hl9 dX11_clauseByCites_70 dX11_clauseByCites_73 dX11_clauseByCites_74 dX11_clauseByCites_77 ⟨Nat.le_of_ble_eq_true rfl, Nat.le_of_ble_eq_true rfl, Nat.le_of_ble_eq_true rfl⟩ (by exact Nat.le_of_ble_eq_true rfl) ⟨Nat.le_of_ble_eq_true rfl, Nat.le_of_ble_eq_true rfl⟩ w
      · replace w := ql_ifn w c9
        refine ql_aload_n (r := (some a0)) C dX11_clauseByCites_25 rfl (lv_at hl 0 rfl) ?_
        refine ql_getR C S qf_12_0 gw_348 dX11_clauseByCites_26 w (fun r4 w => ?_)
        refine ql_getRN C S qf_4_0 (qn_RX11_221) dX11_clauseByCites_29 w (fun r5 w => ?_)
        refine lv_iload_n C.1.1 C.1.2.1 dX11_clauseByCites_32 rfl (lv_at hl 2 rfl) ?_
        refine ql_aald (kd := 5) C S rfl rfl dX11_clauseByCites_33 w (fun r6 w => ?_)
        refine ql_astore_n (lv' := [(3, va_rf r6), (0, .ref a0), (1, .int xl1), (2, .int xl2)]) C dX11_clauseByCites_34 rfl hl (by decide) rfl (fun ls hl => ?_)
        refine ql_aload_n (r := r6) C dX11_clauseByCites_35 rfl (lv_at hl 0 rfl) ?_
        refine ql_getIN C S qf_6_0 (qn_RX11_225) dX11_clauseByCites_36 w (fun x7 w => ?_)
        refine lv_if_eq (tgt := 64) C.1.1 C.1.2.1 dX11_clauseByCites_39 (by decide) (fun c9 => ?_) (fun c9 => ?_)
        · replace w := ql_if w c9
          exact hB64 (qw_X11_clauseByCites_13 a0 Q X n) ih xl1 xl2 _ _ _ _ S (lv_sub hl [1, 2, 3] rfl) w
        · replace w := ql_ifn w c9
          refine ql_aload_n (r := (some a0)) C dX11_clauseByCites_42 rfl (lv_at hl 1 rfl) ?_
          refine ql_aload_n (r := r6) C dX11_clauseByCites_43 rfl (lv_at hl 0 rfl) ?_
          refine ql_aload_n (r := (some a0)) C dX11_clauseByCites_44 rfl (lv_at hl 1 rfl) ?_
          refine ql_getR C S qf_12_10 gw_358 dX11_clauseByCites_45 w (fun r8 w => ?_)
          refine lv_iload_n C.1.1 C.1.2.1 dX11_clauseByCites_48 rfl (lv_at hl 3 rfl) ?_
          refine ql_VI (As := [.int xl2]) (rest := [va_rf r6, .ref a0]) C S htab hlocks hl qy_X2_countCiters qi_X2_countCiters qs_X2_countCiters gw_1143 (ci := 5) rfl w (fun b w => qm_X2_countCiters l hl9 D _ b xl2 _ _ w) rfl ⟨Nat.le_of_ble_eq_true rfl, Nat.le_of_ble_eq_true rfl⟩ ⟨rfl, rfl⟩ (by generalize r6 = z0; cases z0 <;> exact Nat.le_of_ble_eq_true rfl) (fun b e9 => by cases e9; rfl) dX11_clauseByCites_49 ⟨Nat.le_of_ble_eq_true rfl, Nat.le_of_ble_eq_true rfl⟩ ⟨Nat.le_of_ble_eq_true rfl, Nat.le_of_ble_eq_true rfl⟩ (fun x9 h H locs S w => ?_)
          refine W.cs (cells' := 0) (slots' := 0) rfl rfl ?_
          refine ql_VI (As := [va_rf r6, .int x9]) (rest := []) C S htab hlocks hl qy_X11_countRankedBefore qi_X11_countRankedBefore qs_X11_countRankedBefore gw_1147 (ci := 12) rfl w (fun b w => qm_X11_countRankedBefore l hl9 D _ b r6 x9 _ _ w) rfl ⟨Nat.le_of_ble_eq_true rfl, Nat.le_of_ble_eq_true rfl⟩ ⟨rfl, rfl⟩ (by exact Nat.le_of_ble_eq_true rfl) (fun b e9 => by cases e9; rfl) dX11_clauseByCites_52 ⟨Nat.le_of_ble_eq_true rfl, Nat.le_of_ble_eq_true rfl⟩ ⟨Nat.le_of_ble_eq_true rfl, Nat.le_of_ble_eq_true rfl⟩ (fun x11 h H locs S w => ?_)
          refine W.cs (cells' := 0) (slots' := 0) rfl rfl ?_
          refine lv_iload_n C.1.1 C.1.2.1 dX11_clauseByCites_55 rfl (lv_at hl 2 rfl) ?_
          refine lv_icmp_ne (tgt := 64) C.1.1 C.1.2.1 dX11_clauseByCites_56 (by decide) (fun c9 => ?_) (fun c9 => ?_)
          · replace w := ql_ifn w c9
            exact hB64 (qw_X11_clauseByCites_13 a0 Q X n) ih xl1 xl2 _ _ _ _ S (lv_sub hl [1, 2, 3] rfl) w
          · replace w := ql_if w c9
            refine ql_aload_n (r := r6) C dX11_clauseByCites_59 rfl (lv_at hl 0 rfl) ?_
            refine ql_getIN C S qf_6_1 (qn_RX11_150) dX11_clauseByCites_60 w (fun x13 w => ?_)
            exact ql_iret C S hr hlocks dX11_clauseByCites_63 ⟨Nat.le_of_ble_eq_true rfl, Nat.le_of_ble_eq_true rfl⟩ w
  unfold qw_X11_clauseByCites at w
  refine ql_aload_n (r := (some a0)) C dX11_clauseByCites_0 rfl (lv_at hl 0 rfl) ?_
  refine ql_getR C S qf_12_10 gw_358 dX11_clauseByCites_1 w (fun r14 w => ?_)
  refine ql_aload_n (r := (some a0)) C dX11_clauseByCites_4 rfl (lv_at hl 0 rfl) ?_
  refine ql_getR C S qf_12_0 gw_348 dX11_clauseByCites_5 w (fun r15 w => ?_)
  refine ql_VV (As := [va_rf r15]) (rest := []) C S htab hlocks hl qy_X2_read qi_X2_read qs_X2_read gw_738 (ci := 5) rfl w (fun b w => qm_X2_read l hl9 D _ b r15 _ _ w) rfl ⟨Nat.le_of_ble_eq_true rfl, Nat.le_of_ble_eq_true rfl⟩ ⟨rfl, rfl⟩ (by exact Nat.le_of_ble_eq_true rfl) (fun b e9 => by cases e9; rfl) dX11_clauseByCites_8 ⟨Nat.le_of_ble_eq_true rfl, Nat.le_of_ble_eq_true rfl⟩ ⟨Nat.le_of_ble_eq_true rfl, Nat.le_of_ble_eq_true rfl⟩ (fun h H locs S w => ?_)
  refine W.cs (cells' := 0) (slots' := 0) rfl rfl ?_
  refine lv_iconst (v := (0 : Int32)) C.1.1 C.1.2.1 dX11_clauseByCites_11 (by decide) ?_
  refine lv_istore_n (lv' := [(2, .int (0 : Int32)), (0, .ref a0), (1, .int xp1)]) C.1.1 C.1.2.1 dX11_clauseByCites_12 rfl hl (by decide) rfl (fun ls hl => ?_)
  exact hB13 ql_FU xp1 (0 : Int32) _ _ _ _ S (lv_sub hl [1, 2, 0] rfl) w
def qw_X11_addedTotal (a0 : Nat) (h : ql_H) (Q : Int32 → ql_H → Prop) : Prop :=
ql_gR h (some a0) 12 0 fun r1 =>
ql_gI h r1 4 3 fun x2 =>
Q x2 h
set_option maxHeartbeats 4000000 in
set_option maxRecDepth 100000 in
theorem qm_X11_addedTotal (l : Launch) (hl9 : l.stackTraces = false) (D : ql_D) (h0 : ql_H) (a0 : Nat) (Q : Int32 → ql_H → Prop) (X : String → ql_H → Prop) (w : qw_X11_addedTotal a0 h0 Q) : ql_M D l yX11_addedTotal cX11_addedTotal 1 (some .int) ({ frames := 2, cells := 0, slots := 0, locals := 48 } : Room) h0 [.ref a0] (ql_rI Q) X 0 0 := by
  refine ql_ofW (by decide) (Nat.le_of_ble_eq_true rfl) ?_
  intro p e s m below meth c ls C hr hlocks hnm htab S hl
  have hl : lv_has ls 1 [(0, .ref a0)] := hl
  unfold qw_X11_addedTotal at w
  refine ql_aload_n (r := (some a0)) C dX11_addedTotal_0 rfl (lv_at hl 0 rfl) ?_
  refine ql_getR C S qf_12_0 gw_348 dX11_addedTotal_1 w (fun r1 w => ?_)
  refine ql_getIN C S qf_4_3 (qn_RX11_276) dX11_addedTotal_4 w (fun x2 w => ?_)
  exact ql_iret C S hr hlocks dX11_addedTotal_7 ⟨Nat.le_of_ble_eq_true rfl, Nat.le_of_ble_eq_true rfl⟩ w
def qw_X11_amendmentTotal (a0 : Nat) (h : ql_H) (Q : Int32 → ql_H → Prop) : Prop :=
ql_gR h (some a0) 12 0 fun r1 =>
ql_gI h r1 4 4 fun x2 =>
Q x2 h
set_option maxHeartbeats 4000000 in
set_option maxRecDepth 100000 in
theorem qm_X11_amendmentTotal (l : Launch) (hl9 : l.stackTraces = false) (D : ql_D) (h0 : ql_H) (a0 : Nat) (Q : Int32 → ql_H → Prop) (X : String → ql_H → Prop) (w : qw_X11_amendmentTotal a0 h0 Q) : ql_M D l yX11_amendmentTotal cX11_amendmentTotal 1 (some .int) ({ frames := 2, cells := 0, slots := 0, locals := 48 } : Room) h0 [.ref a0] (ql_rI Q) X 0 0 := by
  refine ql_ofW (by decide) (Nat.le_of_ble_eq_true rfl) ?_
  intro p e s m below meth c ls C hr hlocks hnm htab S hl
  have hl : lv_has ls 1 [(0, .ref a0)] := hl
  unfold qw_X11_amendmentTotal at w
  refine ql_aload_n (r := (some a0)) C dX11_amendmentTotal_0 rfl (lv_at hl 0 rfl) ?_
  refine ql_getR C S qf_12_0 gw_348 dX11_amendmentTotal_1 w (fun r1 w => ?_)
  refine ql_getIN C S qf_4_4 (qn_RX11_279) dX11_amendmentTotal_4 w (fun x2 w => ?_)
  exact ql_iret C S hr hlocks dX11_amendmentTotal_7 ⟨Nat.le_of_ble_eq_true rfl, Nat.le_of_ble_eq_true rfl⟩ w
def qw_X11_repealedTotal (a0 : Nat) (h : ql_H) (Q : Int32 → ql_H → Prop) : Prop :=
ql_gR h (some a0) 12 0 fun r1 =>
ql_gI h r1 4 5 fun x2 =>
Q x2 h
set_option maxHeartbeats 4000000 in
set_option maxRecDepth 100000 in
theorem qm_X11_repealedTotal (l : Launch) (hl9 : l.stackTraces = false) (D : ql_D) (h0 : ql_H) (a0 : Nat) (Q : Int32 → ql_H → Prop) (X : String → ql_H → Prop) (w : qw_X11_repealedTotal a0 h0 Q) : ql_M D l yX11_repealedTotal cX11_repealedTotal 1 (some .int) ({ frames := 2, cells := 0, slots := 0, locals := 48 } : Room) h0 [.ref a0] (ql_rI Q) X 0 0 := by
  refine ql_ofW (by decide) (Nat.le_of_ble_eq_true rfl) ?_
  intro p e s m below meth c ls C hr hlocks hnm htab S hl
  have hl : lv_has ls 1 [(0, .ref a0)] := hl
  unfold qw_X11_repealedTotal at w
  refine ql_aload_n (r := (some a0)) C dX11_repealedTotal_0 rfl (lv_at hl 0 rfl) ?_
  refine ql_getR C S qf_12_0 gw_348 dX11_repealedTotal_1 w (fun r1 w => ?_)
  refine ql_getIN C S qf_4_5 (qn_RX11_282) dX11_repealedTotal_4 w (fun x2 w => ?_)
  exact ql_iret C S hr hlocks dX11_repealedTotal_7 ⟨Nat.le_of_ble_eq_true rfl, Nat.le_of_ble_eq_true rfl⟩ w
def qw_X11_consolidatedTotal (a0 : Nat) (h : ql_H) (Q : Int32 → ql_H → Prop) : Prop :=
ql_gR h (some a0) 12 0 fun r1 =>
ql_gI h r1 4 6 fun x2 =>
Q x2 h
set_option maxHeartbeats 4000000 in
set_option maxRecDepth 100000 in
theorem qm_X11_consolidatedTotal (l : Launch) (hl9 : l.stackTraces = false) (D : ql_D) (h0 : ql_H) (a0 : Nat) (Q : Int32 → ql_H → Prop) (X : String → ql_H → Prop) (w : qw_X11_consolidatedTotal a0 h0 Q) : ql_M D l yX11_consolidatedTotal cX11_consolidatedTotal 1 (some .int) ({ frames := 2, cells := 0, slots := 0, locals := 48 } : Room) h0 [.ref a0] (ql_rI Q) X 0 0 := by
  refine ql_ofW (by decide) (Nat.le_of_ble_eq_true rfl) ?_
  intro p e s m below meth c ls C hr hlocks hnm htab S hl
  have hl : lv_has ls 1 [(0, .ref a0)] := hl
  unfold qw_X11_consolidatedTotal at w
  refine ql_aload_n (r := (some a0)) C dX11_consolidatedTotal_0 rfl (lv_at hl 0 rfl) ?_
  refine ql_getR C S qf_12_0 gw_348 dX11_consolidatedTotal_1 w (fun r1 w => ?_)
  refine ql_getIN C S qf_4_6 (qn_RX11_285) dX11_consolidatedTotal_4 w (fun x2 w => ?_)
  exact ql_iret C S hr hlocks dX11_consolidatedTotal_7 ⟨Nat.le_of_ble_eq_true rfl, Nat.le_of_ble_eq_true rfl⟩ w
def qw_X11_editionCount (a0 : Nat) (h : ql_H) (Q : Int32 → ql_H → Prop) : Prop :=
ql_gR h (some a0) 12 0 fun r1 =>
ql_gI h r1 4 7 fun x2 =>
Q x2 h
set_option maxHeartbeats 4000000 in
set_option maxRecDepth 100000 in
theorem qm_X11_editionCount (l : Launch) (hl9 : l.stackTraces = false) (D : ql_D) (h0 : ql_H) (a0 : Nat) (Q : Int32 → ql_H → Prop) (X : String → ql_H → Prop) (w : qw_X11_editionCount a0 h0 Q) : ql_M D l yX11_editionCount cX11_editionCount 1 (some .int) ({ frames := 2, cells := 0, slots := 0, locals := 48 } : Room) h0 [.ref a0] (ql_rI Q) X 0 0 := by
  refine ql_ofW (by decide) (Nat.le_of_ble_eq_true rfl) ?_
  intro p e s m below meth c ls C hr hlocks hnm htab S hl
  have hl : lv_has ls 1 [(0, .ref a0)] := hl
  unfold qw_X11_editionCount at w
  refine ql_aload_n (r := (some a0)) C dX11_editionCount_0 rfl (lv_at hl 0 rfl) ?_
  refine ql_getR C S qf_12_0 gw_348 dX11_editionCount_1 w (fun r1 w => ?_)
  refine ql_getIN C S qf_4_7 (qn_RX11_288) dX11_editionCount_4 w (fun x2 w => ?_)
  exact ql_iret C S hr hlocks dX11_editionCount_7 ⟨Nat.le_of_ble_eq_true rfl, Nat.le_of_ble_eq_true rfl⟩ w
def qw_X11_editionDay (a0 : Nat) (xp1 : Int32) (h : ql_H) (Q : Int32 → ql_H → Prop) (X : String → ql_H → Prop) : Prop :=
if xp1 < (1 : Int32) then (∀ n9 : Nat, h.1 ≤ n9 → X "java/util/NoSuchElementException" (n9, h.2)) else (ql_gR h (some a0) 12 0 fun r1 =>
ql_gI h r1 4 7 fun x2 =>
if x2 < xp1 then (∀ n9 : Nat, h.1 ≤ n9 → X "java/util/NoSuchElementException" (n9, h.2)) else (ql_gR h (some a0) 12 0 fun r3 =>
ql_gI h r3 4 7 fun x4 =>
if (x4 - (6 : Int32)) < xp1 then (ql_gR h (some a0) 12 0 fun r5 =>
ql_rv h r5 4 fun b6 => qw_X1_dayOfEdition b6 xp1 h (fun x6 h =>
Q x6 h)) else (∀ n9 : Nat, h.1 ≤ n9 → X "java/util/NoSuchElementException" (n9, h.2))))
set_option maxHeartbeats 4000000 in
set_option maxRecDepth 100000 in
theorem qm_X11_editionDay (l : Launch) (hl9 : l.stackTraces = false) (D : ql_D) (h0 : ql_H) (a0 : Nat) (xp1 : Int32) (Q : Int32 → ql_H → Prop) (X : String → ql_H → Prop) (w : qw_X11_editionDay a0 xp1 h0 Q X) : ql_M D l yX11_editionDay cX11_editionDay 2 (some .int) ({ frames := 8, cells := 1, slots := 6, locals := 135 } : Room) h0 [.ref a0, .int xp1] (ql_rI Q) X 1 6 := by
  refine ql_ofW (by decide) (Nat.le_of_ble_eq_true rfl) ?_
  intro p e s m below meth c ls C hr hlocks hnm htab S hl
  have hl : lv_has ls 2 [(0, .ref a0), (1, .int xp1)] := hl
  unfold qw_X11_editionDay at w
  refine lv_iload_n C.1.1 C.1.2.1 dX11_editionDay_0 rfl (lv_at hl 1 rfl) ?_
  refine lv_iconst (v := (1 : Int32)) C.1.1 C.1.2.1 dX11_editionDay_1 (by decide) ?_
  refine lv_icmp_lt (tgt := 30) C.1.1 C.1.2.1 dX11_editionDay_2 (by decide) (fun c9 => ?_) (fun c9 => ?_)
  · replace w := ql_if w c9
    exact ql_throw trivial C S qx_RX11_123 gw_488 gw_92 hl htab hlocks hl9 dX11_editionDay_30 dX11_editionDay_33 dX11_editionDay_34 dX11_editionDay_37 ⟨Nat.le_of_ble_eq_true rfl, Nat.le_of_ble_eq_true rfl, Nat.le_of_ble_eq_true rfl⟩ (by exact Nat.le_of_ble_eq_true rfl) ⟨Nat.le_of_ble_eq_true rfl, Nat.le_of_ble_eq_true rfl⟩ w
  · replace w := ql_ifn w c9
    refine lv_iload_n C.1.1 C.1.2.1 dX11_editionDay_5 rfl (lv_at hl 1 rfl) ?_
    refine ql_aload_n (r := (some a0)) C dX11_editionDay_6 rfl (lv_at hl 0 rfl) ?_
    refine ql_getR C S qf_12_0 gw_348 dX11_editionDay_7 w (fun r1 w => ?_)
    refine ql_getIN C S qf_4_7 (qn_RX11_288) dX11_editionDay_10 w (fun x2 w => ?_)
    refine lv_icmp_gt (tgt := 30) C.1.1 C.1.2.1 dX11_editionDay_13 (by decide) (fun c9 => ?_) (fun c9 => ?_)
    · replace w := ql_if w c9
      exact ql_throw trivial C S qx_RX11_123 gw_488 gw_92 hl htab hlocks hl9 dX11_editionDay_30 dX11_editionDay_33 dX11_editionDay_34 dX11_editionDay_37 ⟨Nat.le_of_ble_eq_true rfl, Nat.le_of_ble_eq_true rfl, Nat.le_of_ble_eq_true rfl⟩ (by exact Nat.le_of_ble_eq_true rfl) ⟨Nat.le_of_ble_eq_true rfl, Nat.le_of_ble_eq_true rfl⟩ w
    · replace w := ql_ifn w c9
      refine lv_iload_n C.1.1 C.1.2.1 dX11_editionDay_16 rfl (lv_at hl 1 rfl) ?_
      refine ql_aload_n (r := (some a0)) C dX11_editionDay_17 rfl (lv_at hl 0 rfl) ?_
      refine ql_getR C S qf_12_0 gw_348 dX11_editionDay_18 w (fun r3 w => ?_)
      refine ql_getIN C S qf_4_7 (qn_RX11_288) dX11_editionDay_21 w (fun x4 w => ?_)
      refine lv_bipush (v := (6 : Int32)) C.1.1 C.1.2.1 dX11_editionDay_24 (by decide) ?_
      refine lv_isub C.1.1 C.1.2.1 dX11_editionDay_26 ?_
      refine lv_icmp_gt (tgt := 38) C.1.1 C.1.2.1 dX11_editionDay_27 (by decide) (fun c9 => ?_) (fun c9 => ?_)
      · replace w := ql_if w c9
        refine ql_aload_n (r := (some a0)) C dX11_editionDay_38 rfl (lv_at hl 0 rfl) ?_
        refine ql_getR C S qf_12_0 gw_348 dX11_editionDay_39 w (fun r5 w => ?_)
        refine lv_iload_n C.1.1 C.1.2.1 dX11_editionDay_42 rfl (lv_at hl 1 rfl) ?_
        refine ql_VI (As := [.int xp1]) (rest := []) C S htab hlocks hl qy_X1_dayOfEdition qi_X1_dayOfEdition qs_X1_dayOfEdition gw_1158 (ci := 4) rfl w (fun b w => qm_X1_dayOfEdition l hl9 D _ b xp1 _ _ w) rfl ⟨Nat.le_of_ble_eq_true rfl, Nat.le_of_ble_eq_true rfl⟩ ⟨rfl, rfl⟩ (by exact Nat.le_of_ble_eq_true rfl) (fun b e9 => by cases e9; rfl) dX11_editionDay_43 ⟨Nat.le_of_ble_eq_true rfl, Nat.le_of_ble_eq_true rfl⟩ ⟨Nat.le_of_ble_eq_true rfl, Nat.le_of_ble_eq_true rfl⟩ (fun x6 h H locs S w => ?_)
        refine W.cs (cells' := 0) (slots' := 0) rfl rfl ?_
        exact ql_iret C S hr hlocks dX11_editionDay_46 ⟨Nat.le_of_ble_eq_true rfl, Nat.le_of_ble_eq_true rfl⟩ w
      · replace w := ql_ifn w c9
        exact ql_throw trivial C S qx_RX11_123 gw_488 gw_92 hl htab hlocks hl9 dX11_editionDay_30 dX11_editionDay_33 dX11_editionDay_34 dX11_editionDay_37 ⟨Nat.le_of_ble_eq_true rfl, Nat.le_of_ble_eq_true rfl, Nat.le_of_ble_eq_true rfl⟩ (by exact Nat.le_of_ble_eq_true rfl) ⟨Nat.le_of_ble_eq_true rfl, Nat.le_of_ble_eq_true rfl⟩ w
def qw_X11_meanLength (a0 : Nat) (h : ql_H) (Q : UInt64 → ql_H → Prop) (X : String → ql_H → Prop) : Prop :=
ql_gR h (some a0) 12 0 fun r1 =>
ql_rv h r1 4 fun b2 => qw_X1_countClauses b2  h (fun x2 h =>
if x2 = 0 then (∀ n9 : Nat, h.1 ≤ n9 → X "java/lang/ArithmeticException" (n9, h.2)) else (ql_gR h (some a0) 12 0 fun r4 =>
ql_rv h r4 4 fun b5 => qw_X1_countNotes b5  h (fun x5 h =>
vf_n64 (FP.ddiv (FP.i2d x5) (FP.i2d x2)) ∧
Q (FP.ddiv (FP.i2d x5) (FP.i2d x2)) h)))
set_option maxHeartbeats 4000000 in
set_option maxRecDepth 100000 in
theorem qm_X11_meanLength (l : Launch) (hl9 : l.stackTraces = false) (D : ql_D) (h0 : ql_H) (a0 : Nat) (Q : UInt64 → ql_H → Prop) (X : String → ql_H → Prop) (w : qw_X11_meanLength a0 h0 Q X) : ql_M D l yX11_meanLength cX11_meanLength 2 (some .double) ({ frames := 8, cells := 1, slots := 6, locals := 141 } : Room) h0 [.ref a0] (ql_rD Q) X 1 6 := by
  refine ql_ofW (by decide) (Nat.le_of_ble_eq_true rfl) ?_
  intro p e s m below meth c ls C hr hlocks hnm htab S hl
  have hl : lv_has ls 2 [(0, .ref a0)] := hl
  unfold qw_X11_meanLength at w
  refine ql_aload_n (r := (some a0)) C dX11_meanLength_0 rfl (lv_at hl 0 rfl) ?_
  refine ql_getR C S qf_12_0 gw_348 dX11_meanLength_1 w (fun r1 w => ?_)
  refine ql_VI (As := []) (rest := []) C S htab hlocks hl qy_X1_countClauses qi_X1_countClauses qs_X1_countClauses gw_633 (ci := 4) rfl w (fun b w => qm_X1_countClauses l hl9 D _ b _ _ w) rfl ⟨Nat.le_of_ble_eq_true rfl, Nat.le_of_ble_eq_true rfl⟩ ⟨rfl, rfl⟩ (by exact Nat.le_of_ble_eq_true rfl) (fun b e9 => by cases e9; rfl) dX11_meanLength_4 ⟨Nat.le_of_ble_eq_true rfl, Nat.le_of_ble_eq_true rfl⟩ ⟨Nat.le_of_ble_eq_true rfl, Nat.le_of_ble_eq_true rfl⟩ (fun x2 h H locs S w => ?_)
  refine W.cs (cells' := 0) (slots' := 0) rfl rfl ?_
  refine lv_istore_n (lv' := [(1, .int x2), (0, .ref a0)]) C.1.1 C.1.2.1 dX11_meanLength_7 rfl hl (by decide) rfl (fun ls hl => ?_)
  refine lv_iload_n C.1.1 C.1.2.1 dX11_meanLength_8 rfl (lv_at hl 0 rfl) ?_
  refine lv_if_ne (tgt := 20) C.1.1 C.1.2.1 dX11_meanLength_9 (by decide) (fun c9 => ?_) (fun c9 => ?_)
  · replace w := ql_ifn w c9
    refine ql_aload_n (r := (some a0)) C dX11_meanLength_20 rfl (lv_at hl 1 rfl) ?_
    refine ql_getR C S qf_12_0 gw_348 dX11_meanLength_21 w (fun r4 w => ?_)
    refine ql_VI (As := []) (rest := []) C S htab hlocks hl qy_X1_countNotes qi_X1_countNotes qs_X1_countNotes gw_1188 (ci := 4) rfl w (fun b w => qm_X1_countNotes l hl9 D _ b _ _ w) rfl ⟨Nat.le_of_ble_eq_true rfl, Nat.le_of_ble_eq_true rfl⟩ ⟨rfl, rfl⟩ (by exact Nat.le_of_ble_eq_true rfl) (fun b e9 => by cases e9; rfl) dX11_meanLength_24 ⟨Nat.le_of_ble_eq_true rfl, Nat.le_of_ble_eq_true rfl⟩ ⟨Nat.le_of_ble_eq_true rfl, Nat.le_of_ble_eq_true rfl⟩ (fun x5 h H locs S w => ?_)
    refine W.cs (cells' := 0) (slots' := 0) rfl rfl ?_
    refine lv_i2d C.1.1 C.1.2.1 dX11_meanLength_27 ?_
    refine lv_iload_n C.1.1 C.1.2.1 dX11_meanLength_28 rfl (lv_at hl 0 rfl) ?_
    refine lv_i2d C.1.1 C.1.2.1 dX11_meanLength_29 ?_
    refine lv_ddiv C.1.1 C.1.2.1 dX11_meanLength_30 w.1 ?_
    replace w := w.2
    exact ql_dret C S hr hlocks dX11_meanLength_31 ⟨Nat.le_of_ble_eq_true rfl, Nat.le_of_ble_eq_true rfl⟩ w
  · replace w := ql_if w c9
    exact ql_throw trivial C S qx_RX11_296 gw_1183 gw_99 hl htab hlocks hl9 dX11_meanLength_12 dX11_meanLength_15 dX11_meanLength_16 dX11_meanLength_19 ⟨Nat.le_of_ble_eq_true rfl, Nat.le_of_ble_eq_true rfl, Nat.le_of_ble_eq_true rfl⟩ (by exact Nat.le_of_ble_eq_true rfl) ⟨Nat.le_of_ble_eq_true rfl, Nat.le_of_ble_eq_true rfl⟩ w
def qw_X11_inForceShare (a0 : Nat) (h : ql_H) (Q : UInt32 → ql_H → Prop) (X : String → ql_H → Prop) : Prop :=
ql_gR h (some a0) 12 0 fun r1 =>
ql_rv h r1 4 fun b2 => qw_X1_countClauses b2  h (fun x2 h =>
if x2 = 0 then (∀ n9 : Nat, h.1 ≤ n9 → X "java/lang/ArithmeticException" (n9, h.2)) else (ql_gR h (some a0) 12 0 fun r4 =>
ql_gR h (some a0) 12 0 fun r5 =>
ql_gI h r5 4 2 fun x6 =>
ql_rv h r4 4 fun b7 => qw_X1_countHoldingOn b7 x6 h (fun x7 h =>
vf_n32 (FP.fdiv (FP.i2f x7) (FP.i2f x2)) ∧
Q (FP.fdiv (FP.i2f x7) (FP.i2f x2)) h)))
set_option maxHeartbeats 4000000 in
set_option maxRecDepth 100000 in
theorem qm_X11_inForceShare (l : Launch) (hl9 : l.stackTraces = false) (D : ql_D) (h0 : ql_H) (a0 : Nat) (Q : UInt32 → ql_H → Prop) (X : String → ql_H → Prop) (w : qw_X11_inForceShare a0 h0 Q X) : ql_M D l yX11_inForceShare cX11_inForceShare 2 (some .float) ({ frames := 8, cells := 1, slots := 6, locals := 139 } : Room) h0 [.ref a0] (ql_rF Q) X 1 6 := by
  refine ql_ofW (by decide) (Nat.le_of_ble_eq_true rfl) ?_
  intro p e s m below meth c ls C hr hlocks hnm htab S hl
  have hl : lv_has ls 2 [(0, .ref a0)] := hl
  unfold qw_X11_inForceShare at w
  refine ql_aload_n (r := (some a0)) C dX11_inForceShare_0 rfl (lv_at hl 0 rfl) ?_
  refine ql_getR C S qf_12_0 gw_348 dX11_inForceShare_1 w (fun r1 w => ?_)
  refine ql_VI (As := []) (rest := []) C S htab hlocks hl qy_X1_countClauses qi_X1_countClauses qs_X1_countClauses gw_633 (ci := 4) rfl w (fun b w => qm_X1_countClauses l hl9 D _ b _ _ w) rfl ⟨Nat.le_of_ble_eq_true rfl, Nat.le_of_ble_eq_true rfl⟩ ⟨rfl, rfl⟩ (by exact Nat.le_of_ble_eq_true rfl) (fun b e9 => by cases e9; rfl) dX11_inForceShare_4 ⟨Nat.le_of_ble_eq_true rfl, Nat.le_of_ble_eq_true rfl⟩ ⟨Nat.le_of_ble_eq_true rfl, Nat.le_of_ble_eq_true rfl⟩ (fun x2 h H locs S w => ?_)
  refine W.cs (cells' := 0) (slots' := 0) rfl rfl ?_
  refine lv_istore_n (lv' := [(1, .int x2), (0, .ref a0)]) C.1.1 C.1.2.1 dX11_inForceShare_7 rfl hl (by decide) rfl (fun ls hl => ?_)
  refine lv_iload_n C.1.1 C.1.2.1 dX11_inForceShare_8 rfl (lv_at hl 0 rfl) ?_
  refine lv_if_ne (tgt := 20) C.1.1 C.1.2.1 dX11_inForceShare_9 (by decide) (fun c9 => ?_) (fun c9 => ?_)
  · replace w := ql_ifn w c9
    refine ql_aload_n (r := (some a0)) C dX11_inForceShare_20 rfl (lv_at hl 1 rfl) ?_
    refine ql_getR C S qf_12_0 gw_348 dX11_inForceShare_21 w (fun r4 w => ?_)
    refine ql_aload_n (r := (some a0)) C dX11_inForceShare_24 rfl (lv_at hl 1 rfl) ?_
    refine ql_getR C S qf_12_0 gw_348 dX11_inForceShare_25 w (fun r5 w => ?_)
    refine ql_getIN C S qf_4_2 (qn_RX11_136) dX11_inForceShare_28 w (fun x6 w => ?_)
    refine ql_VI (As := [.int x6]) (rest := []) C S htab hlocks hl qy_X1_countHoldingOn qi_X1_countHoldingOn qs_X1_countHoldingOn gw_641 (ci := 4) rfl w (fun b w => qm_X1_countHoldingOn l hl9 D _ b x6 _ _ w) rfl ⟨Nat.le_of_ble_eq_true rfl, Nat.le_of_ble_eq_true rfl⟩ ⟨rfl, rfl⟩ (by exact Nat.le_of_ble_eq_true rfl) (fun b e9 => by cases e9; rfl) dX11_inForceShare_31 ⟨Nat.le_of_ble_eq_true rfl, Nat.le_of_ble_eq_true rfl⟩ ⟨Nat.le_of_ble_eq_true rfl, Nat.le_of_ble_eq_true rfl⟩ (fun x7 h H locs S w => ?_)
    refine W.cs (cells' := 0) (slots' := 0) rfl rfl ?_
    refine lv_i2f C.1.1 C.1.2.1 dX11_inForceShare_34 ?_
    refine lv_iload_n C.1.1 C.1.2.1 dX11_inForceShare_35 rfl (lv_at hl 0 rfl) ?_
    refine lv_i2f C.1.1 C.1.2.1 dX11_inForceShare_36 ?_
    refine lv_fdiv C.1.1 C.1.2.1 dX11_inForceShare_37 w.1 ?_
    replace w := w.2
    exact ql_fret C S hr hlocks dX11_inForceShare_38 ⟨Nat.le_of_ble_eq_true rfl, Nat.le_of_ble_eq_true rfl⟩ w
  · replace w := ql_if w c9
    exact ql_throw trivial C S qx_RX11_296 gw_1183 gw_99 hl htab hlocks hl9 dX11_inForceShare_12 dX11_inForceShare_15 dX11_inForceShare_16 dX11_inForceShare_19 ⟨Nat.le_of_ble_eq_true rfl, Nat.le_of_ble_eq_true rfl, Nat.le_of_ble_eq_true rfl⟩ (by exact Nat.le_of_ble_eq_true rfl) ⟨Nat.le_of_ble_eq_true rfl, Nat.le_of_ble_eq_true rfl⟩ w
def qw_X11_differencesAgree_84 (a0 : Nat) (Q : Int32 → ql_H → Prop) (k13 : Option Nat → Int32 → Int32 → ql_H → Prop) (rl1 : Option Nat) (xl2 : Int32) (xl3 : Int32) (h : ql_H) : Prop :=
k13 rl1 xl2 (xl3 + (1 : Int32)) h
def qw_X11_differencesAgree_13 (a0 : Nat) (Q : Int32 → ql_H → Prop) : Nat → Option Nat → Int32 → Int32 → ql_H → Prop
  | 0, _, _, _, _ => False
  | n + 1, rl1, xl2, xl3, h =>
    if xl2 ≤ xl3 then (ql_nz .boolean (1 : Int32) ∧ Q (1 : Int32) h) else (ql_lR h rl1 5 xl3 fun r1 =>
    ql_gI h r1 6 0 fun x2 =>
    if x2 = 0 then (qw_X11_differencesAgree_84 a0 Q (qw_X11_differencesAgree_13 a0 Q n) rl1 xl2 xl3 h) else (ql_rv h r1 6 fun b3 => qw_X3_firstDay b3  h (fun x3 h =>
    ql_rv h r1 6 fun b5 => qw_X3_textOnDay b5 x3 h (fun j5 h =>
    ql_gR h (some a0) 12 0 fun r7 =>
    ql_gI h r7 4 2 fun x8 =>
    ql_rv h r1 6 fun b9 => qw_X3_textOnDay b9 x8 h (fun j9 h =>
    ql_gR h (some a0) 12 8 fun r11 =>
    ql_rv h r11 8 fun b12 => qw_X5_byBeginnings b12 j5 j9 h (fun x12 h =>
    ql_gR h (some a0) 12 8 fun r14 =>
    ql_rv h r14 8 fun b15 => qw_X5_byEnds b15 j5 j9 h (fun x15 h =>
    if x12 = x15 then (qw_X11_differencesAgree_84 a0 Q (qw_X11_differencesAgree_13 a0 Q n) rl1 xl2 xl3 h) else (ql_nz .boolean (0 : Int32) ∧ Q (0 : Int32) h))))))))
def qw_X11_differencesAgree (a0 : Nat) (h : ql_H) (Q : Int32 → ql_H → Prop) : Prop :=
ql_gR h (some a0) 12 0 fun r17 =>
ql_gR h r17 4 0 fun r18 =>
ql_len h r18 5 fun x19 =>
qw_X11_differencesAgree_13 a0 Q ql_FU r18 x19 (0 : Int32) h
set_option maxHeartbeats 4000000 in
set_option maxRecDepth 100000 in
theorem qm_X11_differencesAgree (l : Launch) (hl9 : l.stackTraces = false) (D : ql_D) (h0 : ql_H) (a0 : Nat) (Q : Int32 → ql_H → Prop) (X : String → ql_H → Prop) (w : qw_X11_differencesAgree a0 h0 Q) : ql_M D l yX11_differencesAgree cX11_differencesAgree 9 (some .boolean) ({ frames := 8, cells := 0, slots := 0, locals := 144 } : Room) h0 [.ref a0] (ql_rI Q) X 0 0 := by
  refine ql_ofW (by decide) (Nat.le_of_ble_eq_true rfl) ?_
  intro p e s m below meth c ls C hr hlocks hnm htab S hl
  have hl : lv_has ls 9 [(0, .ref a0)] := hl
  have hB84 : ∀ (k13 : Option Nat → Int32 → Int32 → ql_H → Prop) (hk13 : ∀ (rl1 : Option Nat) (xl2 : Int32) (xl3 : Int32) (h : ql_H) (H : Heap) (locs : List Loc) (ls : Array Slot), ql_S D h0 s H locs h → lv_has ls 9 [(0, .ref a0), (1, va_rf rl1), (2, .int xl2), (3, .int xl3)] → k13 rl1 xl2 xl3 h → W p l e ({ frames := 8, cells := 0, slots := 0, locals := 144 } : Room) s m ([.ref a0] : List Value).toArray below meth c H locs 0 0 (vx_MQ below (ql_Q D h0 (ql_rI Q)) (ql_X D h0 X) ([.ref a0] : List Value).toArray s 0 0 (ql_A h0)) (F0 m 13 ls [])) , ∀ (rl1 : Option Nat) (xl2 : Int32) (xl3 : Int32) (h : ql_H) (H : Heap) (locs : List Loc) (ls : Array Slot), ql_S D h0 s H locs h → lv_has ls 9 [(0, .ref a0), (1, va_rf rl1), (2, .int xl2), (3, .int xl3)] → qw_X11_differencesAgree_84 a0 Q k13 rl1 xl2 xl3 h → W p l e ({ frames := 8, cells := 0, slots := 0, locals := 144 } : Room) s m ([.ref a0] : List Value).toArray below meth c H locs 0 0 (vx_MQ below (ql_Q D h0 (ql_rI Q)) (ql_X D h0 X) ([.ref a0] : List Value).toArray s 0 0 (ql_A h0)) (F0 m 84 ls []) := by
    intro k13 hk13 rl1 xl2 xl3 h H locs ls S hl w
    unfold qw_X11_differencesAgree_84 at w
    refine lv_iinc (v := (xl3 + (1 : Int32))) (lv' := [(3, .int (xl3 + (1 : Int32))), (0, .ref a0), (1, va_rf rl1), (2, .int xl2)]) C.1.1 C.1.2.1 dX11_differencesAgree_84 hl (k := 3) rfl rfl (by decide) rfl (fun ls hl => ?_)
    refine lv_goto (tgt := 13) C.1.1 C.1.2.1 dX11_differencesAgree_87 (by decide) ?_
    exact hk13 rl1 xl2 (xl3 + (1 : Int32)) _ _ _ _ S (lv_sub hl [1, 2, 3, 0] rfl) w
  have hB13 : ∀ n : Nat, ∀ (rl1 : Option Nat) (xl2 : Int32) (xl3 : Int32) (h : ql_H) (H : Heap) (locs : List Loc) (ls : Array Slot), ql_S D h0 s H locs h → lv_has ls 9 [(0, .ref a0), (1, va_rf rl1), (2, .int xl2), (3, .int xl3)] → qw_X11_differencesAgree_13 a0 Q n rl1 xl2 xl3 h → W p l e ({ frames := 8, cells := 0, slots := 0, locals := 144 } : Room) s m ([.ref a0] : List Value).toArray below meth c H locs 0 0 (vx_MQ below (ql_Q D h0 (ql_rI Q)) (ql_X D h0 X) ([.ref a0] : List Value).toArray s 0 0 (ql_A h0)) (F0 m 13 ls []) := by
    intro n
    induction n with
    | zero => intro rl1 xl2 xl3 h H locs ls S hl w; rw [qw_X11_differencesAgree_13] at w; exact w.elim
    | succ n ih =>
      intro rl1 xl2 xl3 h H locs ls S hl w
      rw [qw_X11_differencesAgree_13] at w
      refine lv_iload_n C.1.1 C.1.2.1 dX11_differencesAgree_13 rfl (lv_at hl 3 rfl) ?_
      refine lv_iload_n C.1.1 C.1.2.1 dX11_differencesAgree_14 rfl (lv_at hl 2 rfl) ?_
      refine lv_icmp_ge (tgt := 90) C.1.1 C.1.2.1 dX11_differencesAgree_15 (by decide) (fun c9 => ?_) (fun c9 => ?_)
      · replace w := ql_if w c9
        refine lv_iconst (v := (1 : Int32)) C.1.1 C.1.2.1 dX11_differencesAgree_90 (by decide) ?_
        exact ql_zret C S hr hlocks dX11_differencesAgree_91 ⟨Nat.le_of_ble_eq_true rfl, Nat.le_of_ble_eq_true rfl⟩ w
      · replace w := ql_ifn w c9
        refine ql_aload_n (r := rl1) C dX11_differencesAgree_18 rfl (lv_at hl 1 rfl) ?_
        refine lv_iload_n C.1.1 C.1.2.1 dX11_differencesAgree_19 rfl (lv_at hl 3 rfl) ?_
        refine ql_aald (kd := 5) C S rfl rfl dX11_differencesAgree_20 w (fun r1 w => ?_)
        refine ql_astore (lv' := [(4, va_rf r1), (0, .ref a0), (1, va_rf rl1), (2, .int xl2), (3, .int xl3)]) C dX11_differencesAgree_21 hl (by decide) rfl (fun ls hl => ?_)
        refine ql_aload (r := r1) C dX11_differencesAgree_23 (lv_at hl 0 rfl) ?_
        refine ql_getIN C S qf_6_0 (qn_RX11_225) dX11_differencesAgree_25 w (fun x2 w => ?_)
        refine lv_if_eq (tgt := 84) C.1.1 C.1.2.1 dX11_differencesAgree_28 (by decide) (fun c9 => ?_) (fun c9 => ?_)
        · replace w := ql_if w c9
          exact hB84 (qw_X11_differencesAgree_13 a0 Q n) ih rl1 xl2 xl3 _ _ _ _ S (lv_sub hl [1, 2, 3, 4] rfl) w
        · replace w := ql_ifn w c9
          refine ql_aload (r := r1) C dX11_differencesAgree_31 (lv_at hl 0 rfl) ?_
          refine ql_aload (r := r1) C dX11_differencesAgree_33 (lv_at hl 0 rfl) ?_
          refine ql_VI (As := []) (rest := [va_rf r1]) C S htab hlocks hl qy_X3_firstDay qi_X3_firstDay qs_X3_firstDay gw_706 (ci := 6) rfl w (fun b w => qm_X3_firstDay l hl9 D _ b _ _ w) rfl ⟨Nat.le_of_ble_eq_true rfl, Nat.le_of_ble_eq_true rfl⟩ ⟨rfl, rfl⟩ (by generalize r1 = z0; cases z0 <;> exact Nat.le_of_ble_eq_true rfl) (fun b e9 => by cases e9; rfl) dX11_differencesAgree_35 ⟨Nat.le_of_ble_eq_true rfl, Nat.le_of_ble_eq_true rfl⟩ ⟨Nat.le_of_ble_eq_true rfl, Nat.le_of_ble_eq_true rfl⟩ (fun x3 h H locs S w => ?_)
          refine W.cs (cells' := 0) (slots' := 0) rfl rfl ?_
          refine ql_VJ (As := [.int x3]) (rest := []) C S htab hlocks hl qy_X3_textOnDay qi_X3_textOnDay qs_X3_textOnDay gw_710 (ci := 6) rfl w (fun b w => qm_X3_textOnDay l hl9 D _ b x3 _ _ w) rfl ⟨Nat.le_of_ble_eq_true rfl, Nat.le_of_ble_eq_true rfl⟩ ⟨rfl, rfl⟩ (by exact Nat.le_of_ble_eq_true rfl) (fun b e9 => by cases e9; rfl) dX11_differencesAgree_38 ⟨Nat.le_of_ble_eq_true rfl, Nat.le_of_ble_eq_true rfl⟩ ⟨Nat.le_of_ble_eq_true rfl, Nat.le_of_ble_eq_true rfl⟩ (fun j5 h H locs S w => ?_)
          refine W.cs (cells' := 0) (slots' := 0) rfl rfl ?_
          refine lv_lstore (lv' := [(5, .long j5), (4, va_rf r1), (0, .ref a0), (1, va_rf rl1), (2, .int xl2), (3, .int xl3)]) C.1.1 C.1.2.1 dX11_differencesAgree_41 hl (by decide) (by generalize r1 = z9; cases z9 <;> rfl) (fun ls hl => ?_)
          refine ql_aload (r := r1) C dX11_differencesAgree_43 (lv_at hl 1 rfl) ?_
          refine ql_aload_n (r := (some a0)) C dX11_differencesAgree_45 rfl (lv_at hl 2 rfl) ?_
          refine ql_getR C S qf_12_0 gw_348 dX11_differencesAgree_46 w (fun r7 w => ?_)
          refine ql_getIN C S qf_4_2 (qn_RX11_136) dX11_differencesAgree_49 w (fun x8 w => ?_)
          refine ql_VJ (As := [.int x8]) (rest := []) C S htab hlocks hl qy_X3_textOnDay qi_X3_textOnDay qs_X3_textOnDay gw_710 (ci := 6) rfl w (fun b w => qm_X3_textOnDay l hl9 D _ b x8 _ _ w) rfl ⟨Nat.le_of_ble_eq_true rfl, Nat.le_of_ble_eq_true rfl⟩ ⟨rfl, rfl⟩ (by exact Nat.le_of_ble_eq_true rfl) (fun b e9 => by cases e9; rfl) dX11_differencesAgree_52 ⟨Nat.le_of_ble_eq_true rfl, Nat.le_of_ble_eq_true rfl⟩ ⟨Nat.le_of_ble_eq_true rfl, Nat.le_of_ble_eq_true rfl⟩ (fun j9 h H locs S w => ?_)
          refine W.cs (cells' := 0) (slots' := 0) rfl rfl ?_
          refine lv_lstore (lv' := [(7, .long j9), (5, .long j5), (4, va_rf r1), (0, .ref a0), (1, va_rf rl1), (2, .int xl2), (3, .int xl3)]) C.1.1 C.1.2.1 dX11_differencesAgree_55 hl (by decide) rfl (fun ls hl => ?_)
          refine ql_aload_n (r := (some a0)) C dX11_differencesAgree_57 rfl (lv_at hl 3 rfl) ?_
          refine ql_getR C S qf_12_8 gw_356 dX11_differencesAgree_58 w (fun r11 w => ?_)
          refine lv_lload C.1.1 C.1.2.1 dX11_differencesAgree_61 (lv_at hl 1 rfl) ?_
          refine lv_lload C.1.1 C.1.2.1 dX11_differencesAgree_63 (lv_at hl 0 rfl) ?_
          refine ql_VI (As := [.long j5, .long j9]) (rest := []) C S htab hlocks hl qy_X5_byBeginnings qi_X5_byBeginnings qs_X5_byBeginnings gw_714 (ci := 8) rfl w (fun b w => qm_X5_byBeginnings l hl9 D _ b j5 j9 _ _ w) rfl ⟨Nat.le_of_ble_eq_true rfl, Nat.le_of_ble_eq_true rfl⟩ ⟨rfl, rfl⟩ (by exact Nat.le_of_ble_eq_true rfl) (fun b e9 => by cases e9; rfl) dX11_differencesAgree_65 ⟨Nat.le_of_ble_eq_true rfl, Nat.le_of_ble_eq_true rfl⟩ ⟨Nat.le_of_ble_eq_true rfl, Nat.le_of_ble_eq_true rfl⟩ (fun x12 h H locs S w => ?_)
          refine W.cs (cells' := 0) (slots' := 0) rfl rfl ?_
          refine ql_aload_n (r := (some a0)) C dX11_differencesAgree_68 rfl (lv_at hl 3 rfl) ?_
          refine ql_getR C S qf_12_8 gw_356 dX11_differencesAgree_69 w (fun r14 w => ?_)
          refine lv_lload C.1.1 C.1.2.1 dX11_differencesAgree_72 (lv_at hl 1 rfl) ?_
          refine lv_lload C.1.1 C.1.2.1 dX11_differencesAgree_74 (lv_at hl 0 rfl) ?_
          refine ql_VI (As := [.long j5, .long j9]) (rest := [.int x12]) C S htab hlocks hl qy_X5_byEnds qi_X5_byEnds qs_X5_byEnds gw_728 (ci := 8) rfl w (fun b w => qm_X5_byEnds l hl9 D _ b j5 j9 _ _ w) rfl ⟨Nat.le_of_ble_eq_true rfl, Nat.le_of_ble_eq_true rfl⟩ ⟨rfl, rfl⟩ (by exact Nat.le_of_ble_eq_true rfl) (fun b e9 => by cases e9; rfl) dX11_differencesAgree_76 ⟨Nat.le_of_ble_eq_true rfl, Nat.le_of_ble_eq_true rfl⟩ ⟨Nat.le_of_ble_eq_true rfl, Nat.le_of_ble_eq_true rfl⟩ (fun x15 h H locs S w => ?_)
          refine W.cs (cells' := 0) (slots' := 0) rfl rfl ?_
          refine lv_icmp_eq (tgt := 84) C.1.1 C.1.2.1 dX11_differencesAgree_79 (by decide) (fun c9 => ?_) (fun c9 => ?_)
          · replace w := ql_if w c9
            exact hB84 (qw_X11_differencesAgree_13 a0 Q n) ih rl1 xl2 xl3 _ _ _ _ S (lv_sub hl [3, 4, 5, 6] rfl) w
          · replace w := ql_ifn w c9
            refine lv_iconst (v := (0 : Int32)) C.1.1 C.1.2.1 dX11_differencesAgree_82 (by decide) ?_
            exact ql_zret C S hr hlocks dX11_differencesAgree_83 ⟨Nat.le_of_ble_eq_true rfl, Nat.le_of_ble_eq_true rfl⟩ w
  unfold qw_X11_differencesAgree at w
  refine ql_aload_n (r := (some a0)) C dX11_differencesAgree_0 rfl (lv_at hl 0 rfl) ?_
  refine ql_getR C S qf_12_0 gw_348 dX11_differencesAgree_1 w (fun r17 w => ?_)
  refine ql_getRN C S qf_4_0 (qn_RX11_221) dX11_differencesAgree_4 w (fun r18 w => ?_)
  refine ql_astore_n (lv' := [(1, va_rf r18), (0, .ref a0)]) C dX11_differencesAgree_7 rfl hl (by decide) rfl (fun ls hl => ?_)
  refine ql_aload_n (r := r18) C dX11_differencesAgree_8 rfl (lv_at hl 0 rfl) ?_
  refine ql_alen (kd := 5) C S rfl dX11_differencesAgree_9 w (fun x19 w => ?_)
  refine lv_istore_n (lv' := [(2, .int x19), (1, va_rf r18), (0, .ref a0)]) C.1.1 C.1.2.1 dX11_differencesAgree_10 rfl hl (by decide) (by generalize r18 = z9; cases z9 <;> rfl) (fun ls hl => ?_)
  refine lv_iconst (v := (0 : Int32)) C.1.1 C.1.2.1 dX11_differencesAgree_11 (by decide) ?_
  refine lv_istore_n (lv' := [(3, .int (0 : Int32)), (2, .int x19), (1, va_rf r18), (0, .ref a0)]) C.1.1 C.1.2.1 dX11_differencesAgree_12 rfl hl (by decide) rfl (fun ls hl => ?_)
  exact hB13 ql_FU r18 x19 (0 : Int32) _ _ _ _ S (lv_sub hl [3, 2, 1, 0] rfl) w
def qw_X11_indirectCitesAgree_20 (a0 : Nat) (Q : Int32 → ql_H → Prop) : Nat → Int32 → ql_H → Prop
  | 0, _, _ => False
  | n + 1, xl1, h =>
    if (16 : Int32) ≤ xl1 then (ql_nz .boolean (1 : Int32) ∧ Q (1 : Int32) h) else (ql_gR h (some a0) 12 10 fun r1 =>
    ql_rv h r1 5 fun b2 => qw_X2_slotsFoundFrom b2 xl1 h (fun x2 h =>
    ql_gR h (some a0) 12 10 fun r4 =>
    ql_rv h r4 5 fun b5 => qw_X2_slotsClosedFrom b5 xl1 h (fun x5 h =>
    if x2 = x5 then (qw_X11_indirectCitesAgree_20 a0 Q n (xl1 + (1 : Int32)) h) else (ql_nz .boolean (0 : Int32) ∧ Q (0 : Int32) h))))
def qw_X11_indirectCitesAgree (a0 : Nat) (h : ql_H) (Q : Int32 → ql_H → Prop) : Prop :=
ql_gR h (some a0) 12 10 fun r7 =>
ql_gR h (some a0) 12 0 fun r8 =>
ql_rv h r7 5 fun b8 => qw_X2_read b8 r8 h (fun h =>
ql_gR h (some a0) 12 10 fun r10 =>
ql_rv h r10 5 fun b10 => qw_X2_close b10  h (fun h =>
qw_X11_indirectCitesAgree_20 a0 Q ql_FU (0 : Int32) h))
set_option maxHeartbeats 4000000 in
set_option maxRecDepth 100000 in
theorem qm_X11_indirectCitesAgree (l : Launch) (hl9 : l.stackTraces = false) (D : ql_D) (h0 : ql_H) (a0 : Nat) (Q : Int32 → ql_H → Prop) (X : String → ql_H → Prop) (w : qw_X11_indirectCitesAgree a0 h0 Q) : ql_M D l yX11_indirectCitesAgree cX11_indirectCitesAgree 2 (some .boolean) ({ frames := 8, cells := 0, slots := 0, locals := 142 } : Room) h0 [.ref a0] (ql_rI Q) X 0 0 := by
  refine ql_ofW (by decide) (Nat.le_of_ble_eq_true rfl) ?_
  intro p e s m below meth c ls C hr hlocks hnm htab S hl
  have hl : lv_has ls 2 [(0, .ref a0)] := hl
  have hB20 : ∀ n : Nat, ∀ (xl1 : Int32) (h : ql_H) (H : Heap) (locs : List Loc) (ls : Array Slot), ql_S D h0 s H locs h → lv_has ls 2 [(0, .ref a0), (1, .int xl1)] → qw_X11_indirectCitesAgree_20 a0 Q n xl1 h → W p l e ({ frames := 8, cells := 0, slots := 0, locals := 142 } : Room) s m ([.ref a0] : List Value).toArray below meth c H locs 0 0 (vx_MQ below (ql_Q D h0 (ql_rI Q)) (ql_X D h0 X) ([.ref a0] : List Value).toArray s 0 0 (ql_A h0)) (F0 m 20 ls []) := by
    intro n
    induction n with
    | zero => intro xl1 h H locs ls S hl w; rw [qw_X11_indirectCitesAgree_20] at w; exact w.elim
    | succ n ih =>
      intro xl1 h H locs ls S hl w
      rw [qw_X11_indirectCitesAgree_20] at w
      refine lv_iload_n C.1.1 C.1.2.1 dX11_indirectCitesAgree_20 rfl (lv_at hl 1 rfl) ?_
      refine lv_bipush (v := (16 : Int32)) C.1.1 C.1.2.1 dX11_indirectCitesAgree_21 (by decide) ?_
      refine lv_icmp_ge (tgt := 53) C.1.1 C.1.2.1 dX11_indirectCitesAgree_23 (by decide) (fun c9 => ?_) (fun c9 => ?_)
      · replace w := ql_if w c9
        refine lv_iconst (v := (1 : Int32)) C.1.1 C.1.2.1 dX11_indirectCitesAgree_53 (by decide) ?_
        exact ql_zret C S hr hlocks dX11_indirectCitesAgree_54 ⟨Nat.le_of_ble_eq_true rfl, Nat.le_of_ble_eq_true rfl⟩ w
      · replace w := ql_ifn w c9
        refine ql_aload_n (r := (some a0)) C dX11_indirectCitesAgree_26 rfl (lv_at hl 0 rfl) ?_
        refine ql_getR C S qf_12_10 gw_358 dX11_indirectCitesAgree_27 w (fun r1 w => ?_)
        refine lv_iload_n C.1.1 C.1.2.1 dX11_indirectCitesAgree_30 rfl (lv_at hl 1 rfl) ?_
        refine ql_VI (As := [.int xl1]) (rest := []) C S htab hlocks hl qy_X2_slotsFoundFrom qi_X2_slotsFoundFrom qs_X2_slotsFoundFrom gw_756 (ci := 5) rfl w (fun b w => qm_X2_slotsFoundFrom l hl9 D _ b xl1 _ _ w) rfl ⟨Nat.le_of_ble_eq_true rfl, Nat.le_of_ble_eq_true rfl⟩ ⟨rfl, rfl⟩ (by exact Nat.le_of_ble_eq_true rfl) (fun b e9 => by cases e9; rfl) dX11_indirectCitesAgree_31 ⟨Nat.le_of_ble_eq_true rfl, Nat.le_of_ble_eq_true rfl⟩ ⟨Nat.le_of_ble_eq_true rfl, Nat.le_of_ble_eq_true rfl⟩ (fun x2 h H locs S w => ?_)
        refine W.cs (cells' := 0) (slots' := 0) rfl rfl ?_
        refine ql_aload_n (r := (some a0)) C dX11_indirectCitesAgree_34 rfl (lv_at hl 0 rfl) ?_
        refine ql_getR C S qf_12_10 gw_358 dX11_indirectCitesAgree_35 w (fun r4 w => ?_)
        refine lv_iload_n C.1.1 C.1.2.1 dX11_indirectCitesAgree_38 rfl (lv_at hl 1 rfl) ?_
        refine ql_VI (As := [.int xl1]) (rest := [.int x2]) C S htab hlocks hl qy_X2_slotsClosedFrom qi_X2_slotsClosedFrom qs_X2_slotsClosedFrom gw_760 (ci := 5) rfl w (fun b w => qm_X2_slotsClosedFrom l hl9 D _ b xl1 _ _ w) rfl ⟨Nat.le_of_ble_eq_true rfl, Nat.le_of_ble_eq_true rfl⟩ ⟨rfl, rfl⟩ (by exact Nat.le_of_ble_eq_true rfl) (fun b e9 => by cases e9; rfl) dX11_indirectCitesAgree_39 ⟨Nat.le_of_ble_eq_true rfl, Nat.le_of_ble_eq_true rfl⟩ ⟨Nat.le_of_ble_eq_true rfl, Nat.le_of_ble_eq_true rfl⟩ (fun x5 h H locs S w => ?_)
        refine W.cs (cells' := 0) (slots' := 0) rfl rfl ?_
        refine lv_icmp_eq (tgt := 47) C.1.1 C.1.2.1 dX11_indirectCitesAgree_42 (by decide) (fun c9 => ?_) (fun c9 => ?_)
        · replace w := ql_if w c9
          refine lv_iinc (v := (xl1 + (1 : Int32))) (lv' := [(1, .int (xl1 + (1 : Int32))), (0, .ref a0)]) C.1.1 C.1.2.1 dX11_indirectCitesAgree_47 hl (k := 1) rfl rfl (by decide) rfl (fun ls hl => ?_)
          refine lv_goto (tgt := 20) C.1.1 C.1.2.1 dX11_indirectCitesAgree_50 (by decide) ?_
          exact ih (xl1 + (1 : Int32)) _ _ _ _ S (lv_sub hl [1, 0] rfl) w
        · replace w := ql_ifn w c9
          refine lv_iconst (v := (0 : Int32)) C.1.1 C.1.2.1 dX11_indirectCitesAgree_45 (by decide) ?_
          exact ql_zret C S hr hlocks dX11_indirectCitesAgree_46 ⟨Nat.le_of_ble_eq_true rfl, Nat.le_of_ble_eq_true rfl⟩ w
  unfold qw_X11_indirectCitesAgree at w
  refine ql_aload_n (r := (some a0)) C dX11_indirectCitesAgree_0 rfl (lv_at hl 0 rfl) ?_
  refine ql_getR C S qf_12_10 gw_358 dX11_indirectCitesAgree_1 w (fun r7 w => ?_)
  refine ql_aload_n (r := (some a0)) C dX11_indirectCitesAgree_4 rfl (lv_at hl 0 rfl) ?_
  refine ql_getR C S qf_12_0 gw_348 dX11_indirectCitesAgree_5 w (fun r8 w => ?_)
  refine ql_VV (As := [va_rf r8]) (rest := []) C S htab hlocks hl qy_X2_read qi_X2_read qs_X2_read gw_738 (ci := 5) rfl w (fun b w => qm_X2_read l hl9 D _ b r8 _ _ w) rfl ⟨Nat.le_of_ble_eq_true rfl, Nat.le_of_ble_eq_true rfl⟩ ⟨rfl, rfl⟩ (by exact Nat.le_of_ble_eq_true rfl) (fun b e9 => by cases e9; rfl) dX11_indirectCitesAgree_8 ⟨Nat.le_of_ble_eq_true rfl, Nat.le_of_ble_eq_true rfl⟩ ⟨Nat.le_of_ble_eq_true rfl, Nat.le_of_ble_eq_true rfl⟩ (fun h H locs S w => ?_)
  refine W.cs (cells' := 0) (slots' := 0) rfl rfl ?_
  refine ql_aload_n (r := (some a0)) C dX11_indirectCitesAgree_11 rfl (lv_at hl 0 rfl) ?_
  refine ql_getR C S qf_12_10 gw_358 dX11_indirectCitesAgree_12 w (fun r10 w => ?_)
  refine ql_VV (As := []) (rest := []) C S htab hlocks hl qy_X2_close qi_X2_close qs_X2_close gw_748 (ci := 5) rfl w (fun b w => qm_X2_close l hl9 D _ b _ _ w) rfl ⟨Nat.le_of_ble_eq_true rfl, Nat.le_of_ble_eq_true rfl⟩ ⟨rfl, rfl⟩ (by exact Nat.le_of_ble_eq_true rfl) (fun b e9 => by cases e9; rfl) dX11_indirectCitesAgree_15 ⟨Nat.le_of_ble_eq_true rfl, Nat.le_of_ble_eq_true rfl⟩ ⟨Nat.le_of_ble_eq_true rfl, Nat.le_of_ble_eq_true rfl⟩ (fun h H locs S w => ?_)
  refine W.cs (cells' := 0) (slots' := 0) rfl rfl ?_
  refine lv_iconst (v := (0 : Int32)) C.1.1 C.1.2.1 dX11_indirectCitesAgree_18 (by decide) ?_
  refine lv_istore_n (lv' := [(1, .int (0 : Int32)), (0, .ref a0)]) C.1.1 C.1.2.1 dX11_indirectCitesAgree_19 rfl hl (by decide) rfl (fun ls hl => ?_)
  exact hB20 ql_FU (0 : Int32) _ _ _ _ S (lv_sub hl [1, 0] rfl) w
def qw_X11_isConsistent (a0 : Nat) (h : ql_H) (Q : Int32 → ql_H → Prop) : Prop :=
ql_rv h (some a0) 12 fun b1 => qw_X11_differencesAgree b1  h (fun x1 h =>
if x1 = 0 then (ql_nz .boolean (0 : Int32) ∧ Q (0 : Int32) h) else (ql_rv h (some a0) 12 fun b3 => qw_X11_duplicatePairs b3  h (fun x3 h =>
ql_rv h (some a0) 12 fun b5 => qw_X11_duplicatePairsByComparing b5  h (fun x5 h =>
if x3 = x5 then (ql_rv h (some a0) 12 fun b7 => qw_X11_indirectCitesAgree b7  h (fun x7 h =>
if x7 = 0 then (ql_nz .boolean (0 : Int32) ∧ Q (0 : Int32) h) else (ql_gR h (some a0) 12 0 fun r9 =>
ql_rv h r9 4 fun b10 => qw_X1_countClauses b10  h (fun x10 h =>
ql_gR h (some a0) 12 0 fun r12 =>
ql_gI h r12 4 3 fun x13 =>
ql_gR h (some a0) 12 0 fun r14 =>
ql_gI h r14 4 5 fun x15 =>
ql_gR h (some a0) 12 0 fun r16 =>
ql_gI h r16 4 6 fun x17 =>
if x10 = ((x13 - x15) - x17) then (ql_nz .boolean (1 : Int32) ∧ Q (1 : Int32) h) else (ql_nz .boolean (0 : Int32) ∧ Q (0 : Int32) h))))) else (ql_nz .boolean (0 : Int32) ∧ Q (0 : Int32) h)))))
set_option maxHeartbeats 4000000 in
set_option maxRecDepth 100000 in
theorem qm_X11_isConsistent (l : Launch) (hl9 : l.stackTraces = false) (D : ql_D) (h0 : ql_H) (a0 : Nat) (Q : Int32 → ql_H → Prop) (X : String → ql_H → Prop) (w : qw_X11_isConsistent a0 h0 Q) : ql_M D l yX11_isConsistent cX11_isConsistent 1 (some .boolean) ({ frames := 10, cells := 0, slots := 0, locals := 180 } : Room) h0 [.ref a0] (ql_rI Q) X 0 0 := by
  refine ql_ofW (by decide) (Nat.le_of_ble_eq_true rfl) ?_
  intro p e s m below meth c ls C hr hlocks hnm htab S hl
  have hl : lv_has ls 1 [(0, .ref a0)] := hl
  unfold qw_X11_isConsistent at w
  refine ql_aload_n (r := (some a0)) C dX11_isConsistent_0 rfl (lv_at hl 0 rfl) ?_
  refine ql_VI (As := []) (rest := []) C S htab hlocks hl qy_X11_differencesAgree qi_X11_differencesAgree qs_X11_differencesAgree gw_702 (ci := 12) rfl w (fun b w => qm_X11_differencesAgree l hl9 D _ b _ _ w) rfl ⟨Nat.le_of_ble_eq_true rfl, Nat.le_of_ble_eq_true rfl⟩ ⟨rfl, rfl⟩ (by exact Nat.le_of_ble_eq_true rfl) (fun b e9 => by cases e9; rfl) dX11_isConsistent_1 ⟨Nat.le_of_ble_eq_true rfl, Nat.le_of_ble_eq_true rfl⟩ ⟨Nat.le_of_ble_eq_true rfl, Nat.le_of_ble_eq_true rfl⟩ (fun x1 h H locs S w => ?_)
  refine W.cs (cells' := 0) (slots' := 0) rfl rfl ?_
  refine lv_if_eq (tgt := 62) C.1.1 C.1.2.1 dX11_isConsistent_4 (by decide) (fun c9 => ?_) (fun c9 => ?_)
  · replace w := ql_if w c9
    refine lv_iconst (v := (0 : Int32)) C.1.1 C.1.2.1 dX11_isConsistent_62 (by decide) ?_
    exact ql_zret C S hr hlocks dX11_isConsistent_63 ⟨Nat.le_of_ble_eq_true rfl, Nat.le_of_ble_eq_true rfl⟩ w
  · replace w := ql_ifn w c9
    refine ql_aload_n (r := (some a0)) C dX11_isConsistent_7 rfl (lv_at hl 0 rfl) ?_
    refine ql_VI (As := []) (rest := []) C S htab hlocks hl qy_X11_duplicatePairs qi_X11_duplicatePairs qs_X11_duplicatePairs gw_732 (ci := 12) rfl w (fun b w => qm_X11_duplicatePairs l hl9 D _ b _ _ w) rfl ⟨Nat.le_of_ble_eq_true rfl, Nat.le_of_ble_eq_true rfl⟩ ⟨rfl, rfl⟩ (by exact Nat.le_of_ble_eq_true rfl) (fun b e9 => by cases e9; rfl) dX11_isConsistent_8 ⟨Nat.le_of_ble_eq_true rfl, Nat.le_of_ble_eq_true rfl⟩ ⟨Nat.le_of_ble_eq_true rfl, Nat.le_of_ble_eq_true rfl⟩ (fun x3 h H locs S w => ?_)
    refine W.cs (cells' := 0) (slots' := 0) rfl rfl ?_
    refine ql_aload_n (r := (some a0)) C dX11_isConsistent_11 rfl (lv_at hl 0 rfl) ?_
    refine ql_VI (As := []) (rest := [.int x3]) C S htab hlocks hl qy_X11_duplicatePairsByComparing qi_X11_duplicatePairsByComparing qs_X11_duplicatePairsByComparing gw_733 (ci := 12) rfl w (fun b w => qm_X11_duplicatePairsByComparing l hl9 D _ b _ _ w) rfl ⟨Nat.le_of_ble_eq_true rfl, Nat.le_of_ble_eq_true rfl⟩ ⟨rfl, rfl⟩ (by exact Nat.le_of_ble_eq_true rfl) (fun b e9 => by cases e9; rfl) dX11_isConsistent_12 ⟨Nat.le_of_ble_eq_true rfl, Nat.le_of_ble_eq_true rfl⟩ ⟨Nat.le_of_ble_eq_true rfl, Nat.le_of_ble_eq_true rfl⟩ (fun x5 h H locs S w => ?_)
    refine W.cs (cells' := 0) (slots' := 0) rfl rfl ?_
    refine lv_icmp_ne (tgt := 62) C.1.1 C.1.2.1 dX11_isConsistent_15 (by decide) (fun c9 => ?_) (fun c9 => ?_)
    · replace w := ql_ifn w c9
      refine lv_iconst (v := (0 : Int32)) C.1.1 C.1.2.1 dX11_isConsistent_62 (by decide) ?_
      exact ql_zret C S hr hlocks dX11_isConsistent_63 ⟨Nat.le_of_ble_eq_true rfl, Nat.le_of_ble_eq_true rfl⟩ w
    · replace w := ql_if w c9
      refine ql_aload_n (r := (some a0)) C dX11_isConsistent_18 rfl (lv_at hl 0 rfl) ?_
      refine ql_VI (As := []) (rest := []) C S htab hlocks hl qy_X11_indirectCitesAgree qi_X11_indirectCitesAgree qs_X11_indirectCitesAgree gw_734 (ci := 12) rfl w (fun b w => qm_X11_indirectCitesAgree l hl9 D _ b _ _ w) rfl ⟨Nat.le_of_ble_eq_true rfl, Nat.le_of_ble_eq_true rfl⟩ ⟨rfl, rfl⟩ (by exact Nat.le_of_ble_eq_true rfl) (fun b e9 => by cases e9; rfl) dX11_isConsistent_19 ⟨Nat.le_of_ble_eq_true rfl, Nat.le_of_ble_eq_true rfl⟩ ⟨Nat.le_of_ble_eq_true rfl, Nat.le_of_ble_eq_true rfl⟩ (fun x7 h H locs S w => ?_)
      refine W.cs (cells' := 0) (slots' := 0) rfl rfl ?_
      refine lv_if_eq (tgt := 62) C.1.1 C.1.2.1 dX11_isConsistent_22 (by decide) (fun c9 => ?_) (fun c9 => ?_)
      · replace w := ql_if w c9
        refine lv_iconst (v := (0 : Int32)) C.1.1 C.1.2.1 dX11_isConsistent_62 (by decide) ?_
        exact ql_zret C S hr hlocks dX11_isConsistent_63 ⟨Nat.le_of_ble_eq_true rfl, Nat.le_of_ble_eq_true rfl⟩ w
      · replace w := ql_ifn w c9
        refine ql_aload_n (r := (some a0)) C dX11_isConsistent_25 rfl (lv_at hl 0 rfl) ?_
        refine ql_getR C S qf_12_0 gw_348 dX11_isConsistent_26 w (fun r9 w => ?_)
        refine ql_VI (As := []) (rest := []) C S htab hlocks hl qy_X1_countClauses qi_X1_countClauses qs_X1_countClauses gw_633 (ci := 4) rfl w (fun b w => qm_X1_countClauses l hl9 D _ b _ _ w) rfl ⟨Nat.le_of_ble_eq_true rfl, Nat.le_of_ble_eq_true rfl⟩ ⟨rfl, rfl⟩ (by exact Nat.le_of_ble_eq_true rfl) (fun b e9 => by cases e9; rfl) dX11_isConsistent_29 ⟨Nat.le_of_ble_eq_true rfl, Nat.le_of_ble_eq_true rfl⟩ ⟨Nat.le_of_ble_eq_true rfl, Nat.le_of_ble_eq_true rfl⟩ (fun x10 h H locs S w => ?_)
        refine W.cs (cells' := 0) (slots' := 0) rfl rfl ?_
        refine ql_aload_n (r := (some a0)) C dX11_isConsistent_32 rfl (lv_at hl 0 rfl) ?_
        refine ql_getR C S qf_12_0 gw_348 dX11_isConsistent_33 w (fun r12 w => ?_)
        refine ql_getIN C S qf_4_3 (qn_RX11_276) dX11_isConsistent_36 w (fun x13 w => ?_)
        refine ql_aload_n (r := (some a0)) C dX11_isConsistent_39 rfl (lv_at hl 0 rfl) ?_
        refine ql_getR C S qf_12_0 gw_348 dX11_isConsistent_40 w (fun r14 w => ?_)
        refine ql_getIN C S qf_4_5 (qn_RX11_282) dX11_isConsistent_43 w (fun x15 w => ?_)
        refine lv_isub C.1.1 C.1.2.1 dX11_isConsistent_46 ?_
        refine ql_aload_n (r := (some a0)) C dX11_isConsistent_47 rfl (lv_at hl 0 rfl) ?_
        refine ql_getR C S qf_12_0 gw_348 dX11_isConsistent_48 w (fun r16 w => ?_)
        refine ql_getIN C S qf_4_6 (qn_RX11_285) dX11_isConsistent_51 w (fun x17 w => ?_)
        refine lv_isub C.1.1 C.1.2.1 dX11_isConsistent_54 ?_
        refine lv_icmp_ne (tgt := 62) C.1.1 C.1.2.1 dX11_isConsistent_55 (by decide) (fun c9 => ?_) (fun c9 => ?_)
        · replace w := ql_ifn w c9
          refine lv_iconst (v := (0 : Int32)) C.1.1 C.1.2.1 dX11_isConsistent_62 (by decide) ?_
          exact ql_zret C S hr hlocks dX11_isConsistent_63 ⟨Nat.le_of_ble_eq_true rfl, Nat.le_of_ble_eq_true rfl⟩ w
        · replace w := ql_if w c9
          refine lv_iconst (v := (1 : Int32)) C.1.1 C.1.2.1 dX11_isConsistent_58 (by decide) ?_
          refine lv_goto (tgt := 63) C.1.1 C.1.2.1 dX11_isConsistent_59 (by decide) ?_
          exact ql_zret C S hr hlocks dX11_isConsistent_63 ⟨Nat.le_of_ble_eq_true rfl, Nat.le_of_ble_eq_true rfl⟩ w
def qw_J6_stringSize_0f7a4_16 (Q : Int32 → ql_H → Prop) : Nat → Int32 → Int32 → Int32 → Int32 → ql_H → Prop
  | 0, _, _, _, _, _ => False
  | n + 1, xl0, xl1, xl2, xl3, h =>
    if (10 : Int32) ≤ xl3 then (Q ((10 : Int32) + xl1) h) else (if xl0 ≤ xl2 then (qw_J6_stringSize_0f7a4_16 Q n xl0 xl1 ((10 : Int32) * xl2) (xl3 + (1 : Int32)) h) else (Q (xl3 + xl1) h))
def qw_J6_stringSize_0f7a4_11 (Q : Int32 → ql_H → Prop) (xl0 : Int32) (xl1 : Int32) (h : ql_H) : Prop :=
qw_J6_stringSize_0f7a4_16 Q ql_FU xl0 xl1 (-10 : Int32) (1 : Int32) h
def qw_J6_stringSize_0f7a4 (xp0 : Int32) (h : ql_H) (Q : Int32 → ql_H → Prop) : Prop :=
if xp0 < 0 then (qw_J6_stringSize_0f7a4_11 Q xp0 (1 : Int32) h) else (qw_J6_stringSize_0f7a4_11 Q (-xp0) (0 : Int32) h)
set_option maxHeartbeats 4000000 in
set_option maxRecDepth 100000 in
theorem qm_J6_stringSize_0f7a4 (l : Launch) (hl9 : l.stackTraces = false) (D : ql_D) (h0 : ql_H) (xp0 : Int32) (Q : Int32 → ql_H → Prop) (X : String → ql_H → Prop) (w : qw_J6_stringSize_0f7a4 xp0 h0 Q) : ql_M D l yJ6_stringSize_0f7a4 cJ6_stringSize_0f7a4 4 (some .int) ({ frames := 2, cells := 0, slots := 0, locals := 48 } : Room) h0 [.int xp0] (ql_rI Q) X 0 0 := by
  refine ql_ofW (by decide +kernel) (Nat.le_of_ble_eq_true rfl) ?_
  intro p e s m below meth c ls C hr hlocks hnm htab S hl
  have hl : lv_has ls 4 [(0, .int xp0)] := hl
  have hB16 : ∀ n : Nat, ∀ (xl0 : Int32) (xl1 : Int32) (xl2 : Int32) (xl3 : Int32) (h : ql_H) (H : Heap) (locs : List Loc) (ls : Array Slot), ql_S D h0 s H locs h → lv_has ls 4 [(0, .int xl0), (1, .int xl1), (2, .int xl2), (3, .int xl3)] → qw_J6_stringSize_0f7a4_16 Q n xl0 xl1 xl2 xl3 h → W p l e ({ frames := 2, cells := 0, slots := 0, locals := 48 } : Room) s m ([.int xp0] : List Value).toArray below meth c H locs 0 0 (vx_MQ below (ql_Q D h0 (ql_rI Q)) (ql_X D h0 X) ([.int xp0] : List Value).toArray s 0 0 (ql_A h0)) (F0 m 16 ls []) := by
    intro n
    induction n with
    | zero => intro xl0 xl1 xl2 xl3 h H locs ls S hl w; rw [qw_J6_stringSize_0f7a4_16] at w; exact w.elim
    | succ n ih =>
      intro xl0 xl1 xl2 xl3 h H locs ls S hl w
      rw [qw_J6_stringSize_0f7a4_16] at w
      refine lv_iload_n C.1.1 C.1.2.1 dJ6_stringSize_0f7a4_16 rfl (lv_at hl 3 rfl) ?_
      refine lv_bipush (v := (10 : Int32)) C.1.1 C.1.2.1 dJ6_stringSize_0f7a4_17 (by decide) ?_
      refine lv_icmp_ge (tgt := 42) C.1.1 C.1.2.1 dJ6_stringSize_0f7a4_19 (by decide) (fun c9 => ?_) (fun c9 => ?_)
      · replace w := ql_if w c9
        refine lv_bipush (v := (10 : Int32)) C.1.1 C.1.2.1 dJ6_stringSize_0f7a4_42 (by decide) ?_
        refine lv_iload_n C.1.1 C.1.2.1 dJ6_stringSize_0f7a4_44 rfl (lv_at hl 1 rfl) ?_
        refine lv_iadd C.1.1 C.1.2.1 dJ6_stringSize_0f7a4_45 ?_
        exact ql_iret C S hr hlocks dJ6_stringSize_0f7a4_46 ⟨Nat.le_of_ble_eq_true rfl, Nat.le_of_ble_eq_true rfl⟩ w
      · replace w := ql_ifn w c9
        refine lv_iload_n C.1.1 C.1.2.1 dJ6_stringSize_0f7a4_22 rfl (lv_at hl 0 rfl) ?_
        refine lv_iload_n C.1.1 C.1.2.1 dJ6_stringSize_0f7a4_23 rfl (lv_at hl 2 rfl) ?_
        refine lv_icmp_le (tgt := 31) C.1.1 C.1.2.1 dJ6_stringSize_0f7a4_24 (by decide) (fun c9 => ?_) (fun c9 => ?_)
        · replace w := ql_if w c9
          refine lv_bipush (v := (10 : Int32)) C.1.1 C.1.2.1 dJ6_stringSize_0f7a4_31 (by decide) ?_
          refine lv_iload_n C.1.1 C.1.2.1 dJ6_stringSize_0f7a4_33 rfl (lv_at hl 2 rfl) ?_
          refine lv_imul C.1.1 C.1.2.1 dJ6_stringSize_0f7a4_34 ?_
          refine lv_istore_n (lv' := [(2, .int ((10 : Int32) * xl2)), (0, .int xl0), (1, .int xl1), (3, .int xl3)]) C.1.1 C.1.2.1 dJ6_stringSize_0f7a4_35 rfl hl (by decide) rfl (fun ls hl => ?_)
          refine lv_iinc (v := (xl3 + (1 : Int32))) (lv' := [(3, .int (xl3 + (1 : Int32))), (2, .int ((10 : Int32) * xl2)), (0, .int xl0), (1, .int xl1)]) C.1.1 C.1.2.1 dJ6_stringSize_0f7a4_36 hl (k := 3) rfl rfl (by decide) rfl (fun ls hl => ?_)
          refine lv_goto (tgt := 16) C.1.1 C.1.2.1 dJ6_stringSize_0f7a4_39 (by decide) ?_
          exact ih xl0 xl1 ((10 : Int32) * xl2) (xl3 + (1 : Int32)) _ _ _ _ S (lv_sub hl [2, 3, 1, 0] rfl) w
        · replace w := ql_ifn w c9
          refine lv_iload_n C.1.1 C.1.2.1 dJ6_stringSize_0f7a4_27 rfl (lv_at hl 3 rfl) ?_
          refine lv_iload_n C.1.1 C.1.2.1 dJ6_stringSize_0f7a4_28 rfl (lv_at hl 1 rfl) ?_
          refine lv_iadd C.1.1 C.1.2.1 dJ6_stringSize_0f7a4_29 ?_
          exact ql_iret C S hr hlocks dJ6_stringSize_0f7a4_30 ⟨Nat.le_of_ble_eq_true rfl, Nat.le_of_ble_eq_true rfl⟩ w
  have hB11 : ∀ (xl0 : Int32) (xl1 : Int32) (h : ql_H) (H : Heap) (locs : List Loc) (ls : Array Slot), ql_S D h0 s H locs h → lv_has ls 4 [(0, .int xl0), (1, .int xl1)] → qw_J6_stringSize_0f7a4_11 Q xl0 xl1 h → W p l e ({ frames := 2, cells := 0, slots := 0, locals := 48 } : Room) s m ([.int xp0] : List Value).toArray below meth c H locs 0 0 (vx_MQ below (ql_Q D h0 (ql_rI Q)) (ql_X D h0 X) ([.int xp0] : List Value).toArray s 0 0 (ql_A h0)) (F0 m 11 ls []) := by
    intro xl0 xl1 h H locs ls S hl w
    unfold qw_J6_stringSize_0f7a4_11 at w
    refine lv_bipush (v := (-10 : Int32)) C.1.1 C.1.2.1 dJ6_stringSize_0f7a4_11 (by decide) ?_
    refine lv_istore_n (lv' := [(2, .int (-10 : Int32)), (0, .int xl0), (1, .int xl1)]) C.1.1 C.1.2.1 dJ6_stringSize_0f7a4_13 rfl hl (by decide) rfl (fun ls hl => ?_)
    refine lv_iconst (v := (1 : Int32)) C.1.1 C.1.2.1 dJ6_stringSize_0f7a4_14 (by decide) ?_
    refine lv_istore_n (lv' := [(3, .int (1 : Int32)), (2, .int (-10 : Int32)), (0, .int xl0), (1, .int xl1)]) C.1.1 C.1.2.1 dJ6_stringSize_0f7a4_15 rfl hl (by decide) rfl (fun ls hl => ?_)
    exact hB16 ql_FU xl0 xl1 (-10 : Int32) (1 : Int32) _ _ _ _ S (lv_sub hl [2, 3, 1, 0] rfl) w
  unfold qw_J6_stringSize_0f7a4 at w
  refine lv_iconst (v := (1 : Int32)) C.1.1 C.1.2.1 dJ6_stringSize_0f7a4_0 (by decide) ?_
  refine lv_istore_n (lv' := [(1, .int (1 : Int32)), (0, .int xp0)]) C.1.1 C.1.2.1 dJ6_stringSize_0f7a4_1 rfl hl (by decide) rfl (fun ls hl => ?_)
  refine lv_iload_n C.1.1 C.1.2.1 dJ6_stringSize_0f7a4_2 rfl (lv_at hl 1 rfl) ?_
  refine lv_if_lt (tgt := 11) C.1.1 C.1.2.1 dJ6_stringSize_0f7a4_3 (by decide) (fun c9 => ?_) (fun c9 => ?_)
  · replace w := ql_if w c9
    exact hB11 xp0 (1 : Int32) _ _ _ _ S (lv_sub hl [1, 0] rfl) w
  · replace w := ql_ifn w c9
    refine lv_iconst (v := (0 : Int32)) C.1.1 C.1.2.1 dJ6_stringSize_0f7a4_6 (by decide) ?_
    refine lv_istore_n (lv' := [(1, .int (0 : Int32)), (0, .int xp0)]) C.1.1 C.1.2.1 dJ6_stringSize_0f7a4_7 rfl hl (by decide) rfl (fun ls hl => ?_)
    refine lv_iload_n C.1.1 C.1.2.1 dJ6_stringSize_0f7a4_8 rfl (lv_at hl 1 rfl) ?_
    refine lv_ineg C.1.1 C.1.2.1 dJ6_stringSize_0f7a4_9 ?_
    refine lv_istore_n (lv' := [(0, .int (-xp0)), (1, .int (0 : Int32))]) C.1.1 C.1.2.1 dJ6_stringSize_0f7a4_10 rfl hl (by decide) rfl (fun ls hl => ?_)
    exact hB11 (-xp0) (0 : Int32) _ _ _ _ S (lv_sub hl [0, 1] rfl) w
def qw_J6_getChars_ba4f3_104 (σ : Nat → Nat) (Q : Int32 → ql_H → Prop) (rl2 : Option Nat) (xl5 : Int32) (xl6 : Int32) (h : ql_H) : Prop :=
if xl6 = 0 then (Q xl5 h) else (ql_sI h rl2 3 (xl5 + (-1 : Int32)) (vp_nar .byte (45 : Int32)) fun h =>
Q (xl5 + (-1 : Int32)) h)
def qw_J6_getChars_ba4f3_22 (σ : Nat → Nat) (Q : Int32 → ql_H → Prop) : Nat → Int32 → Option Nat → Int32 → Int32 → ql_H → Prop
  | 0, _, _, _, _, _ => False
  | n + 1, xl0, rl2, xl5, xl6, h =>
    if (-100 : Int32) < xl0 then (vp_in (-xl0) 100 ∧
    ql_sI h rl2 3 (xl5 + (-1 : Int32)) (vp_nar .byte (ql_ones (-xl0).toNatClampNeg)) fun h =>
    if (-9 : Int32) ≤ xl0 then (qw_J6_getChars_ba4f3_104 σ Q rl2 (xl5 + (-1 : Int32)) xl6 h) else (vp_in (-xl0) 100 ∧
    ql_sI h rl2 3 ((xl5 + (-1 : Int32)) + (-1 : Int32)) (vp_nar .byte (ql_tens (-xl0).toNatClampNeg)) fun h =>
    qw_J6_getChars_ba4f3_104 σ Q rl2 ((xl5 + (-1 : Int32)) + (-1 : Int32)) xl6 h)) else (¬ (100 : Int32) = 0 ∧
    vp_in (((xl0 / (100 : Int32)) * (100 : Int32)) - xl0) 100 ∧
    ql_sI h rl2 3 (xl5 + (-1 : Int32)) (vp_nar .byte (ql_ones (((xl0 / (100 : Int32)) * (100 : Int32)) - xl0).toNatClampNeg)) fun h =>
    vp_in (((xl0 / (100 : Int32)) * (100 : Int32)) - xl0) 100 ∧
    ql_sI h rl2 3 ((xl5 + (-1 : Int32)) + (-1 : Int32)) (vp_nar .byte (ql_tens (((xl0 / (100 : Int32)) * (100 : Int32)) - xl0).toNatClampNeg)) fun h =>
    qw_J6_getChars_ba4f3_22 σ Q n (xl0 / (100 : Int32)) rl2 ((xl5 + (-1 : Int32)) + (-1 : Int32)) xl6 h)
def qw_J6_getChars_ba4f3_12 (σ : Nat → Nat) (Q : Int32 → ql_H → Prop) (xl0 : Int32) (rl2 : Option Nat) (xl5 : Int32) (xs0 : Int32) (h : ql_H) : Prop :=
if xs0 = 0 then (qw_J6_getChars_ba4f3_22 σ Q ql_FU (-xl0) rl2 xl5 xs0 h) else (qw_J6_getChars_ba4f3_22 σ Q ql_FU xl0 rl2 xl5 xs0 h)
def qw_J6_getChars_ba4f3 (σ : Nat → Nat) (xp0 : Int32) (xp1 : Int32) (rp2 : Option Nat) (h : ql_H) (Q : Int32 → ql_H → Prop) : Prop :=
if 0 ≤ xp0 then (qw_J6_getChars_ba4f3_12 σ Q xp0 rp2 xp1 (0 : Int32) h) else (qw_J6_getChars_ba4f3_12 σ Q xp0 rp2 xp1 (1 : Int32) h)
set_option maxHeartbeats 4000000 in
set_option maxRecDepth 100000 in
theorem qm_J6_getChars_ba4f3 (l : Launch) (hl9 : l.stackTraces = false) (D : ql_D) (h0 : ql_H) (xp0 : Int32) (xp1 : Int32) (rp2 : Option Nat) (Q : Int32 → ql_H → Prop) (X : String → ql_H → Prop) (w : qw_J6_getChars_ba4f3 D.2 xp0 xp1 rp2 h0 Q) : ql_M D l yJ6_getChars_ba4f3 cJ6_getChars_ba4f3 7 (some .int) ({ frames := 2, cells := 0, slots := 0, locals := 48 } : Room) h0 [.int xp0, .int xp1, va_rf rp2] (ql_rI Q) X 0 0 := by
  refine ql_ofW (by decide +kernel) (by cases rp2 <;> exact Nat.le_of_ble_eq_true rfl) ?_
  intro p e s m below meth c ls C hr hlocks hnm htab S hl
  rw [show lv_args 0 [.int xp0, .int xp1, va_rf rp2] = [(0, .int xp0), (1, .int xp1), (2, va_rf rp2)] from by cases rp2 <;> rfl] at hl
  have hB104 : ∀ (rl2 : Option Nat) (xl5 : Int32) (xl6 : Int32) (h : ql_H) (H : Heap) (locs : List Loc) (ls : Array Slot), ql_S D h0 s H locs h → lv_has ls 7 [(2, va_rf rl2), (5, .int xl5), (6, .int xl6)] → qw_J6_getChars_ba4f3_104 D.2 Q rl2 xl5 xl6 h → W p l e ({ frames := 2, cells := 0, slots := 0, locals := 48 } : Room) s m ([.int xp0, .int xp1, va_rf rp2] : List Value).toArray below meth c H locs 0 0 (vx_MQ below (ql_Q D h0 (ql_rI Q)) (ql_X D h0 X) ([.int xp0, .int xp1, va_rf rp2] : List Value).toArray s 0 0 (ql_A h0)) (F0 m 104 ls []) := by
    intro rl2 xl5 xl6 h H locs ls S hl w
    unfold qw_J6_getChars_ba4f3_104 at w
    refine lv_iload C.1.1 C.1.2.1 dJ6_getChars_ba4f3_104 (lv_at hl 2 rfl) ?_
    refine lv_if_eq (tgt := 118) C.1.1 C.1.2.1 dJ6_getChars_ba4f3_106 (by decide) (fun c9 => ?_) (fun c9 => ?_)
    · replace w := ql_if w c9
      refine lv_iload C.1.1 C.1.2.1 dJ6_getChars_ba4f3_118 (lv_at hl 1 rfl) ?_
      exact ql_iret C S hr hlocks dJ6_getChars_ba4f3_120 ⟨Nat.le_of_ble_eq_true rfl, Nat.le_of_ble_eq_true rfl⟩ w
    · replace w := ql_ifn w c9
      refine ql_aload_n (r := rl2) C dJ6_getChars_ba4f3_109 rfl (lv_at hl 0 rfl) ?_
      refine lv_iinc (v := (xl5 + (-1 : Int32))) (lv' := [(5, .int (xl5 + (-1 : Int32))), (2, va_rf rl2), (6, .int xl6)]) C.1.1 C.1.2.1 dJ6_getChars_ba4f3_110 hl (k := 1) rfl rfl (by decide) rfl (fun ls hl => ?_)
      refine lv_iload C.1.1 C.1.2.1 dJ6_getChars_ba4f3_113 (lv_at hl 0 rfl) ?_
      refine lv_bipush (v := (45 : Int32)) C.1.1 C.1.2.1 dJ6_getChars_ba4f3_115 (by decide) ?_
      refine ql_bast C S dJ6_getChars_ba4f3_117 w (fun h H locs S w => ?_)
      refine lv_iload C.1.1 C.1.2.1 dJ6_getChars_ba4f3_118 (lv_at hl 0 rfl) ?_
      exact ql_iret C S hr hlocks dJ6_getChars_ba4f3_120 ⟨Nat.le_of_ble_eq_true rfl, Nat.le_of_ble_eq_true rfl⟩ w
  have hB22 : ∀ n : Nat, ∀ (xl0 : Int32) (rl2 : Option Nat) (xl5 : Int32) (xl6 : Int32) (h : ql_H) (H : Heap) (locs : List Loc) (ls : Array Slot), ql_S D h0 s H locs h → lv_has ls 7 [(0, .int xl0), (2, va_rf rl2), (5, .int xl5), (6, .int xl6)] → qw_J6_getChars_ba4f3_22 D.2 Q n xl0 rl2 xl5 xl6 h → W p l e ({ frames := 2, cells := 0, slots := 0, locals := 48 } : Room) s m ([.int xp0, .int xp1, va_rf rp2] : List Value).toArray below meth c H locs 0 0 (vx_MQ below (ql_Q D h0 (ql_rI Q)) (ql_X D h0 X) ([.int xp0, .int xp1, va_rf rp2] : List Value).toArray s 0 0 (ql_A h0)) (F0 m 22 ls []) := by
    intro n
    induction n with
    | zero => intro xl0 rl2 xl5 xl6 h H locs ls S hl w; rw [qw_J6_getChars_ba4f3_22] at w; exact w.elim
    | succ n ih =>
      intro xl0 rl2 xl5 xl6 h H locs ls S hl w
      rw [qw_J6_getChars_ba4f3_22] at w
      refine lv_iload_n C.1.1 C.1.2.1 dJ6_getChars_ba4f3_22 rfl (lv_at hl 0 rfl) ?_
      refine lv_bipush (v := (-100 : Int32)) C.1.1 C.1.2.1 dJ6_getChars_ba4f3_23 (by decide) ?_
      refine lv_icmp_gt (tgt := 72) C.1.1 C.1.2.1 dJ6_getChars_ba4f3_25 (by decide) (fun c9 => ?_) (fun c9 => ?_)
      · replace w := ql_if w c9
        refine ql_aload_n (r := rl2) C dJ6_getChars_ba4f3_72 rfl (lv_at hl 1 rfl) ?_
        refine lv_iinc (v := (xl5 + (-1 : Int32))) (lv' := [(5, .int (xl5 + (-1 : Int32))), (0, .int xl0), (2, va_rf rl2), (6, .int xl6)]) C.1.1 C.1.2.1 dJ6_getChars_ba4f3_73 hl (k := 2) rfl rfl (by decide) rfl (fun ls hl => ?_)
        refine lv_iload C.1.1 C.1.2.1 dJ6_getChars_ba4f3_76 (lv_at hl 0 rfl) ?_
        refine ql_gs C S C.z.2.1.1.1 gw_1350 dJ6_getChars_ba4f3_78 ?_
        refine lv_iload_n C.1.1 C.1.2.1 dJ6_getChars_ba4f3_81 rfl (lv_at hl 1 rfl) ?_
        refine lv_ineg C.1.1 C.1.2.1 dJ6_getChars_ba4f3_82 ?_
        refine ql_tb C S (f := ql_ones) C.z.2.1.1.2 w.1 dJ6_getChars_ba4f3_83 ?_
        replace w := w.2
        refine ql_bast C S dJ6_getChars_ba4f3_84 w (fun h H locs S w => ?_)
        refine lv_iload_n C.1.1 C.1.2.1 dJ6_getChars_ba4f3_85 rfl (lv_at hl 1 rfl) ?_
        refine lv_bipush (v := (-9 : Int32)) C.1.1 C.1.2.1 dJ6_getChars_ba4f3_86 (by decide) ?_
        refine lv_icmp_ge (tgt := 104) C.1.1 C.1.2.1 dJ6_getChars_ba4f3_88 (by decide) (fun c9 => ?_) (fun c9 => ?_)
        · replace w := ql_if w c9
          exact hB104 rl2 (xl5 + (-1 : Int32)) xl6 _ _ _ _ S (lv_sub hl [2, 0, 3] rfl) w
        · replace w := ql_ifn w c9
          refine ql_aload_n (r := rl2) C dJ6_getChars_ba4f3_91 rfl (lv_at hl 2 rfl) ?_
          refine lv_iinc (v := ((xl5 + (-1 : Int32)) + (-1 : Int32))) (lv' := [(5, .int ((xl5 + (-1 : Int32)) + (-1 : Int32))), (0, .int xl0), (2, va_rf rl2), (6, .int xl6)]) C.1.1 C.1.2.1 dJ6_getChars_ba4f3_92 hl (k := 0) rfl rfl (by decide) rfl (fun ls hl => ?_)
          refine lv_iload C.1.1 C.1.2.1 dJ6_getChars_ba4f3_95 (lv_at hl 0 rfl) ?_
          refine ql_gs C S C.z.2.1.2.1 gw_1352 dJ6_getChars_ba4f3_97 ?_
          refine lv_iload_n C.1.1 C.1.2.1 dJ6_getChars_ba4f3_100 rfl (lv_at hl 1 rfl) ?_
          refine lv_ineg C.1.1 C.1.2.1 dJ6_getChars_ba4f3_101 ?_
          refine ql_tb C S (f := ql_tens) C.z.2.1.2.2 w.1 dJ6_getChars_ba4f3_102 ?_
          replace w := w.2
          refine ql_bast C S dJ6_getChars_ba4f3_103 w (fun h H locs S w => ?_)
          exact hB104 rl2 ((xl5 + (-1 : Int32)) + (-1 : Int32)) xl6 _ _ _ _ S (lv_sub hl [2, 0, 3] rfl) w
      · replace w := ql_ifn w c9
        refine lv_iload_n C.1.1 C.1.2.1 dJ6_getChars_ba4f3_28 rfl (lv_at hl 0 rfl) ?_
        refine lv_bipush (v := (100 : Int32)) C.1.1 C.1.2.1 dJ6_getChars_ba4f3_29 (by decide) ?_
        refine lv_idiv C.1.1 C.1.2.1 dJ6_getChars_ba4f3_31 w.1 ?_
        replace w := w.2
        refine lv_istore_n (lv' := [(3, .int (xl0 / (100 : Int32))), (0, .int xl0), (2, va_rf rl2), (5, .int xl5), (6, .int xl6)]) C.1.1 C.1.2.1 dJ6_getChars_ba4f3_32 rfl hl (by decide) (by generalize rl2 = z9; cases z9 <;> rfl) (fun ls hl => ?_)
        refine lv_iload_n C.1.1 C.1.2.1 dJ6_getChars_ba4f3_33 rfl (lv_at hl 0 rfl) ?_
        refine lv_bipush (v := (100 : Int32)) C.1.1 C.1.2.1 dJ6_getChars_ba4f3_34 (by decide) ?_
        refine lv_imul C.1.1 C.1.2.1 dJ6_getChars_ba4f3_36 ?_
        refine lv_iload_n C.1.1 C.1.2.1 dJ6_getChars_ba4f3_37 rfl (lv_at hl 1 rfl) ?_
        refine lv_isub C.1.1 C.1.2.1 dJ6_getChars_ba4f3_38 ?_
        refine lv_istore (lv' := [(4, .int (((xl0 / (100 : Int32)) * (100 : Int32)) - xl0)), (3, .int (xl0 / (100 : Int32))), (0, .int xl0), (2, va_rf rl2), (5, .int xl5), (6, .int xl6)]) C.1.1 C.1.2.1 dJ6_getChars_ba4f3_39 hl (by decide) rfl (fun ls hl => ?_)
        refine lv_iload_n C.1.1 C.1.2.1 dJ6_getChars_ba4f3_41 rfl (lv_at hl 1 rfl) ?_
        refine lv_istore_n (lv' := [(0, .int (xl0 / (100 : Int32))), (4, .int (((xl0 / (100 : Int32)) * (100 : Int32)) - xl0)), (3, .int (xl0 / (100 : Int32))), (2, va_rf rl2), (5, .int xl5), (6, .int xl6)]) C.1.1 C.1.2.1 dJ6_getChars_ba4f3_42 rfl hl (by decide) rfl (fun ls hl => ?_)
        refine ql_aload_n (r := rl2) C dJ6_getChars_ba4f3_43 rfl (lv_at hl 3 rfl) ?_
        refine lv_iinc (v := (xl5 + (-1 : Int32))) (lv' := [(5, .int (xl5 + (-1 : Int32))), (0, .int (xl0 / (100 : Int32))), (4, .int (((xl0 / (100 : Int32)) * (100 : Int32)) - xl0)), (3, .int (xl0 / (100 : Int32))), (2, va_rf rl2), (6, .int xl6)]) C.1.1 C.1.2.1 dJ6_getChars_ba4f3_44 hl (k := 4) rfl rfl (by decide) rfl (fun ls hl => ?_)
        refine lv_iload C.1.1 C.1.2.1 dJ6_getChars_ba4f3_47 (lv_at hl 0 rfl) ?_
        refine ql_gs C S C.z.2.1.1.1 gw_1350 dJ6_getChars_ba4f3_49 ?_
        refine lv_iload C.1.1 C.1.2.1 dJ6_getChars_ba4f3_52 (lv_at hl 2 rfl) ?_
        refine ql_tb C S (f := ql_ones) C.z.2.1.1.2 w.1 dJ6_getChars_ba4f3_54 ?_
        replace w := w.2
        refine ql_bast C S dJ6_getChars_ba4f3_55 w (fun h H locs S w => ?_)
        refine ql_aload_n (r := rl2) C dJ6_getChars_ba4f3_56 rfl (lv_at hl 4 rfl) ?_
        refine lv_iinc (v := ((xl5 + (-1 : Int32)) + (-1 : Int32))) (lv' := [(5, .int ((xl5 + (-1 : Int32)) + (-1 : Int32))), (0, .int (xl0 / (100 : Int32))), (4, .int (((xl0 / (100 : Int32)) * (100 : Int32)) - xl0)), (3, .int (xl0 / (100 : Int32))), (2, va_rf rl2), (6, .int xl6)]) C.1.1 C.1.2.1 dJ6_getChars_ba4f3_57 hl (k := 0) rfl rfl (by decide) rfl (fun ls hl => ?_)
        refine lv_iload C.1.1 C.1.2.1 dJ6_getChars_ba4f3_60 (lv_at hl 0 rfl) ?_
        refine ql_gs C S C.z.2.1.2.1 gw_1352 dJ6_getChars_ba4f3_62 ?_
        refine lv_iload C.1.1 C.1.2.1 dJ6_getChars_ba4f3_65 (lv_at hl 2 rfl) ?_
        refine ql_tb C S (f := ql_tens) C.z.2.1.2.2 w.1 dJ6_getChars_ba4f3_67 ?_
        replace w := w.2
        refine ql_bast C S dJ6_getChars_ba4f3_68 w (fun h H locs S w => ?_)
        refine lv_goto (tgt := 22) C.1.1 C.1.2.1 dJ6_getChars_ba4f3_69 (by decide) ?_
        exact ih (xl0 / (100 : Int32)) rl2 ((xl5 + (-1 : Int32)) + (-1 : Int32)) xl6 _ _ _ _ S (lv_sub hl [1, 4, 0, 5] rfl) w
  have hB12 : ∀ (xl0 : Int32) (rl2 : Option Nat) (xl5 : Int32) (xs0 : Int32) (h : ql_H) (H : Heap) (locs : List Loc) (ls : Array Slot), ql_S D h0 s H locs h → lv_has ls 7 [(0, .int xl0), (2, va_rf rl2), (5, .int xl5)] → qw_J6_getChars_ba4f3_12 D.2 Q xl0 rl2 xl5 xs0 h → W p l e ({ frames := 2, cells := 0, slots := 0, locals := 48 } : Room) s m ([.int xp0, .int xp1, va_rf rp2] : List Value).toArray below meth c H locs 0 0 (vx_MQ below (ql_Q D h0 (ql_rI Q)) (ql_X D h0 X) ([.int xp0, .int xp1, va_rf rp2] : List Value).toArray s 0 0 (ql_A h0)) (F0 m 12 ls [.int xs0]) := by
    intro xl0 rl2 xl5 xs0 h H locs ls S hl w
    unfold qw_J6_getChars_ba4f3_12 at w
    refine lv_istore (lv' := [(6, .int xs0), (0, .int xl0), (2, va_rf rl2), (5, .int xl5)]) C.1.1 C.1.2.1 dJ6_getChars_ba4f3_12 hl (by decide) rfl (fun ls hl => ?_)
    refine lv_iload C.1.1 C.1.2.1 dJ6_getChars_ba4f3_14 (lv_at hl 0 rfl) ?_
    refine lv_if_ne (tgt := 22) C.1.1 C.1.2.1 dJ6_getChars_ba4f3_16 (by decide) (fun c9 => ?_) (fun c9 => ?_)
    · replace w := ql_ifn w c9
      exact hB22 ql_FU xl0 rl2 xl5 xs0 _ _ _ _ S (lv_sub hl [1, 2, 3, 0] rfl) w
    · replace w := ql_if w c9
      refine lv_iload_n C.1.1 C.1.2.1 dJ6_getChars_ba4f3_19 rfl (lv_at hl 1 rfl) ?_
      refine lv_ineg C.1.1 C.1.2.1 dJ6_getChars_ba4f3_20 ?_
      refine lv_istore_n (lv' := [(0, .int (-xl0)), (6, .int xs0), (2, va_rf rl2), (5, .int xl5)]) C.1.1 C.1.2.1 dJ6_getChars_ba4f3_21 rfl hl (by decide) rfl (fun ls hl => ?_)
      exact hB22 ql_FU (-xl0) rl2 xl5 xs0 _ _ _ _ S (lv_sub hl [0, 2, 3, 1] rfl) w
  unfold qw_J6_getChars_ba4f3 at w
  refine lv_iload_n C.1.1 C.1.2.1 dJ6_getChars_ba4f3_0 rfl (lv_at hl 1 rfl) ?_
  refine lv_istore (lv' := [(5, .int xp1), (0, .int xp0), (1, .int xp1), (2, va_rf rp2)]) C.1.1 C.1.2.1 dJ6_getChars_ba4f3_1 hl (by decide) rfl (fun ls hl => ?_)
  refine lv_iload_n C.1.1 C.1.2.1 dJ6_getChars_ba4f3_3 rfl (lv_at hl 1 rfl) ?_
  refine lv_if_ge (tgt := 11) C.1.1 C.1.2.1 dJ6_getChars_ba4f3_4 (by decide) (fun c9 => ?_) (fun c9 => ?_)
  · replace w := ql_if w c9
    refine lv_iconst (v := (0 : Int32)) C.1.1 C.1.2.1 dJ6_getChars_ba4f3_11 (by decide) ?_
    exact hB12 xp0 rp2 xp1 (0 : Int32) _ _ _ _ S (lv_sub hl [1, 3, 0] rfl) w
  · replace w := ql_ifn w c9
    refine lv_iconst (v := (1 : Int32)) C.1.1 C.1.2.1 dJ6_getChars_ba4f3_7 (by decide) ?_
    refine lv_goto (tgt := 12) C.1.1 C.1.2.1 dJ6_getChars_ba4f3_8 (by decide) ?_
    exact hB12 xp0 rp2 xp1 (1 : Int32) _ _ _ _ S (lv_sub hl [1, 3, 0] rfl) w
def qw_J5_append_c97b9 (σ : Nat → Nat) (a0 : Nat) (xp1 : Int32) (h : ql_H) (Q : Option Nat → ql_H → Prop) : Prop :=
ql_gI h (some a0) 1 3 fun x1 =>
qw_J6_stringSize_0f7a4 xp1 h (fun x2 h =>
ql_rv h (some a0) 1 fun b2 => qw_J5_ensureCapacityInternal_d00df b2 (x1 + x2) h (fun h =>
ql_rv h (some a0) 1 fun b4 => qw_J5_isLatin1_aae02 b4  h (fun x4 h =>
if x4 = 0 then (ql_gR h (some a0) 1 0 fun r6 =>
False) else (ql_gR h (some a0) 1 0 fun r7 =>
qw_J6_getChars_ba4f3 σ xp1 (x1 + x2) r7 h (fun x8 h =>
ql_pV h (some a0) 1 3 (.int (x1 + x2)) fun h =>
Q (some a0) h)))))
set_option maxHeartbeats 4000000 in
set_option maxRecDepth 100000 in
theorem qm_J5_append_c97b9 (l : Launch) (hl9 : l.stackTraces = false) (D : ql_D) (h0 : ql_H) (a0 : Nat) (xp1 : Int32) (Q : Option Nat → ql_H → Prop) (X : String → ql_H → Prop) (w : qw_J5_append_c97b9 D.2 a0 xp1 h0 Q) : ql_M D l yJ5_append_c97b9 cJ5_append_c97b9 4 (some (.object "java/lang/AbstractStringBuilder")) ({ frames := 10, cells := 1, slots := 256, locals := 171 } : Room) h0 [.ref a0, .int xp1] (ql_rR Q) X 1 256 := by
  refine ql_ofW (by decide +kernel) (Nat.le_of_ble_eq_true rfl) ?_
  intro p e s m below meth c ls C hr hlocks hnm htab S hl
  have hl : lv_has ls 4 [(0, .ref a0), (1, .int xp1)] := hl
  unfold qw_J5_append_c97b9 at w
  refine ql_aload_n (r := (some a0)) C dJ5_append_c97b9_0 rfl (lv_at hl 0 rfl) ?_
  refine ql_getI C S qf_1_3 gw_253 dJ5_append_c97b9_1 w (fun x1 w => ?_)
  refine lv_istore_n (lv' := [(2, .int x1), (0, .ref a0), (1, .int xp1)]) C.1.1 C.1.2.1 dJ5_append_c97b9_4 rfl hl (by decide) rfl (fun ls hl => ?_)
  refine lv_iload_n C.1.1 C.1.2.1 dJ5_append_c97b9_5 rfl (lv_at hl 0 rfl) ?_
  refine lv_iload_n C.1.1 C.1.2.1 dJ5_append_c97b9_6 rfl (lv_at hl 2 rfl) ?_
  refine ql_SI (As := [.int xp1]) (rest := [.int x1]) C S htab hlocks hl qy_J6_stringSize_0f7a4 qi_J6_stringSize_0f7a4 gw_1344 (qm_J6_stringSize_0f7a4 l hl9 D _ xp1 _ _ w) rfl ⟨Nat.le_of_ble_eq_true rfl, Nat.le_of_ble_eq_true rfl⟩ ⟨rfl, rfl⟩ (by exact Nat.le_of_ble_eq_true rfl) rfl dJ5_append_c97b9_7 ⟨Nat.le_of_ble_eq_true rfl, Nat.le_of_ble_eq_true rfl⟩ ⟨Nat.le_of_ble_eq_true rfl, Nat.le_of_ble_eq_true rfl⟩ (fun x2 h H locs S w => ?_)
  refine W.cs (cells' := 0) (slots' := 0) rfl rfl ?_
  refine lv_iadd C.1.1 C.1.2.1 dJ5_append_c97b9_10 ?_
  refine lv_istore_n (lv' := [(3, .int (x1 + x2)), (2, .int x1), (0, .ref a0), (1, .int xp1)]) C.1.1 C.1.2.1 dJ5_append_c97b9_11 rfl hl (by decide) rfl (fun ls hl => ?_)
  refine ql_aload_n (r := (some a0)) C dJ5_append_c97b9_12 rfl (lv_at hl 2 rfl) ?_
  refine lv_iload_n C.1.1 C.1.2.1 dJ5_append_c97b9_13 rfl (lv_at hl 0 rfl) ?_
  refine ql_UV (As := [.int (x1 + x2)]) (rest := []) C S htab hlocks hl qy_J5_ensureCapacityInternal_d00df qi_J5_ensureCapacityInternal_d00df (Cn := "java/lang/StringBuilder") qx_eci gw_1232 (ci := 1) rfl w (fun b w => qm_J5_ensureCapacityInternal_d00df l hl9 D _ b (x1 + x2) _ _ w) rfl ⟨Nat.le_of_ble_eq_true rfl, Nat.le_of_ble_eq_true rfl⟩ ⟨rfl, rfl⟩ (by exact Nat.le_of_ble_eq_true rfl) (fun b e9 => by cases e9; rfl) dJ5_append_c97b9_14 ⟨Nat.le_of_ble_eq_true rfl, Nat.le_of_ble_eq_true rfl⟩ ⟨Nat.le_of_ble_eq_true rfl, Nat.le_of_ble_eq_true rfl⟩ (fun h H locs S w => ?_)
  refine W.cs (cells' := 1) (slots' := 256) rfl rfl ?_
  refine ql_aload_n (r := (some a0)) C dJ5_append_c97b9_17 rfl (lv_at hl 2 rfl) ?_
  refine ql_UI (As := []) (rest := []) C S htab hlocks hl qy_J5_isLatin1_aae02 qi_J5_isLatin1_aae02 (Cn := "java/lang/StringBuilder") gw_1266 gw_1263 (ci := 1) rfl w (fun b w => qm_J5_isLatin1_aae02 l hl9 D _ b _ _ w) rfl ⟨Nat.le_of_ble_eq_true rfl, Nat.le_of_ble_eq_true rfl⟩ ⟨rfl, rfl⟩ (by exact Nat.le_of_ble_eq_true rfl) (fun b e9 => by cases e9; rfl) dJ5_append_c97b9_18 ⟨Nat.le_of_ble_eq_true rfl, Nat.le_of_ble_eq_true rfl⟩ ⟨Nat.le_of_ble_eq_true rfl, Nat.le_of_ble_eq_true rfl⟩ (fun x4 h H locs S w => ?_)
  refine W.cs (cells' := 1) (slots' := 256) rfl rfl ?_
  refine lv_if_eq (tgt := 37) C.1.1 C.1.2.1 dJ5_append_c97b9_21 (by decide) (fun c9 => ?_) (fun c9 => ?_)
  · replace w := ql_if w c9
    refine lv_iload_n C.1.1 C.1.2.1 dJ5_append_c97b9_37 rfl (lv_at hl 3 rfl) ?_
    refine lv_iload_n C.1.1 C.1.2.1 dJ5_append_c97b9_38 rfl (lv_at hl 1 rfl) ?_
    refine lv_iload_n C.1.1 C.1.2.1 dJ5_append_c97b9_39 rfl (lv_at hl 0 rfl) ?_
    refine ql_aload_n (r := (some a0)) C dJ5_append_c97b9_40 rfl (lv_at hl 2 rfl) ?_
    refine ql_getR C S qf_1_0 gw_249 dJ5_append_c97b9_41 w (fun r6 w => ?_)
    exact w.elim
  · replace w := ql_ifn w c9
    refine lv_iload_n C.1.1 C.1.2.1 dJ5_append_c97b9_24 rfl (lv_at hl 3 rfl) ?_
    refine lv_iload_n C.1.1 C.1.2.1 dJ5_append_c97b9_25 rfl (lv_at hl 0 rfl) ?_
    refine ql_aload_n (r := (some a0)) C dJ5_append_c97b9_26 rfl (lv_at hl 2 rfl) ?_
    refine ql_getR C S qf_1_0 gw_249 dJ5_append_c97b9_27 w (fun r7 w => ?_)
    refine ql_SI (As := [.int xp1, .int (x1 + x2), va_rf r7]) (rest := []) C S htab hlocks hl qy_J6_getChars_ba4f3 qi_J6_getChars_ba4f3 gw_1347 (qm_J6_getChars_ba4f3 l hl9 D _ xp1 (x1 + x2) r7 _ _ w) rfl ⟨Nat.le_of_ble_eq_true rfl, Nat.le_of_ble_eq_true rfl⟩ ⟨rfl, rfl⟩ (by exact Nat.le_of_ble_eq_true rfl) rfl dJ5_append_c97b9_30 ⟨Nat.le_of_ble_eq_true rfl, Nat.le_of_ble_eq_true rfl⟩ ⟨Nat.le_of_ble_eq_true rfl, Nat.le_of_ble_eq_true rfl⟩ (fun x8 h H locs S w => ?_)
    refine W.cs (cells' := 1) (slots' := 256) rfl rfl ?_
    refine lv_pop C.1.1 C.1.2.1 dJ5_append_c97b9_33 rfl ?_
    refine lv_goto (tgt := 48) C.1.1 C.1.2.1 dJ5_append_c97b9_34 (by decide) ?_
    refine ql_aload_n (r := (some a0)) C dJ5_append_c97b9_48 rfl (lv_at hl 2 rfl) ?_
    refine lv_iload_n C.1.1 C.1.2.1 dJ5_append_c97b9_49 rfl (lv_at hl 0 rfl) ?_
    refine ql_putV C S qf_1_3 gw_253 (tyJ4) tyJ4_ok nmJ4 rfl dJ5_append_c97b9_50 (v := .int (x1 + x2)) rfl rfl w (fun h H locs S w => ?_)
    refine ql_aload_n (r := (some a0)) C dJ5_append_c97b9_53 rfl (lv_at hl 2 rfl) ?_
    exact ql_aret C S hr hlocks dJ5_append_c97b9_54 ⟨Nat.le_of_ble_eq_true rfl, Nat.le_of_ble_eq_true rfl⟩ w
def qw_J4_append_bf812 (σ : Nat → Nat) (a0 : Nat) (xp1 : Int32) (h : ql_H) (Q : Option Nat → ql_H → Prop) : Prop :=
ql_rv h (some a0) 1 fun b1 => qw_J5_append_c97b9 σ b1 xp1 h (fun r1 h =>
Q (some a0) h)
set_option maxHeartbeats 4000000 in
set_option maxRecDepth 100000 in
theorem qm_J4_append_bf812 (l : Launch) (hl9 : l.stackTraces = false) (D : ql_D) (h0 : ql_H) (a0 : Nat) (xp1 : Int32) (Q : Option Nat → ql_H → Prop) (X : String → ql_H → Prop) (w : qw_J4_append_bf812 D.2 a0 xp1 h0 Q) : ql_M D l yJ4_append_bf812 cJ4_append_bf812 2 (some (.object "java/lang/StringBuilder")) ({ frames := 12, cells := 1, slots := 256, locals := 202 } : Room) h0 [.ref a0, .int xp1] (ql_rR Q) X 1 256 := by
  refine ql_ofW (by decide +kernel) (Nat.le_of_ble_eq_true rfl) ?_
  intro p e s m below meth c ls C hr hlocks hnm htab S hl
  have hl : lv_has ls 2 [(0, .ref a0), (1, .int xp1)] := hl
  unfold qw_J4_append_bf812 at w
  refine ql_aload_n (r := (some a0)) C dJ4_append_bf812_0 rfl (lv_at hl 0 rfl) ?_
  refine lv_iload_n C.1.1 C.1.2.1 dJ4_append_bf812_1 rfl (lv_at hl 1 rfl) ?_
  refine ql_PR (As := [.int xp1]) (rest := []) C S htab hlocks hl qy_J5_append_c97b9 qi_J5_append_c97b9 gw_2155 gw_262 (by decide) gw_1341 (ci := 1) (Cn := "java/lang/StringBuilder") rfl rfl w (fun b w => qm_J5_append_c97b9 l hl9 D _ b xp1 _ _ w) rfl ⟨Nat.le_of_ble_eq_true rfl, Nat.le_of_ble_eq_true rfl⟩ ⟨rfl, rfl⟩ (by exact Nat.le_of_ble_eq_true rfl) (fun b e9 => by cases e9; rfl) dJ4_append_bf812_2 ⟨Nat.le_of_ble_eq_true rfl, Nat.le_of_ble_eq_true rfl⟩ ⟨Nat.le_of_ble_eq_true rfl, Nat.le_of_ble_eq_true rfl⟩ (fun r1 h H locs S w => ?_)
  refine W.cs (cells' := 1) (slots' := 256) rfl rfl ?_
  refine lv_pop C.1.1 C.1.2.1 dJ4_append_bf812_5 (ql_catR _) ?_
  refine ql_aload_n (r := (some a0)) C dJ4_append_bf812_6 rfl (lv_at hl 0 rfl) ?_
  exact ql_aret C S hr hlocks dJ4_append_bf812_7 ⟨Nat.le_of_ble_eq_true rfl, Nat.le_of_ble_eq_true rfl⟩ w
def qw_X11_appendNotes_8 (a0 : Nat) (Q : ql_H → Prop) : Nat → Int64 → Int32 → Int32 → ql_H → Prop
  | 0, _, _, _, _ => False
  | n + 1, jl1, xl3, xl4, h =>
    if xl3 ≤ xl4 then (Q h) else (ql_gR h (some a0) 12 7 fun r1 =>
    qw_X9_noteOf jl1 xl4 h (fun x2 h =>
    ql_rv h r1 1 fun b3 => qw_J4_append_cf468 b3 x2 h (fun r3 h =>
    qw_X11_appendNotes_8 a0 Q n jl1 xl3 (xl4 + (1 : Int32)) h)))
def qw_X11_appendNotes (a0 : Nat) (jp1 : Int64) (h : ql_H) (Q : ql_H → Prop) : Prop :=
qw_X9_lengthOf jp1 h (fun x5 h =>
qw_X11_appendNotes_8 a0 Q 13 jp1 x5 (0 : Int32) h)
set_option maxHeartbeats 4000000 in
set_option maxRecDepth 100000 in
theorem qm_X11_appendNotes (l : Launch) (hl9 : l.stackTraces = false) (D : ql_D) (h0 : ql_H) (a0 : Nat) (jp1 : Int64) (Q : ql_H → Prop) (X : String → ql_H → Prop) (w : qw_X11_appendNotes a0 jp1 h0 Q) : ql_M D l yX11_appendNotes cX11_appendNotes 5 none ({ frames := 14, cells := 14, slots := 3584, locals := 229 } : Room) h0 [.ref a0, .long jp1] (ql_rV Q) X 14 3584 := by
  refine ql_ofW (by decide) (Nat.le_of_ble_eq_true rfl) ?_
  intro p e s m below meth c ls C hr hlocks hnm htab S hl
  have hl : lv_has ls 5 [(0, .ref a0), (1, .long jp1)] := hl
  have hB8 : ∀ n : Nat, n ≤ 13 → ∀ (jl1 : Int64) (xl3 : Int32) (xl4 : Int32) (h : ql_H) (H : Heap) (locs : List Loc) (ls : Array Slot), ql_S D h0 s H locs h → lv_has ls 5 [(0, .ref a0), (1, .long jl1), (3, .int xl3), (4, .int xl4)] → qw_X11_appendNotes_8 a0 Q n jl1 xl3 xl4 h → W p l e ({ frames := 14, cells := 14, slots := 3584, locals := 229 } : Room) s m ([.ref a0, .long jp1] : List Value).toArray below meth c H locs (0 + (13 - n) * 1) (0 + (13 - n) * 256) (vx_MQ below (ql_Q D h0 (ql_rV Q)) (ql_X D h0 X) ([.ref a0, .long jp1] : List Value).toArray s 14 3584 (ql_A h0)) (F0 m 8 ls []) := by
    intro n
    induction n with
    | zero => intro _ jl1 xl3 xl4 h H locs ls S hl w; rw [qw_X11_appendNotes_8] at w; exact w.elim
    | succ n ih =>
      intro hn9 jl1 xl3 xl4 h H locs ls S hl w
      rw [qw_X11_appendNotes_8] at w
      refine lv_iload C.1.1 C.1.2.1 dX11_appendNotes_8 (lv_at hl 3 rfl) ?_
      refine lv_iload_n C.1.1 C.1.2.1 dX11_appendNotes_10 rfl (lv_at hl 2 rfl) ?_
      refine lv_icmp_ge (tgt := 34) C.1.1 C.1.2.1 dX11_appendNotes_11 (by decide) (fun c9 => ?_) (fun c9 => ?_)
      · replace w := ql_if w c9
        exact ql_vret C S hr hlocks dX11_appendNotes_34 ⟨(by show _ ≤ (14 : Nat); omega), (by show _ ≤ (3584 : Nat); omega)⟩ w
      · replace w := ql_ifn w c9
        refine ql_aload_n (r := (some a0)) C dX11_appendNotes_14 rfl (lv_at hl 0 rfl) ?_
        refine ql_getR C S qf_12_7 gw_355 dX11_appendNotes_15 w (fun r1 w => ?_)
        refine lv_lload_n C.1.1 C.1.2.1 dX11_appendNotes_18 rfl (lv_at hl 1 rfl) ?_
        refine lv_iload C.1.1 C.1.2.1 dX11_appendNotes_19 (lv_at hl 3 rfl) ?_
        refine ql_SI (As := [.long jl1, .int xl4]) (rest := [va_rf r1]) C S htab hlocks hl qy_X9_noteOf qi_X9_noteOf gw_1060 (qm_X9_noteOf l hl9 D _ jl1 xl4 _ _ w) rfl ⟨Nat.le_of_ble_eq_true rfl, Nat.le_of_ble_eq_true rfl⟩ ⟨rfl, rfl⟩ (by generalize r1 = z0; cases z0 <;> exact Nat.le_of_ble_eq_true rfl) rfl dX11_appendNotes_21 ⟨(by show _ ≤ (14 : Nat); omega), (by show _ ≤ (3584 : Nat); omega)⟩ ⟨(by show _ ≤ (14 : Nat); omega), (by show _ ≤ (3584 : Nat); omega)⟩ (fun x2 h H locs S w => ?_)
        refine W.cs (cells' := (0 + (13 - (n + 1)) * 1)) (slots' := (0 + (13 - (n + 1)) * 256)) (by omega) (by omega) ?_
        refine ql_VR (As := [.int x2]) (rest := []) C S htab hlocks hl qy_J4_append_cf468 qi_J4_append_cf468 qs_J4_append_cf468 gw_1463 (ci := 1) rfl w (fun b w => qm_J4_append_cf468 l hl9 D _ b x2 _ _ w) rfl ⟨Nat.le_of_ble_eq_true rfl, Nat.le_of_ble_eq_true rfl⟩ ⟨rfl, rfl⟩ (by exact Nat.le_of_ble_eq_true rfl) (fun b e9 => by cases e9; rfl) dX11_appendNotes_24 ⟨(by show _ ≤ (14 : Nat); omega), (by show _ ≤ (3584 : Nat); omega)⟩ ⟨(by show _ ≤ (14 : Nat); omega), (by show _ ≤ (3584 : Nat); omega)⟩ (fun r3 h H locs S w => ?_)
        refine W.cs (cells' := (1 + (13 - (n + 1)) * 1)) (slots' := (256 + (13 - (n + 1)) * 256)) (by omega) (by omega) ?_
        refine lv_pop C.1.1 C.1.2.1 dX11_appendNotes_27 (ql_catR _) ?_
        refine lv_iinc (v := (xl4 + (1 : Int32))) (lv' := [(4, .int (xl4 + (1 : Int32))), (0, .ref a0), (1, .long jl1), (3, .int xl3)]) C.1.1 C.1.2.1 dX11_appendNotes_28 hl (k := 3) rfl rfl (by decide) rfl (fun ls hl => ?_)
        refine lv_goto (tgt := 8) C.1.1 C.1.2.1 dX11_appendNotes_31 (by decide) ?_
        refine W.cs (cells' := (0 + (13 - n) * 1)) (slots' := (0 + (13 - n) * 256)) (by omega) (by omega) ?_
        exact ih (by omega) jl1 xl3 (xl4 + (1 : Int32)) _ _ _ _ S (lv_sub hl [1, 2, 3, 0] rfl) w
  unfold qw_X11_appendNotes at w
  refine lv_lload_n C.1.1 C.1.2.1 dX11_appendNotes_0 rfl (lv_at hl 1 rfl) ?_
  refine ql_SI (As := [.long jp1]) (rest := []) C S htab hlocks hl qy_X9_lengthOf qi_X9_lengthOf gw_1049 (qm_X9_lengthOf l hl9 D _ jp1 _ _ w) rfl ⟨Nat.le_of_ble_eq_true rfl, Nat.le_of_ble_eq_true rfl⟩ ⟨rfl, rfl⟩ (by exact Nat.le_of_ble_eq_true rfl) rfl dX11_appendNotes_1 ⟨Nat.le_of_ble_eq_true rfl, Nat.le_of_ble_eq_true rfl⟩ ⟨Nat.le_of_ble_eq_true rfl, Nat.le_of_ble_eq_true rfl⟩ (fun x5 h H locs S w => ?_)
  refine W.cs (cells' := 0) (slots' := 0) rfl rfl ?_
  refine lv_istore_n (lv' := [(3, .int x5), (0, .ref a0), (1, .long jp1)]) C.1.1 C.1.2.1 dX11_appendNotes_4 rfl hl (by decide) rfl (fun ls hl => ?_)
  refine lv_iconst (v := (0 : Int32)) C.1.1 C.1.2.1 dX11_appendNotes_5 (by decide) ?_
  refine lv_istore (lv' := [(4, .int (0 : Int32)), (3, .int x5), (0, .ref a0), (1, .long jp1)]) C.1.1 C.1.2.1 dX11_appendNotes_6 hl (by decide) rfl (fun ls hl => ?_)
  refine W.cs (cells' := (0 + (13 - 13) * 1)) (slots' := (0 + (13 - 13) * 256)) (by omega) (by omega) ?_
  exact hB8 13 (Nat.le_refl _) jp1 x5 (0 : Int32) _ _ _ _ S (lv_sub hl [2, 3, 1, 0] rfl) w
def qw_X11_renderClause_97 (σ : Nat → Nat) (a0 : Nat) (Q : Int32 → ql_H → Prop) (X : String → ql_H → Prop) (h : ql_H) : Prop :=
ql_gR h (some a0) 12 7 fun r1 =>
ql_rv h r1 1 fun b2 => qw_J4_length_8abf5 b2  h (fun x2 h =>
Q x2 h)
def qw_X11_renderClause_73 (σ : Nat → Nat) (a0 : Nat) (Q : Int32 → ql_H → Prop) (X : String → ql_H → Prop) (rl2 : Option Nat) (h : ql_H) : Prop :=
ql_gR h (some a0) 12 0 fun r4 =>
ql_gI h r4 4 2 fun x5 =>
ql_rv h rl2 6 fun b6 => qw_X3_holdsOn b6 x5 h (fun x6 h =>
if x6 = 0 then (ql_gR h (some a0) 12 7 fun r8 =>
ql_rv h r8 1 fun b9 => qw_J4_append_cf468 b9 (33 : Int32) h (fun r9 h =>
qw_X11_renderClause_97 σ a0 Q X  h)) else (qw_X11_renderClause_97 σ a0 Q X  h))
def qw_X11_renderClause (σ : Nat → Nat) (a0 : Nat) (xp1 : Int32) (h : ql_H) (Q : Int32 → ql_H → Prop) (X : String → ql_H → Prop) : Prop :=
ql_rv h (some a0) 12 fun b11 => qw_X11_clauseOf b11 xp1 h (fun r11 h =>
ql_gR h (some a0) 12 7 fun r13 =>
ql_rv h r13 1 fun b13 => qw_J4_setLength_d00df b13 (0 : Int32) h (fun h =>
ql_gR h (some a0) 12 7 fun r15 =>
ql_gI h r11 6 2 fun x16 =>
ql_rv h r15 1 fun b17 => qw_J4_append_bf812 σ b17 x16 h (fun r17 h =>
ql_gR h (some a0) 12 7 fun r19 =>
ql_rv h r19 1 fun b20 => qw_J4_append_cf468 b20 (58 : Int32) h (fun r20 h =>
ql_rv h r11 6 fun b22 => qw_X3_latestText b22  h (fun j22 h =>
ql_rv h (some a0) 12 fun b23 => qw_X11_appendNotes b23 j22 h (fun h =>
ql_rv h r11 6 fun b25 => qw_X3_hasSunset b25  h (fun x25 h =>
if x25 = 0 then (qw_X11_renderClause_73 σ a0 Q X r11 h) else (ql_gR h (some a0) 12 7 fun r27 =>
ql_rv h r27 1 fun b28 => qw_J4_append_cf468 b28 (126 : Int32) h (fun r28 h =>
ql_gR h (some a0) 12 7 fun r30 =>
ql_gI h r11 6 4 fun x31 =>
ql_rv h r30 1 fun b32 => qw_J4_append_bf812 σ b32 x31 h (fun r32 h =>
qw_X11_renderClause_73 σ a0 Q X r11 h)))))))))) X
set_option maxHeartbeats 4000000 in
set_option maxRecDepth 100000 in
theorem qm_X11_renderClause (l : Launch) (hl9 : l.stackTraces = false) (D : ql_D) (h0 : ql_H) (a0 : Nat) (xp1 : Int32) (Q : Int32 → ql_H → Prop) (X : String → ql_H → Prop) (w : qw_X11_renderClause D.2 a0 xp1 h0 Q X) : ql_M D l yX11_renderClause cX11_renderClause 3 (some .int) ({ frames := 16, cells := 21, slots := 5126, locals := 261 } : Room) h0 [.ref a0, .int xp1] (ql_rI Q) X 21 5126 := by
  refine ql_ofW (by decide) (Nat.le_of_ble_eq_true rfl) ?_
  intro p e s m below meth c ls C hr hlocks hnm htab S hl
  have hl : lv_has ls 3 [(0, .ref a0), (1, .int xp1)] := hl
  have hB97 : ∀ (h : ql_H) (H : Heap) (locs : List Loc) (ls : Array Slot), ql_S D h0 s H locs h → lv_has ls 3 [(0, .ref a0)] → qw_X11_renderClause_97 D.2 a0 Q X h → W p l e ({ frames := 16, cells := 21, slots := 5126, locals := 261 } : Room) s m ([.ref a0, .int xp1] : List Value).toArray below meth c H locs 21 5126 (vx_MQ below (ql_Q D h0 (ql_rI Q)) (ql_X D h0 X) ([.ref a0, .int xp1] : List Value).toArray s 21 5126 (ql_A h0)) (F0 m 97 ls []) := by
    intro h H locs ls S hl w
    unfold qw_X11_renderClause_97 at w
    refine ql_aload_n (r := (some a0)) C dX11_renderClause_97 rfl (lv_at hl 0 rfl) ?_
    refine ql_getR C S qf_12_7 gw_355 dX11_renderClause_98 w (fun r1 w => ?_)
    refine ql_VI (As := []) (rest := []) C S htab hlocks hl qy_J4_length_8abf5 qi_J4_length_8abf5 qs_J4_length_8abf5 gw_1489 (ci := 1) rfl w (fun b w => qm_J4_length_8abf5 l hl9 D _ b _ _ w) rfl ⟨Nat.le_of_ble_eq_true rfl, Nat.le_of_ble_eq_true rfl⟩ ⟨rfl, rfl⟩ (by exact Nat.le_of_ble_eq_true rfl) (fun b e9 => by cases e9; rfl) dX11_renderClause_101 ⟨Nat.le_of_ble_eq_true rfl, Nat.le_of_ble_eq_true rfl⟩ ⟨Nat.le_of_ble_eq_true rfl, Nat.le_of_ble_eq_true rfl⟩ (fun x2 h H locs S w => ?_)
    refine W.cs (cells' := 21) (slots' := 5126) rfl rfl ?_
    exact ql_iret C S hr hlocks dX11_renderClause_104 ⟨Nat.le_of_ble_eq_true rfl, Nat.le_of_ble_eq_true rfl⟩ w
  have hB73 : ∀ (rl2 : Option Nat) (h : ql_H) (H : Heap) (locs : List Loc) (ls : Array Slot), ql_S D h0 s H locs h → lv_has ls 3 [(0, .ref a0), (2, va_rf rl2)] → qw_X11_renderClause_73 D.2 a0 Q X rl2 h → W p l e ({ frames := 16, cells := 21, slots := 5126, locals := 261 } : Room) s m ([.ref a0, .int xp1] : List Value).toArray below meth c H locs 20 4870 (vx_MQ below (ql_Q D h0 (ql_rI Q)) (ql_X D h0 X) ([.ref a0, .int xp1] : List Value).toArray s 21 5126 (ql_A h0)) (F0 m 73 ls []) := by
    intro rl2 h H locs ls S hl w
    unfold qw_X11_renderClause_73 at w
    refine ql_aload_n (r := rl2) C dX11_renderClause_73 rfl (lv_at hl 1 rfl) ?_
    refine ql_aload_n (r := (some a0)) C dX11_renderClause_74 rfl (lv_at hl 0 rfl) ?_
    refine ql_getR C S qf_12_0 gw_348 dX11_renderClause_75 w (fun r4 w => ?_)
    refine ql_getIN C S qf_4_2 (qn_RX11_136) dX11_renderClause_78 w (fun x5 w => ?_)
    refine ql_VI (As := [.int x5]) (rest := []) C S htab hlocks hl qy_X3_holdsOn qi_X3_holdsOn qs_X3_holdsOn gw_1026 (ci := 6) rfl w (fun b w => qm_X3_holdsOn l hl9 D _ b x5 _ _ w) rfl ⟨Nat.le_of_ble_eq_true rfl, Nat.le_of_ble_eq_true rfl⟩ ⟨rfl, rfl⟩ (by exact Nat.le_of_ble_eq_true rfl) (fun b e9 => by cases e9; rfl) dX11_renderClause_81 ⟨Nat.le_of_ble_eq_true rfl, Nat.le_of_ble_eq_true rfl⟩ ⟨Nat.le_of_ble_eq_true rfl, Nat.le_of_ble_eq_true rfl⟩ (fun x6 h H locs S w => ?_)
    refine W.cs (cells' := 20) (slots' := 4870) rfl rfl ?_
    refine lv_if_ne (tgt := 97) C.1.1 C.1.2.1 dX11_renderClause_84 (by decide) (fun c9 => ?_) (fun c9 => ?_)
    · replace w := ql_ifn w c9
      refine W.widen (k := 21) (n := 5126) (by omega) (by omega) ?_
      exact hB97  _ _ _ _ S (lv_sub hl [0] rfl) w
    · replace w := ql_if w c9
      refine ql_aload_n (r := (some a0)) C dX11_renderClause_87 rfl (lv_at hl 0 rfl) ?_
      refine ql_getR C S qf_12_7 gw_355 dX11_renderClause_88 w (fun r8 w => ?_)
      refine lv_bipush (v := (33 : Int32)) C.1.1 C.1.2.1 dX11_renderClause_91 (by decide) ?_
      refine ql_VR (As := [.int (33 : Int32)]) (rest := []) C S htab hlocks hl qy_J4_append_cf468 qi_J4_append_cf468 qs_J4_append_cf468 gw_1463 (ci := 1) rfl w (fun b w => qm_J4_append_cf468 l hl9 D _ b (33 : Int32) _ _ w) rfl ⟨Nat.le_of_ble_eq_true rfl, Nat.le_of_ble_eq_true rfl⟩ ⟨rfl, rfl⟩ (by exact Nat.le_of_ble_eq_true rfl) (fun b e9 => by cases e9; rfl) dX11_renderClause_93 ⟨Nat.le_of_ble_eq_true rfl, Nat.le_of_ble_eq_true rfl⟩ ⟨Nat.le_of_ble_eq_true rfl, Nat.le_of_ble_eq_true rfl⟩ (fun r9 h H locs S w => ?_)
      refine W.cs (cells' := 21) (slots' := 5126) rfl rfl ?_
      refine lv_pop C.1.1 C.1.2.1 dX11_renderClause_96 (ql_catR _) ?_
      exact hB97  _ _ _ _ S (lv_sub hl [0] rfl) w
  unfold qw_X11_renderClause at w
  refine ql_aload_n (r := (some a0)) C dX11_renderClause_0 rfl (lv_at hl 0 rfl) ?_
  refine lv_iload_n C.1.1 C.1.2.1 dX11_renderClause_1 rfl (lv_at hl 1 rfl) ?_
  refine ql_VR (As := [.int xp1]) (rest := []) C S htab hlocks hl qy_X11_clauseOf qi_X11_clauseOf qs_X11_clauseOf gw_995 (ci := 12) rfl w (fun b w => qm_X11_clauseOf l hl9 D _ b xp1 _ _ w) rfl ⟨Nat.le_of_ble_eq_true rfl, Nat.le_of_ble_eq_true rfl⟩ ⟨rfl, rfl⟩ (by exact Nat.le_of_ble_eq_true rfl) (fun b e9 => by cases e9; rfl) dX11_renderClause_2 ⟨Nat.le_of_ble_eq_true rfl, Nat.le_of_ble_eq_true rfl⟩ ⟨Nat.le_of_ble_eq_true rfl, Nat.le_of_ble_eq_true rfl⟩ (fun r11 h H locs S w => ?_)
  refine W.cs (cells' := 1) (slots' := 6) rfl rfl ?_
  refine ql_astore_n (lv' := [(2, va_rf r11), (0, .ref a0), (1, .int xp1)]) C dX11_renderClause_5 rfl hl (by decide) rfl (fun ls hl => ?_)
  refine ql_aload_n (r := (some a0)) C dX11_renderClause_6 rfl (lv_at hl 1 rfl) ?_
  refine ql_getR C S qf_12_7 gw_355 dX11_renderClause_7 w (fun r13 w => ?_)
  refine lv_iconst (v := (0 : Int32)) C.1.1 C.1.2.1 dX11_renderClause_10 (by decide) ?_
  refine ql_VV (As := [.int (0 : Int32)]) (rest := []) C S htab hlocks hl qy_J4_setLength_d00df qi_J4_setLength_d00df qs_J4_setLength_d00df gw_1206 (ci := 1) rfl w (fun b w => qm_J4_setLength_d00df l hl9 D _ b (0 : Int32) _ _ w) rfl ⟨Nat.le_of_ble_eq_true rfl, Nat.le_of_ble_eq_true rfl⟩ ⟨rfl, rfl⟩ (by exact Nat.le_of_ble_eq_true rfl) (fun b e9 => by cases e9; rfl) dX11_renderClause_11 ⟨Nat.le_of_ble_eq_true rfl, Nat.le_of_ble_eq_true rfl⟩ ⟨Nat.le_of_ble_eq_true rfl, Nat.le_of_ble_eq_true rfl⟩ (fun h H locs S w => ?_)
  refine W.cs (cells' := 2) (slots' := 262) rfl rfl ?_
  refine ql_aload_n (r := (some a0)) C dX11_renderClause_14 rfl (lv_at hl 1 rfl) ?_
  refine ql_getR C S qf_12_7 gw_355 dX11_renderClause_15 w (fun r15 w => ?_)
  refine ql_aload_n (r := r11) C dX11_renderClause_18 rfl (lv_at hl 0 rfl) ?_
  refine ql_getIN C S qf_6_2 (qn_RX11_161) dX11_renderClause_19 w (fun x16 w => ?_)
  refine ql_VR (As := [.int x16]) (rest := []) C S htab hlocks hl qy_J4_append_bf812 qi_J4_append_bf812 qs_J4_append_bf812 gw_1462 (ci := 1) rfl w (fun b w => qm_J4_append_bf812 l hl9 D _ b x16 _ _ w) rfl ⟨Nat.le_of_ble_eq_true rfl, Nat.le_of_ble_eq_true rfl⟩ ⟨rfl, rfl⟩ (by exact Nat.le_of_ble_eq_true rfl) (fun b e9 => by cases e9; rfl) dX11_renderClause_22 ⟨Nat.le_of_ble_eq_true rfl, Nat.le_of_ble_eq_true rfl⟩ ⟨Nat.le_of_ble_eq_true rfl, Nat.le_of_ble_eq_true rfl⟩ (fun r17 h H locs S w => ?_)
  refine W.cs (cells' := 3) (slots' := 518) rfl rfl ?_
  refine lv_pop C.1.1 C.1.2.1 dX11_renderClause_25 (ql_catR _) ?_
  refine ql_aload_n (r := (some a0)) C dX11_renderClause_26 rfl (lv_at hl 1 rfl) ?_
  refine ql_getR C S qf_12_7 gw_355 dX11_renderClause_27 w (fun r19 w => ?_)
  refine lv_bipush (v := (58 : Int32)) C.1.1 C.1.2.1 dX11_renderClause_30 (by decide) ?_
  refine ql_VR (As := [.int (58 : Int32)]) (rest := []) C S htab hlocks hl qy_J4_append_cf468 qi_J4_append_cf468 qs_J4_append_cf468 gw_1463 (ci := 1) rfl w (fun b w => qm_J4_append_cf468 l hl9 D _ b (58 : Int32) _ _ w) rfl ⟨Nat.le_of_ble_eq_true rfl, Nat.le_of_ble_eq_true rfl⟩ ⟨rfl, rfl⟩ (by exact Nat.le_of_ble_eq_true rfl) (fun b e9 => by cases e9; rfl) dX11_renderClause_32 ⟨Nat.le_of_ble_eq_true rfl, Nat.le_of_ble_eq_true rfl⟩ ⟨Nat.le_of_ble_eq_true rfl, Nat.le_of_ble_eq_true rfl⟩ (fun r20 h H locs S w => ?_)
  refine W.cs (cells' := 4) (slots' := 774) rfl rfl ?_
  refine lv_pop C.1.1 C.1.2.1 dX11_renderClause_35 (ql_catR _) ?_
  refine ql_aload_n (r := (some a0)) C dX11_renderClause_36 rfl (lv_at hl 1 rfl) ?_
  refine ql_aload_n (r := r11) C dX11_renderClause_37 rfl (lv_at hl 0 rfl) ?_
  refine ql_VJ (As := []) (rest := [.ref a0]) C S htab hlocks hl qy_X3_latestText qi_X3_latestText qs_X3_latestText gw_657 (ci := 6) rfl w (fun b w => qm_X3_latestText l hl9 D _ b _ _ w) rfl ⟨Nat.le_of_ble_eq_true rfl, Nat.le_of_ble_eq_true rfl⟩ ⟨rfl, rfl⟩ (by exact Nat.le_of_ble_eq_true rfl) (fun b e9 => by cases e9; rfl) dX11_renderClause_38 ⟨Nat.le_of_ble_eq_true rfl, Nat.le_of_ble_eq_true rfl⟩ ⟨Nat.le_of_ble_eq_true rfl, Nat.le_of_ble_eq_true rfl⟩ (fun j22 h H locs S w => ?_)
  refine W.cs (cells' := 4) (slots' := 774) rfl rfl ?_
  refine ql_VV (As := [.long j22]) (rest := []) C S htab hlocks hl qy_X11_appendNotes qi_X11_appendNotes qs_X11_appendNotes gw_1485 (ci := 12) rfl w (fun b w => qm_X11_appendNotes l hl9 D _ b j22 _ _ w) rfl ⟨Nat.le_of_ble_eq_true rfl, Nat.le_of_ble_eq_true rfl⟩ ⟨rfl, rfl⟩ (by exact Nat.le_of_ble_eq_true rfl) (fun b e9 => by cases e9; rfl) dX11_renderClause_41 ⟨Nat.le_of_ble_eq_true rfl, Nat.le_of_ble_eq_true rfl⟩ ⟨Nat.le_of_ble_eq_true rfl, Nat.le_of_ble_eq_true rfl⟩ (fun h H locs S w => ?_)
  refine W.cs (cells' := 18) (slots' := 4358) rfl rfl ?_
  refine ql_aload_n (r := r11) C dX11_renderClause_44 rfl (lv_at hl 0 rfl) ?_
  refine ql_VI (As := []) (rest := []) C S htab hlocks hl qy_X3_hasSunset qi_X3_hasSunset qs_X3_hasSunset gw_1018 (ci := 6) rfl w (fun b w => qm_X3_hasSunset l hl9 D _ b _ _ w) rfl ⟨Nat.le_of_ble_eq_true rfl, Nat.le_of_ble_eq_true rfl⟩ ⟨rfl, rfl⟩ (by exact Nat.le_of_ble_eq_true rfl) (fun b e9 => by cases e9; rfl) dX11_renderClause_45 ⟨Nat.le_of_ble_eq_true rfl, Nat.le_of_ble_eq_true rfl⟩ ⟨Nat.le_of_ble_eq_true rfl, Nat.le_of_ble_eq_true rfl⟩ (fun x25 h H locs S w => ?_)
  refine W.cs (cells' := 18) (slots' := 4358) rfl rfl ?_
  refine lv_if_eq (tgt := 73) C.1.1 C.1.2.1 dX11_renderClause_48 (by decide) (fun c9 => ?_) (fun c9 => ?_)
  · replace w := ql_if w c9
    refine W.widen (k := 20) (n := 4870) (by omega) (by omega) ?_
    exact hB73 r11 _ _ _ _ S (lv_sub hl [1, 0] rfl) w
  · replace w := ql_ifn w c9
    refine ql_aload_n (r := (some a0)) C dX11_renderClause_51 rfl (lv_at hl 1 rfl) ?_
    refine ql_getR C S qf_12_7 gw_355 dX11_renderClause_52 w (fun r27 w => ?_)
    refine lv_bipush (v := (126 : Int32)) C.1.1 C.1.2.1 dX11_renderClause_55 (by decide) ?_
    refine ql_VR (As := [.int (126 : Int32)]) (rest := []) C S htab hlocks hl qy_J4_append_cf468 qi_J4_append_cf468 qs_J4_append_cf468 gw_1463 (ci := 1) rfl w (fun b w => qm_J4_append_cf468 l hl9 D _ b (126 : Int32) _ _ w) rfl ⟨Nat.le_of_ble_eq_true rfl, Nat.le_of_ble_eq_true rfl⟩ ⟨rfl, rfl⟩ (by exact Nat.le_of_ble_eq_true rfl) (fun b e9 => by cases e9; rfl) dX11_renderClause_57 ⟨Nat.le_of_ble_eq_true rfl, Nat.le_of_ble_eq_true rfl⟩ ⟨Nat.le_of_ble_eq_true rfl, Nat.le_of_ble_eq_true rfl⟩ (fun r28 h H locs S w => ?_)
    refine W.cs (cells' := 19) (slots' := 4614) rfl rfl ?_
    refine lv_pop C.1.1 C.1.2.1 dX11_renderClause_60 (ql_catR _) ?_
    refine ql_aload_n (r := (some a0)) C dX11_renderClause_61 rfl (lv_at hl 1 rfl) ?_
    refine ql_getR C S qf_12_7 gw_355 dX11_renderClause_62 w (fun r30 w => ?_)
    refine ql_aload_n (r := r11) C dX11_renderClause_65 rfl (lv_at hl 0 rfl) ?_
    refine ql_getIN C S qf_6_4 (qn_RX11_170) dX11_renderClause_66 w (fun x31 w => ?_)
    refine ql_VR (As := [.int x31]) (rest := []) C S htab hlocks hl qy_J4_append_bf812 qi_J4_append_bf812 qs_J4_append_bf812 gw_1462 (ci := 1) rfl w (fun b w => qm_J4_append_bf812 l hl9 D _ b x31 _ _ w) rfl ⟨Nat.le_of_ble_eq_true rfl, Nat.le_of_ble_eq_true rfl⟩ ⟨rfl, rfl⟩ (by exact Nat.le_of_ble_eq_true rfl) (fun b e9 => by cases e9; rfl) dX11_renderClause_69 ⟨Nat.le_of_ble_eq_true rfl, Nat.le_of_ble_eq_true rfl⟩ ⟨Nat.le_of_ble_eq_true rfl, Nat.le_of_ble_eq_true rfl⟩ (fun r32 h H locs S w => ?_)
    refine W.cs (cells' := 20) (slots' := 4870) rfl rfl ?_
    refine lv_pop C.1.1 C.1.2.1 dX11_renderClause_72 (ql_catR _) ?_
    exact hB73 r11 _ _ _ _ S (lv_sub hl [1, 0] rfl) w
def qw_X11_outputAt (a0 : Nat) (xp1 : Int32) (h : ql_H) (Q : Int32 → ql_H → Prop) (X : String → ql_H → Prop) : Prop :=
if xp1 < 0 then (∀ n9 : Nat, h.1 ≤ n9 → X "java/lang/IndexOutOfBoundsException" (n9, h.2)) else (ql_gR h (some a0) 12 7 fun r1 =>
ql_rv h r1 1 fun b2 => qw_J4_length_8abf5 b2  h (fun x2 h =>
if xp1 < x2 then (ql_gR h (some a0) 12 7 fun r4 =>
ql_rv h r4 1 fun b5 => qw_J4_charAt_5068e b5 xp1 h (fun x5 h =>
ql_nz .char x5 ∧ Q x5 h)) else (∀ n9 : Nat, h.1 ≤ n9 → X "java/lang/IndexOutOfBoundsException" (n9, h.2))))
set_option maxHeartbeats 4000000 in
set_option maxRecDepth 100000 in
theorem qm_X11_outputAt (l : Launch) (hl9 : l.stackTraces = false) (D : ql_D) (h0 : ql_H) (a0 : Nat) (xp1 : Int32) (Q : Int32 → ql_H → Prop) (X : String → ql_H → Prop) (w : qw_X11_outputAt a0 xp1 h0 Q X) : ql_M D l yX11_outputAt cX11_outputAt 2 (some .char) ({ frames := 10, cells := 1, slots := 6, locals := 168 } : Room) h0 [.ref a0, .int xp1] (ql_rI Q) X 1 6 := by
  refine ql_ofW (by decide) (Nat.le_of_ble_eq_true rfl) ?_
  intro p e s m below meth c ls C hr hlocks hnm htab S hl
  have hl : lv_has ls 2 [(0, .ref a0), (1, .int xp1)] := hl
  unfold qw_X11_outputAt at w
  refine lv_iload_n C.1.1 C.1.2.1 dX11_outputAt_0 rfl (lv_at hl 1 rfl) ?_
  refine lv_if_lt (tgt := 15) C.1.1 C.1.2.1 dX11_outputAt_1 (by decide) (fun c9 => ?_) (fun c9 => ?_)
  · replace w := ql_if w c9
    exact ql_throw trivial C S qx_RX11_126 gw_557 gw_93 hl htab hlocks hl9 dX11_outputAt_15 dX11_outputAt_18 dX11_outputAt_19 dX11_outputAt_22 ⟨Nat.le_of_ble_eq_true rfl, Nat.le_of_ble_eq_true rfl, Nat.le_of_ble_eq_true rfl⟩ (by exact Nat.le_of_ble_eq_true rfl) ⟨Nat.le_of_ble_eq_true rfl, Nat.le_of_ble_eq_true rfl⟩ w
  · replace w := ql_ifn w c9
    refine lv_iload_n C.1.1 C.1.2.1 dX11_outputAt_4 rfl (lv_at hl 1 rfl) ?_
    refine ql_aload_n (r := (some a0)) C dX11_outputAt_5 rfl (lv_at hl 0 rfl) ?_
    refine ql_getR C S qf_12_7 gw_355 dX11_outputAt_6 w (fun r1 w => ?_)
    refine ql_VI (As := []) (rest := [.int xp1]) C S htab hlocks hl qy_J4_length_8abf5 qi_J4_length_8abf5 qs_J4_length_8abf5 gw_1489 (ci := 1) rfl w (fun b w => qm_J4_length_8abf5 l hl9 D _ b _ _ w) rfl ⟨Nat.le_of_ble_eq_true rfl, Nat.le_of_ble_eq_true rfl⟩ ⟨rfl, rfl⟩ (by exact Nat.le_of_ble_eq_true rfl) (fun b e9 => by cases e9; rfl) dX11_outputAt_9 ⟨Nat.le_of_ble_eq_true rfl, Nat.le_of_ble_eq_true rfl⟩ ⟨Nat.le_of_ble_eq_true rfl, Nat.le_of_ble_eq_true rfl⟩ (fun x2 h H locs S w => ?_)
    refine W.cs (cells' := 0) (slots' := 0) rfl rfl ?_
    refine lv_icmp_lt (tgt := 23) C.1.1 C.1.2.1 dX11_outputAt_12 (by decide) (fun c9 => ?_) (fun c9 => ?_)
    · replace w := ql_if w c9
      refine ql_aload_n (r := (some a0)) C dX11_outputAt_23 rfl (lv_at hl 0 rfl) ?_
      refine ql_getR C S qf_12_7 gw_355 dX11_outputAt_24 w (fun r4 w => ?_)
      refine lv_iload_n C.1.1 C.1.2.1 dX11_outputAt_27 rfl (lv_at hl 1 rfl) ?_
      refine ql_VI (As := [.int xp1]) (rest := []) C S htab hlocks hl qy_J4_charAt_5068e qi_J4_charAt_5068e qs_J4_charAt_5068e gw_1497 (ci := 1) rfl w (fun b w => qm_J4_charAt_5068e l hl9 D _ b xp1 _ _ w) rfl ⟨Nat.le_of_ble_eq_true rfl, Nat.le_of_ble_eq_true rfl⟩ ⟨rfl, rfl⟩ (by exact Nat.le_of_ble_eq_true rfl) (fun b e9 => by cases e9; rfl) dX11_outputAt_28 ⟨Nat.le_of_ble_eq_true rfl, Nat.le_of_ble_eq_true rfl⟩ ⟨Nat.le_of_ble_eq_true rfl, Nat.le_of_ble_eq_true rfl⟩ (fun x5 h H locs S w => ?_)
      refine W.cs (cells' := 0) (slots' := 0) rfl rfl ?_
      exact ql_zret C S hr hlocks dX11_outputAt_31 ⟨Nat.le_of_ble_eq_true rfl, Nat.le_of_ble_eq_true rfl⟩ w
    · replace w := ql_ifn w c9
      exact ql_throw trivial C S qx_RX11_126 gw_557 gw_93 hl htab hlocks hl9 dX11_outputAt_15 dX11_outputAt_18 dX11_outputAt_19 dX11_outputAt_22 ⟨Nat.le_of_ble_eq_true rfl, Nat.le_of_ble_eq_true rfl, Nat.le_of_ble_eq_true rfl⟩ (by exact Nat.le_of_ble_eq_true rfl) ⟨Nat.le_of_ble_eq_true rfl, Nat.le_of_ble_eq_true rfl⟩ w
def qw_X11_type (a0 : Nat) (xp1 : Int32) (h : ql_H) (Q : Int32 → ql_H → Prop) (X : String → ql_H → Prop) : Prop :=
if xp1 < (32 : Int32) then (∀ n9 : Nat, h.1 ≤ n9 → X "java/lang/IllegalArgumentException" (n9, h.2)) else (if xp1 ≤ (126 : Int32) then (ql_gR h (some a0) 12 4 fun r1 =>
ql_rv h r1 10 fun b2 => qw_X8_isFull b2  h (fun x2 h =>
if x2 = 0 then (ql_gR h (some a0) 12 4 fun r4 =>
ql_rv h r4 10 fun b5 => qw_X8_append b5 xp1 h (fun x5 h =>
Q x5 h)) else (∀ n9 : Nat, h.1 ≤ n9 → X "java/lang/IllegalStateException" (n9, h.2)))) else (∀ n9 : Nat, h.1 ≤ n9 → X "java/lang/IllegalArgumentException" (n9, h.2)))
set_option maxHeartbeats 4000000 in
set_option maxRecDepth 100000 in
theorem qm_X11_type (l : Launch) (hl9 : l.stackTraces = false) (D : ql_D) (h0 : ql_H) (a0 : Nat) (xp1 : Int32) (Q : Int32 → ql_H → Prop) (X : String → ql_H → Prop) (w : qw_X11_type a0 xp1 h0 Q X) : ql_M D l yX11_type cX11_type 2 (some .int) ({ frames := 16, cells := 1, slots := 256, locals := 258 } : Room) h0 [.ref a0, .int xp1] (ql_rI Q) X 1 256 := by
  refine ql_ofW (by decide) (Nat.le_of_ble_eq_true rfl) ?_
  intro p e s m below meth c ls C hr hlocks hnm htab S hl
  have hl : lv_has ls 2 [(0, .ref a0), (1, .int xp1)] := hl
  unfold qw_X11_type at w
  refine lv_iload_n C.1.1 C.1.2.1 dX11_type_0 rfl (lv_at hl 1 rfl) ?_
  refine lv_bipush (v := (32 : Int32)) C.1.1 C.1.2.1 dX11_type_1 (by decide) ?_
  refine lv_icmp_lt (tgt := 12) C.1.1 C.1.2.1 dX11_type_3 (by decide) (fun c9 => ?_) (fun c9 => ?_)
  · replace w := ql_if w c9
    exact ql_throw trivial C S qx_RX11_129 gw_572 gw_94 hl htab hlocks hl9 dX11_type_12 dX11_type_15 dX11_type_16 dX11_type_19 ⟨Nat.le_of_ble_eq_true rfl, Nat.le_of_ble_eq_true rfl, Nat.le_of_ble_eq_true rfl⟩ (by exact Nat.le_of_ble_eq_true rfl) ⟨Nat.le_of_ble_eq_true rfl, Nat.le_of_ble_eq_true rfl⟩ w
  · replace w := ql_ifn w c9
    refine lv_iload_n C.1.1 C.1.2.1 dX11_type_6 rfl (lv_at hl 1 rfl) ?_
    refine lv_bipush (v := (126 : Int32)) C.1.1 C.1.2.1 dX11_type_7 (by decide) ?_
    refine lv_icmp_le (tgt := 20) C.1.1 C.1.2.1 dX11_type_9 (by decide) (fun c9 => ?_) (fun c9 => ?_)
    · replace w := ql_if w c9
      refine ql_aload_n (r := (some a0)) C dX11_type_20 rfl (lv_at hl 0 rfl) ?_
      refine ql_getR C S qf_12_4 gw_352 dX11_type_21 w (fun r1 w => ?_)
      refine ql_VI (As := []) (rest := []) C S htab hlocks hl qy_X8_isFull qi_X8_isFull qs_X8_isFull gw_1514 (ci := 10) rfl w (fun b w => qm_X8_isFull l hl9 D _ b _ _ w) rfl ⟨Nat.le_of_ble_eq_true rfl, Nat.le_of_ble_eq_true rfl⟩ ⟨rfl, rfl⟩ (by exact Nat.le_of_ble_eq_true rfl) (fun b e9 => by cases e9; rfl) dX11_type_24 ⟨Nat.le_of_ble_eq_true rfl, Nat.le_of_ble_eq_true rfl⟩ ⟨Nat.le_of_ble_eq_true rfl, Nat.le_of_ble_eq_true rfl⟩ (fun x2 h H locs S w => ?_)
      refine W.cs (cells' := 0) (slots' := 0) rfl rfl ?_
      refine lv_if_eq (tgt := 38) C.1.1 C.1.2.1 dX11_type_27 (by decide) (fun c9 => ?_) (fun c9 => ?_)
      · replace w := ql_if w c9
        refine ql_aload_n (r := (some a0)) C dX11_type_38 rfl (lv_at hl 0 rfl) ?_
        refine ql_getR C S qf_12_4 gw_352 dX11_type_39 w (fun r4 w => ?_)
        refine lv_iload_n C.1.1 C.1.2.1 dX11_type_42 rfl (lv_at hl 1 rfl) ?_
        refine ql_VI (As := [.int xp1]) (rest := []) C S htab hlocks hl qy_X8_append qi_X8_append qs_X8_append gw_1519 (ci := 10) rfl w (fun b w => qm_X8_append l hl9 D _ b xp1 _ _ w) rfl ⟨Nat.le_of_ble_eq_true rfl, Nat.le_of_ble_eq_true rfl⟩ ⟨rfl, rfl⟩ (by exact Nat.le_of_ble_eq_true rfl) (fun b e9 => by cases e9; rfl) dX11_type_43 ⟨Nat.le_of_ble_eq_true rfl, Nat.le_of_ble_eq_true rfl⟩ ⟨Nat.le_of_ble_eq_true rfl, Nat.le_of_ble_eq_true rfl⟩ (fun x5 h H locs S w => ?_)
        refine W.cs (cells' := 1) (slots' := 256) rfl rfl ?_
        exact ql_iret C S hr hlocks dX11_type_46 ⟨Nat.le_of_ble_eq_true rfl, Nat.le_of_ble_eq_true rfl⟩ w
      · replace w := ql_ifn w c9
        exact ql_throw trivial C S qx_RX11_132 gw_587 gw_95 hl htab hlocks hl9 dX11_type_30 dX11_type_33 dX11_type_34 dX11_type_37 ⟨Nat.le_of_ble_eq_true rfl, Nat.le_of_ble_eq_true rfl, Nat.le_of_ble_eq_true rfl⟩ (by exact Nat.le_of_ble_eq_true rfl) ⟨Nat.le_of_ble_eq_true rfl, Nat.le_of_ble_eq_true rfl⟩ w
    · replace w := ql_ifn w c9
      exact ql_throw trivial C S qx_RX11_129 gw_572 gw_94 hl htab hlocks hl9 dX11_type_12 dX11_type_15 dX11_type_16 dX11_type_19 ⟨Nat.le_of_ble_eq_true rfl, Nat.le_of_ble_eq_true rfl, Nat.le_of_ble_eq_true rfl⟩ (by exact Nat.le_of_ble_eq_true rfl) ⟨Nat.le_of_ble_eq_true rfl, Nat.le_of_ble_eq_true rfl⟩ w
def qw_X11_runScript (σ : Nat → Nat) (a0 : Nat) (h : ql_H) (Q : Int32 → ql_H → Prop) (X : String → ql_H → Prop) : Prop :=
ql_gR h (some a0) 12 4 fun r1 =>
ql_rv h r1 10 fun b2 => qw_X8_read σ b2  h (fun x2 h =>
ql_gR h (some a0) 12 4 fun r4 =>
ql_rv h r4 10 fun b4 => qw_X8_empty b4  h (fun h =>
if x2 = 0 then (ql_gR h (some a0) 12 4 fun r20 =>
ql_gI h r20 10 3 fun x21 =>
ql_pV h (some a0) 12 5 (.int x21) fun h =>
∀ n9 : Nat, h.1 ≤ n9 → X "java/lang/IllegalArgumentException" (n9, h.2)) else (ql_gR h (some a0) 12 3 fun r6 =>
ql_gR h (some a0) 12 0 fun r7 =>
ql_rv h r6 9 fun b7 => qw_X6_open b7 r7 h (fun h =>
ql_gR h (some a0) 12 4 fun r9 =>
ql_gR h (some a0) 12 0 fun r10 =>
ql_rv h r9 10 fun b11 => qw_X8_applyTo σ b11 r10 h (fun x11 h =>
if x11 = (-1 : Int32) then (ql_gR h (some a0) 12 3 fun r13 =>
ql_rv h r13 9 fun b13 => qw_X6_keep b13  h (fun h =>
ql_gR h (some a0) 12 4 fun r15 =>
ql_gI h r15 10 2 fun x16 =>
Q x16 h)) else (ql_pV h (some a0) 12 6 (.int x11) fun h =>
ql_gR h (some a0) 12 3 fun r17 =>
ql_gR h (some a0) 12 0 fun r18 =>
ql_rv h r17 9 fun b18 => qw_X6_abandon b18 r18 h (fun h =>
∀ n9 : Nat, h.1 ≤ n9 → X "java/lang/IllegalStateException" (n9, h.2))))))))
set_option maxHeartbeats 4000000 in
set_option maxRecDepth 100000 in
theorem qm_X11_runScript (l : Launch) (hl9 : l.stackTraces = false) (D : ql_D) (h0 : ql_H) (a0 : Nat) (Q : Int32 → ql_H → Prop) (X : String → ql_H → Prop) (w : qw_X11_runScript D.2 a0 h0 Q X) : ql_M D l yX11_runScript cX11_runScript 3 (some .int) ({ frames := 20, cells := 2, slots := 262, locals := 322 } : Room) h0 [.ref a0] (ql_rI Q) X 2 262 := by
  refine ql_ofW (by decide) (Nat.le_of_ble_eq_true rfl) ?_
  intro p e s m below meth c ls C hr hlocks hnm htab S hl
  have hl : lv_has ls 3 [(0, .ref a0)] := hl
  unfold qw_X11_runScript at w
  refine ql_aload_n (r := (some a0)) C dX11_runScript_0 rfl (lv_at hl 0 rfl) ?_
  refine ql_getR C S qf_12_4 gw_352 dX11_runScript_1 w (fun r1 w => ?_)
  refine ql_VI (As := []) (rest := []) C S htab hlocks hl qy_X8_read qi_X8_read qs_X8_read gw_1531 (ci := 10) rfl w (fun b w => qm_X8_read l hl9 D _ b _ _ w) rfl ⟨Nat.le_of_ble_eq_true rfl, Nat.le_of_ble_eq_true rfl⟩ ⟨rfl, rfl⟩ (by exact Nat.le_of_ble_eq_true rfl) (fun b e9 => by cases e9; rfl) dX11_runScript_4 ⟨Nat.le_of_ble_eq_true rfl, Nat.le_of_ble_eq_true rfl⟩ ⟨Nat.le_of_ble_eq_true rfl, Nat.le_of_ble_eq_true rfl⟩ (fun x2 h H locs S w => ?_)
  refine W.cs (cells' := 0) (slots' := 0) rfl rfl ?_
  refine lv_istore_n (lv' := [(1, .int x2), (0, .ref a0)]) C.1.1 C.1.2.1 dX11_runScript_7 rfl hl (by decide) rfl (fun ls hl => ?_)
  refine ql_aload_n (r := (some a0)) C dX11_runScript_8 rfl (lv_at hl 1 rfl) ?_
  refine ql_getR C S qf_12_4 gw_352 dX11_runScript_9 w (fun r4 w => ?_)
  refine ql_VV (As := []) (rest := []) C S htab hlocks hl qy_X8_empty qi_X8_empty qs_X8_empty gw_1591 (ci := 10) rfl w (fun b w => qm_X8_empty l hl9 D _ b _ _ w) rfl ⟨Nat.le_of_ble_eq_true rfl, Nat.le_of_ble_eq_true rfl⟩ ⟨rfl, rfl⟩ (by exact Nat.le_of_ble_eq_true rfl) (fun b e9 => by cases e9; rfl) dX11_runScript_12 ⟨Nat.le_of_ble_eq_true rfl, Nat.le_of_ble_eq_true rfl⟩ ⟨Nat.le_of_ble_eq_true rfl, Nat.le_of_ble_eq_true rfl⟩ (fun h H locs S w => ?_)
  refine W.cs (cells' := 1) (slots' := 256) rfl rfl ?_
  refine lv_iload_n C.1.1 C.1.2.1 dX11_runScript_15 rfl (lv_at hl 0 rfl) ?_
  refine lv_if_ne (tgt := 38) C.1.1 C.1.2.1 dX11_runScript_16 (by decide) (fun c9 => ?_) (fun c9 => ?_)
  · replace w := ql_ifn w c9
    refine ql_aload_n (r := (some a0)) C dX11_runScript_38 rfl (lv_at hl 1 rfl) ?_
    refine ql_getR C S qf_12_3 gw_351 dX11_runScript_39 w (fun r6 w => ?_)
    refine ql_aload_n (r := (some a0)) C dX11_runScript_42 rfl (lv_at hl 1 rfl) ?_
    refine ql_getR C S qf_12_0 gw_348 dX11_runScript_43 w (fun r7 w => ?_)
    refine ql_VV (As := [va_rf r7]) (rest := []) C S htab hlocks hl qy_X6_open qi_X6_open qs_X6_open gw_386 (ci := 9) rfl w (fun b w => qm_X6_open l hl9 D _ b r7 _ _ w) rfl ⟨Nat.le_of_ble_eq_true rfl, Nat.le_of_ble_eq_true rfl⟩ ⟨rfl, rfl⟩ (by exact Nat.le_of_ble_eq_true rfl) (fun b e9 => by cases e9; rfl) dX11_runScript_46 ⟨Nat.le_of_ble_eq_true rfl, Nat.le_of_ble_eq_true rfl⟩ ⟨Nat.le_of_ble_eq_true rfl, Nat.le_of_ble_eq_true rfl⟩ (fun h H locs S w => ?_)
    refine W.cs (cells' := 1) (slots' := 256) rfl rfl ?_
    refine ql_aload_n (r := (some a0)) C dX11_runScript_49 rfl (lv_at hl 1 rfl) ?_
    refine ql_getR C S qf_12_4 gw_352 dX11_runScript_50 w (fun r9 w => ?_)
    refine ql_aload_n (r := (some a0)) C dX11_runScript_53 rfl (lv_at hl 1 rfl) ?_
    refine ql_getR C S qf_12_0 gw_348 dX11_runScript_54 w (fun r10 w => ?_)
    refine ql_VI (As := [va_rf r10]) (rest := []) C S htab hlocks hl qy_X8_applyTo qi_X8_applyTo qs_X8_applyTo gw_1596 (ci := 10) rfl w (fun b w => qm_X8_applyTo l hl9 D _ b r10 _ _ w) rfl ⟨Nat.le_of_ble_eq_true rfl, Nat.le_of_ble_eq_true rfl⟩ ⟨rfl, rfl⟩ (by exact Nat.le_of_ble_eq_true rfl) (fun b e9 => by cases e9; rfl) dX11_runScript_57 ⟨Nat.le_of_ble_eq_true rfl, Nat.le_of_ble_eq_true rfl⟩ ⟨Nat.le_of_ble_eq_true rfl, Nat.le_of_ble_eq_true rfl⟩ (fun x11 h H locs S w => ?_)
    refine W.cs (cells' := 1) (slots' := 256) rfl rfl ?_
    refine lv_istore_n (lv' := [(2, .int x11), (1, .int x2), (0, .ref a0)]) C.1.1 C.1.2.1 dX11_runScript_60 rfl hl (by decide) rfl (fun ls hl => ?_)
    refine lv_iload_n C.1.1 C.1.2.1 dX11_runScript_61 rfl (lv_at hl 0 rfl) ?_
    refine lv_iconst (v := (-1 : Int32)) C.1.1 C.1.2.1 dX11_runScript_62 (by decide) ?_
    refine lv_icmp_eq (tgt := 90) C.1.1 C.1.2.1 dX11_runScript_63 (by decide) (fun c9 => ?_) (fun c9 => ?_)
    · replace w := ql_if w c9
      refine ql_aload_n (r := (some a0)) C dX11_runScript_90 rfl (lv_at hl 2 rfl) ?_
      refine ql_getR C S qf_12_3 gw_351 dX11_runScript_91 w (fun r13 w => ?_)
      refine ql_VV (As := []) (rest := []) C S htab hlocks hl qy_X6_keep qi_X6_keep qs_X6_keep gw_617 (ci := 9) rfl w (fun b w => qm_X6_keep l hl9 D _ b _ _ w) rfl ⟨Nat.le_of_ble_eq_true rfl, Nat.le_of_ble_eq_true rfl⟩ ⟨rfl, rfl⟩ (by exact Nat.le_of_ble_eq_true rfl) (fun b e9 => by cases e9; rfl) dX11_runScript_94 ⟨Nat.le_of_ble_eq_true rfl, Nat.le_of_ble_eq_true rfl⟩ ⟨Nat.le_of_ble_eq_true rfl, Nat.le_of_ble_eq_true rfl⟩ (fun h H locs S w => ?_)
      refine W.cs (cells' := 1) (slots' := 256) rfl rfl ?_
      refine ql_aload_n (r := (some a0)) C dX11_runScript_97 rfl (lv_at hl 2 rfl) ?_
      refine ql_getR C S qf_12_4 gw_352 dX11_runScript_98 w (fun r15 w => ?_)
      refine ql_getIN C S qf_10_2 (qn_RX11_357) dX11_runScript_101 w (fun x16 w => ?_)
      exact ql_iret C S hr hlocks dX11_runScript_104 ⟨Nat.le_of_ble_eq_true rfl, Nat.le_of_ble_eq_true rfl⟩ w
    · replace w := ql_ifn w c9
      refine ql_aload_n (r := (some a0)) C dX11_runScript_66 rfl (lv_at hl 2 rfl) ?_
      refine lv_iload_n C.1.1 C.1.2.1 dX11_runScript_67 rfl (lv_at hl 0 rfl) ?_
      refine ql_putV C S qf_12_6 gw_354 (tyX11) tyX11_ok nmX11 rfl dX11_runScript_68 (v := .int x11) rfl rfl w (fun h H locs S w => ?_)
      refine ql_aload_n (r := (some a0)) C dX11_runScript_71 rfl (lv_at hl 2 rfl) ?_
      refine ql_getR C S qf_12_3 gw_351 dX11_runScript_72 w (fun r17 w => ?_)
      refine ql_aload_n (r := (some a0)) C dX11_runScript_75 rfl (lv_at hl 2 rfl) ?_
      refine ql_getR C S qf_12_0 gw_348 dX11_runScript_76 w (fun r18 w => ?_)
      refine ql_VV (As := [va_rf r18]) (rest := []) C S htab hlocks hl qy_X6_abandon qi_X6_abandon qs_X6_abandon gw_1622 (ci := 9) rfl w (fun b w => qm_X6_abandon l hl9 D _ b r18 _ _ w) rfl ⟨Nat.le_of_ble_eq_true rfl, Nat.le_of_ble_eq_true rfl⟩ ⟨rfl, rfl⟩ (by exact Nat.le_of_ble_eq_true rfl) (fun b e9 => by cases e9; rfl) dX11_runScript_79 ⟨Nat.le_of_ble_eq_true rfl, Nat.le_of_ble_eq_true rfl⟩ ⟨Nat.le_of_ble_eq_true rfl, Nat.le_of_ble_eq_true rfl⟩ (fun h H locs S w => ?_)
      refine W.cs (cells' := 1) (slots' := 256) rfl rfl ?_
      exact ql_throw trivial C S qx_RX11_132 gw_587 gw_95 hl htab hlocks hl9 dX11_runScript_82 dX11_runScript_85 dX11_runScript_86 dX11_runScript_89 ⟨Nat.le_of_ble_eq_true rfl, Nat.le_of_ble_eq_true rfl, Nat.le_of_ble_eq_true rfl⟩ (by exact Nat.le_of_ble_eq_true rfl) ⟨Nat.le_of_ble_eq_true rfl, Nat.le_of_ble_eq_true rfl⟩ w
  · replace w := ql_if w c9
    refine ql_aload_n (r := (some a0)) C dX11_runScript_19 rfl (lv_at hl 1 rfl) ?_
    refine ql_aload_n (r := (some a0)) C dX11_runScript_20 rfl (lv_at hl 1 rfl) ?_
    refine ql_getR C S qf_12_4 gw_352 dX11_runScript_21 w (fun r20 w => ?_)
    refine ql_getIN C S qf_10_3 (qn_RX11_347) dX11_runScript_24 w (fun x21 w => ?_)
    refine ql_putV C S qf_12_5 gw_353 (tyX11) tyX11_ok nmX11 rfl dX11_runScript_27 (v := .int x21) rfl rfl w (fun h H locs S w => ?_)
    exact ql_throw trivial C S qx_RX11_129 gw_572 gw_94 hl htab hlocks hl9 dX11_runScript_30 dX11_runScript_33 dX11_runScript_34 dX11_runScript_37 ⟨Nat.le_of_ble_eq_true rfl, Nat.le_of_ble_eq_true rfl, Nat.le_of_ble_eq_true rfl⟩ (by exact Nat.le_of_ble_eq_true rfl) ⟨Nat.le_of_ble_eq_true rfl, Nat.le_of_ble_eq_true rfl⟩ w
def qw_X11_errorPosition (a0 : Nat) (h : ql_H) (Q : Int32 → ql_H → Prop) (X : String → ql_H → Prop) : Prop :=
ql_gI h (some a0) 12 5 fun x1 =>
if x1 = (-1 : Int32) then (∀ n9 : Nat, h.1 ≤ n9 → X "java/util/NoSuchElementException" (n9, h.2)) else (ql_gI h (some a0) 12 5 fun x2 =>
Q x2 h)
set_option maxHeartbeats 4000000 in
set_option maxRecDepth 100000 in
theorem qm_X11_errorPosition (l : Launch) (hl9 : l.stackTraces = false) (D : ql_D) (h0 : ql_H) (a0 : Nat) (Q : Int32 → ql_H → Prop) (X : String → ql_H → Prop) (w : qw_X11_errorPosition a0 h0 Q X) : ql_M D l yX11_errorPosition cX11_errorPosition 1 (some .int) ({ frames := 8, cells := 1, slots := 6, locals := 101 } : Room) h0 [.ref a0] (ql_rI Q) X 1 6 := by
  refine ql_ofW (by decide) (Nat.le_of_ble_eq_true rfl) ?_
  intro p e s m below meth c ls C hr hlocks hnm htab S hl
  have hl : lv_has ls 1 [(0, .ref a0)] := hl
  unfold qw_X11_errorPosition at w
  refine ql_aload_n (r := (some a0)) C dX11_errorPosition_0 rfl (lv_at hl 0 rfl) ?_
  refine ql_getI C S qf_12_5 gw_353 dX11_errorPosition_1 w (fun x1 w => ?_)
  refine lv_iconst (v := (-1 : Int32)) C.1.1 C.1.2.1 dX11_errorPosition_4 (by decide) ?_
  refine lv_icmp_ne (tgt := 16) C.1.1 C.1.2.1 dX11_errorPosition_5 (by decide) (fun c9 => ?_) (fun c9 => ?_)
  · replace w := ql_ifn w c9
    refine ql_aload_n (r := (some a0)) C dX11_errorPosition_16 rfl (lv_at hl 0 rfl) ?_
    refine ql_getI C S qf_12_5 gw_353 dX11_errorPosition_17 w (fun x2 w => ?_)
    exact ql_iret C S hr hlocks dX11_errorPosition_20 ⟨Nat.le_of_ble_eq_true rfl, Nat.le_of_ble_eq_true rfl⟩ w
  · replace w := ql_if w c9
    exact ql_throw trivial C S qx_RX11_123 gw_488 gw_92 hl htab hlocks hl9 dX11_errorPosition_8 dX11_errorPosition_11 dX11_errorPosition_12 dX11_errorPosition_15 ⟨Nat.le_of_ble_eq_true rfl, Nat.le_of_ble_eq_true rfl, Nat.le_of_ble_eq_true rfl⟩ (by exact Nat.le_of_ble_eq_true rfl) ⟨Nat.le_of_ble_eq_true rfl, Nat.le_of_ble_eq_true rfl⟩ w
def qw_X11_failedCommand (a0 : Nat) (h : ql_H) (Q : Int32 → ql_H → Prop) (X : String → ql_H → Prop) : Prop :=
ql_gI h (some a0) 12 6 fun x1 =>
if x1 = (-1 : Int32) then (∀ n9 : Nat, h.1 ≤ n9 → X "java/util/NoSuchElementException" (n9, h.2)) else (ql_gI h (some a0) 12 6 fun x2 =>
Q x2 h)
set_option maxHeartbeats 4000000 in
set_option maxRecDepth 100000 in
theorem qm_X11_failedCommand (l : Launch) (hl9 : l.stackTraces = false) (D : ql_D) (h0 : ql_H) (a0 : Nat) (Q : Int32 → ql_H → Prop) (X : String → ql_H → Prop) (w : qw_X11_failedCommand a0 h0 Q X) : ql_M D l yX11_failedCommand cX11_failedCommand 1 (some .int) ({ frames := 8, cells := 1, slots := 6, locals := 101 } : Room) h0 [.ref a0] (ql_rI Q) X 1 6 := by
  refine ql_ofW (by decide) (Nat.le_of_ble_eq_true rfl) ?_
  intro p e s m below meth c ls C hr hlocks hnm htab S hl
  have hl : lv_has ls 1 [(0, .ref a0)] := hl
  unfold qw_X11_failedCommand at w
  refine ql_aload_n (r := (some a0)) C dX11_failedCommand_0 rfl (lv_at hl 0 rfl) ?_
  refine ql_getI C S qf_12_6 gw_354 dX11_failedCommand_1 w (fun x1 w => ?_)
  refine lv_iconst (v := (-1 : Int32)) C.1.1 C.1.2.1 dX11_failedCommand_4 (by decide) ?_
  refine lv_icmp_ne (tgt := 16) C.1.1 C.1.2.1 dX11_failedCommand_5 (by decide) (fun c9 => ?_) (fun c9 => ?_)
  · replace w := ql_ifn w c9
    refine ql_aload_n (r := (some a0)) C dX11_failedCommand_16 rfl (lv_at hl 0 rfl) ?_
    refine ql_getI C S qf_12_6 gw_354 dX11_failedCommand_17 w (fun x2 w => ?_)
    exact ql_iret C S hr hlocks dX11_failedCommand_20 ⟨Nat.le_of_ble_eq_true rfl, Nat.le_of_ble_eq_true rfl⟩ w
  · replace w := ql_if w c9
    exact ql_throw trivial C S qx_RX11_123 gw_488 gw_92 hl htab hlocks hl9 dX11_failedCommand_8 dX11_failedCommand_11 dX11_failedCommand_12 dX11_failedCommand_15 ⟨Nat.le_of_ble_eq_true rfl, Nat.le_of_ble_eq_true rfl, Nat.le_of_ble_eq_true rfl⟩ (by exact Nat.le_of_ble_eq_true rfl) ⟨Nat.le_of_ble_eq_true rfl, Nat.le_of_ble_eq_true rfl⟩ w
def qw_X11_undo (a0 : Nat) (h : ql_H) (Q : Int32 → ql_H → Prop) (X : String → ql_H → Prop) : Prop :=
ql_gR h (some a0) 12 3 fun r1 =>
ql_gI h r1 9 3 fun x2 =>
if x2 = 0 then (∀ n9 : Nat, h.1 ≤ n9 → X "java/util/NoSuchElementException" (n9, h.2)) else (ql_gR h (some a0) 12 3 fun r3 =>
ql_gR h (some a0) 12 0 fun r4 =>
ql_rv h r3 9 fun b4 => qw_X6_stepBack b4 r4 h (fun h =>
ql_gR h (some a0) 12 3 fun r6 =>
ql_gI h r6 9 3 fun x7 =>
Q x7 h))
set_option maxHeartbeats 4000000 in
set_option maxRecDepth 100000 in
theorem qm_X11_undo (l : Launch) (hl9 : l.stackTraces = false) (D : ql_D) (h0 : ql_H) (a0 : Nat) (Q : Int32 → ql_H → Prop) (X : String → ql_H → Prop) (w : qw_X11_undo a0 h0 Q X) : ql_M D l yX11_undo cX11_undo 1 (some .int) ({ frames := 9, cells := 1, slots := 6, locals := 156 } : Room) h0 [.ref a0] (ql_rI Q) X 1 6 := by
  refine ql_ofW (by decide) (Nat.le_of_ble_eq_true rfl) ?_
  intro p e s m below meth c ls C hr hlocks hnm htab S hl
  have hl : lv_has ls 1 [(0, .ref a0)] := hl
  unfold qw_X11_undo at w
  refine ql_aload_n (r := (some a0)) C dX11_undo_0 rfl (lv_at hl 0 rfl) ?_
  refine ql_getR C S qf_12_3 gw_351 dX11_undo_1 w (fun r1 w => ?_)
  refine ql_getIN C S qf_9_3 (qn_RX11_360) dX11_undo_4 w (fun x2 w => ?_)
  refine lv_if_ne (tgt := 18) C.1.1 C.1.2.1 dX11_undo_7 (by decide) (fun c9 => ?_) (fun c9 => ?_)
  · replace w := ql_ifn w c9
    refine ql_aload_n (r := (some a0)) C dX11_undo_18 rfl (lv_at hl 0 rfl) ?_
    refine ql_getR C S qf_12_3 gw_351 dX11_undo_19 w (fun r3 w => ?_)
    refine ql_aload_n (r := (some a0)) C dX11_undo_22 rfl (lv_at hl 0 rfl) ?_
    refine ql_getR C S qf_12_0 gw_348 dX11_undo_23 w (fun r4 w => ?_)
    refine ql_VV (As := [va_rf r4]) (rest := []) C S htab hlocks hl qy_X6_stepBack qi_X6_stepBack qs_X6_stepBack gw_1647 (ci := 9) rfl w (fun b w => qm_X6_stepBack l hl9 D _ b r4 _ _ w) rfl ⟨Nat.le_of_ble_eq_true rfl, Nat.le_of_ble_eq_true rfl⟩ ⟨rfl, rfl⟩ (by exact Nat.le_of_ble_eq_true rfl) (fun b e9 => by cases e9; rfl) dX11_undo_26 ⟨Nat.le_of_ble_eq_true rfl, Nat.le_of_ble_eq_true rfl⟩ ⟨Nat.le_of_ble_eq_true rfl, Nat.le_of_ble_eq_true rfl⟩ (fun h H locs S w => ?_)
    refine W.cs (cells' := 0) (slots' := 0) rfl rfl ?_
    refine ql_aload_n (r := (some a0)) C dX11_undo_29 rfl (lv_at hl 0 rfl) ?_
    refine ql_getR C S qf_12_3 gw_351 dX11_undo_30 w (fun r6 w => ?_)
    refine ql_getIN C S qf_9_3 (qn_RX11_360) dX11_undo_33 w (fun x7 w => ?_)
    exact ql_iret C S hr hlocks dX11_undo_36 ⟨Nat.le_of_ble_eq_true rfl, Nat.le_of_ble_eq_true rfl⟩ w
  · replace w := ql_if w c9
    exact ql_throw trivial C S qx_RX11_123 gw_488 gw_92 hl htab hlocks hl9 dX11_undo_10 dX11_undo_13 dX11_undo_14 dX11_undo_17 ⟨Nat.le_of_ble_eq_true rfl, Nat.le_of_ble_eq_true rfl, Nat.le_of_ble_eq_true rfl⟩ (by exact Nat.le_of_ble_eq_true rfl) ⟨Nat.le_of_ble_eq_true rfl, Nat.le_of_ble_eq_true rfl⟩ w
def qw_X11_save (a0 : Nat) (h : ql_H) (Q : Int32 → ql_H → Prop) : Prop :=
ql_gR h (some a0) 12 1 fun r1 =>
ql_gR h (some a0) 12 0 fun r2 =>
ql_rv h r1 4 fun b2 => qw_X1_copyFrom b2 r2 h (fun h =>
ql_pV h (some a0) 12 2 (.int (1 : Int32)) fun h =>
ql_gR h (some a0) 12 0 fun r4 =>
ql_rv h r4 4 fun b5 => qw_X1_countClauses b5  h (fun x5 h =>
Q x5 h))
set_option maxHeartbeats 4000000 in
set_option maxRecDepth 100000 in
theorem qm_X11_save (l : Launch) (hl9 : l.stackTraces = false) (D : ql_D) (h0 : ql_H) (a0 : Nat) (Q : Int32 → ql_H → Prop) (X : String → ql_H → Prop) (w : qw_X11_save a0 h0 Q) : ql_M D l yX11_save cX11_save 1 (some .int) ({ frames := 7, cells := 0, slots := 0, locals := 127 } : Room) h0 [.ref a0] (ql_rI Q) X 0 0 := by
  refine ql_ofW (by decide) (Nat.le_of_ble_eq_true rfl) ?_
  intro p e s m below meth c ls C hr hlocks hnm htab S hl
  have hl : lv_has ls 1 [(0, .ref a0)] := hl
  unfold qw_X11_save at w
  refine ql_aload_n (r := (some a0)) C dX11_save_0 rfl (lv_at hl 0 rfl) ?_
  refine ql_getR C S qf_12_1 gw_349 dX11_save_1 w (fun r1 w => ?_)
  refine ql_aload_n (r := (some a0)) C dX11_save_4 rfl (lv_at hl 0 rfl) ?_
  refine ql_getR C S qf_12_0 gw_348 dX11_save_5 w (fun r2 w => ?_)
  refine ql_VV (As := [va_rf r2]) (rest := []) C S htab hlocks hl qy_X1_copyFrom qi_X1_copyFrom qs_X1_copyFrom gw_768 (ci := 4) rfl w (fun b w => qm_X1_copyFrom l hl9 D _ b r2 _ _ w) rfl ⟨Nat.le_of_ble_eq_true rfl, Nat.le_of_ble_eq_true rfl⟩ ⟨rfl, rfl⟩ (by exact Nat.le_of_ble_eq_true rfl) (fun b e9 => by cases e9; rfl) dX11_save_8 ⟨Nat.le_of_ble_eq_true rfl, Nat.le_of_ble_eq_true rfl⟩ ⟨Nat.le_of_ble_eq_true rfl, Nat.le_of_ble_eq_true rfl⟩ (fun h H locs S w => ?_)
  refine W.cs (cells' := 0) (slots' := 0) rfl rfl ?_
  refine ql_aload_n (r := (some a0)) C dX11_save_11 rfl (lv_at hl 0 rfl) ?_
  refine lv_iconst (v := (1 : Int32)) C.1.1 C.1.2.1 dX11_save_12 (by decide) ?_
  refine ql_putV C S qf_12_2 gw_350 (tyX11) tyX11_ok nmX11 rfl dX11_save_13 (v := .int (1 : Int32)) rfl rfl w (fun h H locs S w => ?_)
  refine ql_aload_n (r := (some a0)) C dX11_save_16 rfl (lv_at hl 0 rfl) ?_
  refine ql_getR C S qf_12_0 gw_348 dX11_save_17 w (fun r4 w => ?_)
  refine ql_VI (As := []) (rest := []) C S htab hlocks hl qy_X1_countClauses qi_X1_countClauses qs_X1_countClauses gw_633 (ci := 4) rfl w (fun b w => qm_X1_countClauses l hl9 D _ b _ _ w) rfl ⟨Nat.le_of_ble_eq_true rfl, Nat.le_of_ble_eq_true rfl⟩ ⟨rfl, rfl⟩ (by exact Nat.le_of_ble_eq_true rfl) (fun b e9 => by cases e9; rfl) dX11_save_20 ⟨Nat.le_of_ble_eq_true rfl, Nat.le_of_ble_eq_true rfl⟩ ⟨Nat.le_of_ble_eq_true rfl, Nat.le_of_ble_eq_true rfl⟩ (fun x5 h H locs S w => ?_)
  refine W.cs (cells' := 0) (slots' := 0) rfl rfl ?_
  exact ql_iret C S hr hlocks dX11_save_23 ⟨Nat.le_of_ble_eq_true rfl, Nat.le_of_ble_eq_true rfl⟩ w
def qw_X11_restore (a0 : Nat) (h : ql_H) (Q : Int32 → ql_H → Prop) (X : String → ql_H → Prop) : Prop :=
ql_gI h (some a0) 12 2 fun x1 =>
if x1 = 0 then (∀ n9 : Nat, h.1 ≤ n9 → X "java/lang/IllegalStateException" (n9, h.2)) else (ql_gR h (some a0) 12 0 fun r2 =>
ql_gR h (some a0) 12 1 fun r3 =>
ql_rv h r2 4 fun b3 => qw_X1_copyFrom b3 r3 h (fun h =>
ql_gR h (some a0) 12 3 fun r5 =>
ql_rv h r5 9 fun b5 => qw_X6_clear b5  h (fun h =>
ql_gR h (some a0) 12 0 fun r7 =>
ql_rv h r7 4 fun b8 => qw_X1_countClauses b8  h (fun x8 h =>
Q x8 h))))
set_option maxHeartbeats 4000000 in
set_option maxRecDepth 100000 in
theorem qm_X11_restore (l : Launch) (hl9 : l.stackTraces = false) (D : ql_D) (h0 : ql_H) (a0 : Nat) (Q : Int32 → ql_H → Prop) (X : String → ql_H → Prop) (w : qw_X11_restore a0 h0 Q X) : ql_M D l yX11_restore cX11_restore 1 (some .int) ({ frames := 8, cells := 1, slots := 6, locals := 127 } : Room) h0 [.ref a0] (ql_rI Q) X 1 6 := by
  refine ql_ofW (by decide) (Nat.le_of_ble_eq_true rfl) ?_
  intro p e s m below meth c ls C hr hlocks hnm htab S hl
  have hl : lv_has ls 1 [(0, .ref a0)] := hl
  unfold qw_X11_restore at w
  refine ql_aload_n (r := (some a0)) C dX11_restore_0 rfl (lv_at hl 0 rfl) ?_
  refine ql_getI C S qf_12_2 gw_350 dX11_restore_1 w (fun x1 w => ?_)
  refine lv_if_ne (tgt := 15) C.1.1 C.1.2.1 dX11_restore_4 (by decide) (fun c9 => ?_) (fun c9 => ?_)
  · replace w := ql_ifn w c9
    refine ql_aload_n (r := (some a0)) C dX11_restore_15 rfl (lv_at hl 0 rfl) ?_
    refine ql_getR C S qf_12_0 gw_348 dX11_restore_16 w (fun r2 w => ?_)
    refine ql_aload_n (r := (some a0)) C dX11_restore_19 rfl (lv_at hl 0 rfl) ?_
    refine ql_getR C S qf_12_1 gw_349 dX11_restore_20 w (fun r3 w => ?_)
    refine ql_VV (As := [va_rf r3]) (rest := []) C S htab hlocks hl qy_X1_copyFrom qi_X1_copyFrom qs_X1_copyFrom gw_768 (ci := 4) rfl w (fun b w => qm_X1_copyFrom l hl9 D _ b r3 _ _ w) rfl ⟨Nat.le_of_ble_eq_true rfl, Nat.le_of_ble_eq_true rfl⟩ ⟨rfl, rfl⟩ (by exact Nat.le_of_ble_eq_true rfl) (fun b e9 => by cases e9; rfl) dX11_restore_23 ⟨Nat.le_of_ble_eq_true rfl, Nat.le_of_ble_eq_true rfl⟩ ⟨Nat.le_of_ble_eq_true rfl, Nat.le_of_ble_eq_true rfl⟩ (fun h H locs S w => ?_)
    refine W.cs (cells' := 0) (slots' := 0) rfl rfl ?_
    refine ql_aload_n (r := (some a0)) C dX11_restore_26 rfl (lv_at hl 0 rfl) ?_
    refine ql_getR C S qf_12_3 gw_351 dX11_restore_27 w (fun r5 w => ?_)
    refine ql_VV (As := []) (rest := []) C S htab hlocks hl qy_X6_clear qi_X6_clear qs_X6_clear gw_1658 (ci := 9) rfl w (fun b w => qm_X6_clear l hl9 D _ b _ _ w) rfl ⟨Nat.le_of_ble_eq_true rfl, Nat.le_of_ble_eq_true rfl⟩ ⟨rfl, rfl⟩ (by exact Nat.le_of_ble_eq_true rfl) (fun b e9 => by cases e9; rfl) dX11_restore_30 ⟨Nat.le_of_ble_eq_true rfl, Nat.le_of_ble_eq_true rfl⟩ ⟨Nat.le_of_ble_eq_true rfl, Nat.le_of_ble_eq_true rfl⟩ (fun h H locs S w => ?_)
    refine W.cs (cells' := 0) (slots' := 0) rfl rfl ?_
    refine ql_aload_n (r := (some a0)) C dX11_restore_33 rfl (lv_at hl 0 rfl) ?_
    refine ql_getR C S qf_12_0 gw_348 dX11_restore_34 w (fun r7 w => ?_)
    refine ql_VI (As := []) (rest := []) C S htab hlocks hl qy_X1_countClauses qi_X1_countClauses qs_X1_countClauses gw_633 (ci := 4) rfl w (fun b w => qm_X1_countClauses l hl9 D _ b _ _ w) rfl ⟨Nat.le_of_ble_eq_true rfl, Nat.le_of_ble_eq_true rfl⟩ ⟨rfl, rfl⟩ (by exact Nat.le_of_ble_eq_true rfl) (fun b e9 => by cases e9; rfl) dX11_restore_37 ⟨Nat.le_of_ble_eq_true rfl, Nat.le_of_ble_eq_true rfl⟩ ⟨Nat.le_of_ble_eq_true rfl, Nat.le_of_ble_eq_true rfl⟩ (fun x8 h H locs S w => ?_)
    refine W.cs (cells' := 0) (slots' := 0) rfl rfl ?_
    exact ql_iret C S hr hlocks dX11_restore_40 ⟨Nat.le_of_ble_eq_true rfl, Nat.le_of_ble_eq_true rfl⟩ w
  · replace w := ql_if w c9
    exact ql_throw trivial C S qx_RX11_132 gw_587 gw_95 hl htab hlocks hl9 dX11_restore_7 dX11_restore_10 dX11_restore_11 dX11_restore_14 ⟨Nat.le_of_ble_eq_true rfl, Nat.le_of_ble_eq_true rfl, Nat.le_of_ble_eq_true rfl⟩ (by exact Nat.le_of_ble_eq_true rfl) ⟨Nat.le_of_ble_eq_true rfl, Nat.le_of_ble_eq_true rfl⟩ w
def qw_X12_init (a0 : Nat) (h : ql_H) (Q : ql_H → Prop) : Prop :=
ql_nw h (.inl (0, 685, .inl (fun _ => 0))) fun r1 h =>
ql_pV h (some a0) 13 0 (va_rf r1) fun h =>
ql_nw h (.inl (0, 5480, .inl (fun _ => 0))) fun r2 h =>
ql_pV h (some a0) 13 1 (va_rf r2) fun h =>
ql_nw h (.inl (0, 685, .inl (fun _ => 0))) fun r3 h =>
ql_pV h (some a0) 13 2 (va_rf r3) fun h =>
ql_nw h (.inl (0, 685, .inl (fun _ => 0))) fun r4 h =>
ql_pV h (some a0) 13 3 (va_rf r4) fun h =>
ql_nw h (.inl (0, 60, .inl (fun _ => 0))) fun r5 h =>
ql_pV h (some a0) 13 8 (va_rf r5) fun h =>
ql_pV h (some a0) 13 10 (.int (-1 : Int32)) fun h =>
ql_pV h (some a0) 13 11 (.int (-1 : Int32)) fun h =>
ql_nw h (.inl (2, 40, .inl (fun _ => 0))) fun r6 h =>
ql_pV h (some a0) 13 12 (va_rf r6) fun h =>
ql_nw h (.inl (0, 16, .inl (fun _ => 0))) fun r7 h =>
ql_pV h (some a0) 13 14 (va_rf r7) fun h =>
ql_nw h (.inl (0, 13, .inl (fun _ => 0))) fun r8 h =>
ql_pV h (some a0) 13 15 (va_rf r8) fun h =>
ql_nw h (.inl (0, 124, .inl (fun _ => 0))) fun r9 h =>
ql_pV h (some a0) 13 17 (va_rf r9) fun h =>
Q h
set_option maxHeartbeats 4000000 in
set_option maxRecDepth 100000 in
theorem qm_X12_init (l : Launch) (hl9 : l.stackTraces = false) (D : ql_D) (h0 : ql_H) (a0 : Nat) (Q : ql_H → Prop) (X : String → ql_H → Prop) (w : qw_X12_init a0 h0 Q) : ql_M D l yX12_init cX12_init 1 none ({ frames := 3, cells := 9, slots := 7788, locals := 48 } : Room) h0 [.ref a0] (ql_rV Q) X 9 7788 := by
  refine ql_ofW (by decide) (Nat.le_of_ble_eq_true rfl) ?_
  intro p e s m below meth c ls C hr hlocks hnm htab S hl
  have hl : lv_has ls 1 [(0, .ref a0)] := hl
  unfold qw_X12_init at w
  refine ql_aload_n (r := (some a0)) C dX12_init_0 rfl (lv_at hl 0 rfl) ?_
  refine ql_objInit C hl gw_1667 gw_114 gw_115 dX12_init_1 (Nat.le_of_ble_eq_true rfl) (by exact Nat.le_of_ble_eq_true rfl) ?_
  refine ql_aload_n (r := (some a0)) C dX12_init_4 rfl (lv_at hl 0 rfl) ?_
  refine lv_sipush (v := (685 : Int32)) C.1.1 C.1.2.1 dX12_init_5 (by decide) ?_
  refine ql_newa (kd := 0) (a0 := (685, .inl (fun _ => 0))) (atype := .int) C S gw_164 rfl (fun z => z) (fun cA => rfl) (by decide) (by decide) (by decide) ⟨Nat.le_of_ble_eq_true rfl, Nat.le_of_ble_eq_true rfl⟩ dX12_init_8 w (fun r1 h H S w => ?_)
  refine W.cs (cells' := 1) (slots' := 685) rfl rfl ?_
  refine ql_putVF C S qf_13_0 gw_1668 (tyX12) tyX12_ok nmX12 rfl hnm rfl dX12_init_10 (v := va_rf r1) (by cases r1 <;> rfl) (by cases r1 <;> rfl) w (fun h H locs S w => ?_)
  refine ql_aload_n (r := (some a0)) C dX12_init_13 rfl (lv_at hl 0 rfl) ?_
  refine lv_sipush (v := (5480 : Int32)) C.1.1 C.1.2.1 dX12_init_14 (by decide) ?_
  refine ql_newa (kd := 0) (a0 := (5480, .inl (fun _ => 0))) (atype := .int) C S gw_164 rfl (fun z => z) (fun cA => rfl) (by decide) (by decide) (by decide) ⟨Nat.le_of_ble_eq_true rfl, Nat.le_of_ble_eq_true rfl⟩ dX12_init_17 w (fun r2 h H S w => ?_)
  refine W.cs (cells' := 2) (slots' := 6165) rfl rfl ?_
  refine ql_putVF C S qf_13_1 gw_1669 (tyX12) tyX12_ok nmX12 rfl hnm rfl dX12_init_19 (v := va_rf r2) (by cases r2 <;> rfl) (by cases r2 <;> rfl) w (fun h H locs S w => ?_)
  refine ql_aload_n (r := (some a0)) C dX12_init_22 rfl (lv_at hl 0 rfl) ?_
  refine lv_sipush (v := (685 : Int32)) C.1.1 C.1.2.1 dX12_init_23 (by decide) ?_
  refine ql_newa (kd := 0) (a0 := (685, .inl (fun _ => 0))) (atype := .int) C S gw_164 rfl (fun z => z) (fun cA => rfl) (by decide) (by decide) (by decide) ⟨Nat.le_of_ble_eq_true rfl, Nat.le_of_ble_eq_true rfl⟩ dX12_init_26 w (fun r3 h H S w => ?_)
  refine W.cs (cells' := 3) (slots' := 6850) rfl rfl ?_
  refine ql_putVF C S qf_13_2 gw_1670 (tyX12) tyX12_ok nmX12 rfl hnm rfl dX12_init_28 (v := va_rf r3) (by cases r3 <;> rfl) (by cases r3 <;> rfl) w (fun h H locs S w => ?_)
  refine ql_aload_n (r := (some a0)) C dX12_init_31 rfl (lv_at hl 0 rfl) ?_
  refine lv_sipush (v := (685 : Int32)) C.1.1 C.1.2.1 dX12_init_32 (by decide) ?_
  refine ql_newa (kd := 0) (a0 := (685, .inl (fun _ => 0))) (atype := .int) C S gw_164 rfl (fun z => z) (fun cA => rfl) (by decide) (by decide) (by decide) ⟨Nat.le_of_ble_eq_true rfl, Nat.le_of_ble_eq_true rfl⟩ dX12_init_35 w (fun r4 h H S w => ?_)
  refine W.cs (cells' := 4) (slots' := 7535) rfl rfl ?_
  refine ql_putVF C S qf_13_3 gw_1671 (tyX12) tyX12_ok nmX12 rfl hnm rfl dX12_init_37 (v := va_rf r4) (by cases r4 <;> rfl) (by cases r4 <;> rfl) w (fun h H locs S w => ?_)
  refine ql_aload_n (r := (some a0)) C dX12_init_40 rfl (lv_at hl 0 rfl) ?_
  refine lv_bipush (v := (60 : Int32)) C.1.1 C.1.2.1 dX12_init_41 (by decide) ?_
  refine ql_newa (kd := 0) (a0 := (60, .inl (fun _ => 0))) (atype := .int) C S gw_164 rfl (fun z => z) (fun cA => rfl) (by decide) (by decide) (by decide) ⟨Nat.le_of_ble_eq_true rfl, Nat.le_of_ble_eq_true rfl⟩ dX12_init_43 w (fun r5 h H S w => ?_)
  refine W.cs (cells' := 5) (slots' := 7595) rfl rfl ?_
  refine ql_putVF C S qf_13_8 gw_1676 (tyX12) tyX12_ok nmX12 rfl hnm rfl dX12_init_45 (v := va_rf r5) (by cases r5 <;> rfl) (by cases r5 <;> rfl) w (fun h H locs S w => ?_)
  refine ql_aload_n (r := (some a0)) C dX12_init_48 rfl (lv_at hl 0 rfl) ?_
  refine lv_iconst (v := (-1 : Int32)) C.1.1 C.1.2.1 dX12_init_49 (by decide) ?_
  refine ql_putV C S qf_13_10 gw_1678 (tyX12) tyX12_ok nmX12 rfl dX12_init_50 (v := .int (-1 : Int32)) rfl rfl w (fun h H locs S w => ?_)
  refine ql_aload_n (r := (some a0)) C dX12_init_53 rfl (lv_at hl 0 rfl) ?_
  refine lv_iconst (v := (-1 : Int32)) C.1.1 C.1.2.1 dX12_init_54 (by decide) ?_
  refine ql_putV C S qf_13_11 gw_1679 (tyX12) tyX12_ok nmX12 rfl dX12_init_55 (v := .int (-1 : Int32)) rfl rfl w (fun h H locs S w => ?_)
  refine ql_aload_n (r := (some a0)) C dX12_init_58 rfl (lv_at hl 0 rfl) ?_
  refine lv_bipush (v := (40 : Int32)) C.1.1 C.1.2.1 dX12_init_59 (by decide) ?_
  refine ql_newa (kd := 2) (a0 := (40, .inl (fun _ => 0))) (atype := .char) C S gw_1726 rfl (fun z => z) (fun cA => rfl) (by decide) (by decide) (by decide) ⟨Nat.le_of_ble_eq_true rfl, Nat.le_of_ble_eq_true rfl⟩ dX12_init_61 w (fun r6 h H S w => ?_)
  refine W.cs (cells' := 6) (slots' := 7635) rfl rfl ?_
  refine ql_putVF C S qf_13_12 gw_1680 (tyX12) tyX12_ok nmX12 rfl hnm rfl dX12_init_63 (v := va_rf r6) (by cases r6 <;> rfl) (by cases r6 <;> rfl) w (fun h H locs S w => ?_)
  refine ql_aload_n (r := (some a0)) C dX12_init_66 rfl (lv_at hl 0 rfl) ?_
  refine lv_bipush (v := (16 : Int32)) C.1.1 C.1.2.1 dX12_init_67 (by decide) ?_
  refine ql_newa (kd := 0) (a0 := (16, .inl (fun _ => 0))) (atype := .int) C S gw_164 rfl (fun z => z) (fun cA => rfl) (by decide) (by decide) (by decide) ⟨Nat.le_of_ble_eq_true rfl, Nat.le_of_ble_eq_true rfl⟩ dX12_init_69 w (fun r7 h H S w => ?_)
  refine W.cs (cells' := 7) (slots' := 7651) rfl rfl ?_
  refine ql_putVF C S qf_13_14 gw_1682 (tyX12) tyX12_ok nmX12 rfl hnm rfl dX12_init_71 (v := va_rf r7) (by cases r7 <;> rfl) (by cases r7 <;> rfl) w (fun h H locs S w => ?_)
  refine ql_aload_n (r := (some a0)) C dX12_init_74 rfl (lv_at hl 0 rfl) ?_
  refine lv_bipush (v := (13 : Int32)) C.1.1 C.1.2.1 dX12_init_75 (by decide) ?_
  refine ql_newa (kd := 0) (a0 := (13, .inl (fun _ => 0))) (atype := .int) C S gw_164 rfl (fun z => z) (fun cA => rfl) (by decide) (by decide) (by decide) ⟨Nat.le_of_ble_eq_true rfl, Nat.le_of_ble_eq_true rfl⟩ dX12_init_77 w (fun r8 h H S w => ?_)
  refine W.cs (cells' := 8) (slots' := 7664) rfl rfl ?_
  refine ql_putVF C S qf_13_15 gw_1683 (tyX12) tyX12_ok nmX12 rfl hnm rfl dX12_init_79 (v := va_rf r8) (by cases r8 <;> rfl) (by cases r8 <;> rfl) w (fun h H locs S w => ?_)
  refine ql_aload_n (r := (some a0)) C dX12_init_82 rfl (lv_at hl 0 rfl) ?_
  refine lv_bipush (v := (124 : Int32)) C.1.1 C.1.2.1 dX12_init_83 (by decide) ?_
  refine ql_newa (kd := 0) (a0 := (124, .inl (fun _ => 0))) (atype := .int) C S gw_164 rfl (fun z => z) (fun cA => rfl) (by decide) (by decide) (by decide) ⟨Nat.le_of_ble_eq_true rfl, Nat.le_of_ble_eq_true rfl⟩ dX12_init_85 w (fun r9 h H S w => ?_)
  refine W.cs (cells' := 9) (slots' := 7788) rfl rfl ?_
  refine ql_putVF C S qf_13_17 gw_1685 (tyX12) tyX12_ok nmX12 rfl hnm rfl dX12_init_87 (v := va_rf r9) (by cases r9 <;> rfl) (by cases r9 <;> rfl) w (fun h H locs S w => ?_)
  exact ql_vret C S hr hlocks dX12_init_90 ⟨Nat.le_of_ble_eq_true rfl, Nat.le_of_ble_eq_true rfl⟩ w
def qw_X12_thrown (a0 : Nat) (h : ql_H) (Q : Int32 → ql_H → Prop) : Prop :=
ql_gI h (some a0) 13 7 fun x1 =>
Q x1 h
set_option maxHeartbeats 4000000 in
set_option maxRecDepth 100000 in
theorem qm_X12_thrown (l : Launch) (hl9 : l.stackTraces = false) (D : ql_D) (h0 : ql_H) (a0 : Nat) (Q : Int32 → ql_H → Prop) (X : String → ql_H → Prop) (w : qw_X12_thrown a0 h0 Q) : ql_M D l yX12_thrown cX12_thrown 1 (some .int) ({ frames := 2, cells := 0, slots := 0, locals := 48 } : Room) h0 [.ref a0] (ql_rI Q) X 0 0 := by
  refine ql_ofW (by decide) (Nat.le_of_ble_eq_true rfl) ?_
  intro p e s m below meth c ls C hr hlocks hnm htab S hl
  have hl : lv_has ls 1 [(0, .ref a0)] := hl
  unfold qw_X12_thrown at w
  refine ql_aload_n (r := (some a0)) C dX12_thrown_0 rfl (lv_at hl 0 rfl) ?_
  refine ql_getI C S qf_13_7 gw_1675 dX12_thrown_1 w (fun x1 w => ?_)
  exact ql_iret C S hr hlocks dX12_thrown_4 ⟨Nat.le_of_ble_eq_true rfl, Nat.le_of_ble_eq_true rfl⟩ w
def qw_X12_fails (a0 : Nat) (xp1 : Int32) (h : ql_H) (Q : Int32 → ql_H → Prop) : Prop :=
ql_pV h (some a0) 13 7 (.int xp1) fun h =>
if xp1 ≤ 0 then (ql_nz .boolean (0 : Int32) ∧ Q (0 : Int32) h) else (ql_nz .boolean (1 : Int32) ∧ Q (1 : Int32) h)
set_option maxHeartbeats 4000000 in
set_option maxRecDepth 100000 in
theorem qm_X12_fails (l : Launch) (hl9 : l.stackTraces = false) (D : ql_D) (h0 : ql_H) (a0 : Nat) (xp1 : Int32) (Q : Int32 → ql_H → Prop) (X : String → ql_H → Prop) (w : qw_X12_fails a0 xp1 h0 Q) : ql_M D l yX12_fails cX12_fails 2 (some .boolean) ({ frames := 2, cells := 0, slots := 0, locals := 48 } : Room) h0 [.ref a0, .int xp1] (ql_rI Q) X 0 0 := by
  refine ql_ofW (by decide) (Nat.le_of_ble_eq_true rfl) ?_
  intro p e s m below meth c ls C hr hlocks hnm htab S hl
  have hl : lv_has ls 2 [(0, .ref a0), (1, .int xp1)] := hl
  unfold qw_X12_fails at w
  refine ql_aload_n (r := (some a0)) C dX12_fails_0 rfl (lv_at hl 0 rfl) ?_
  refine lv_iload_n C.1.1 C.1.2.1 dX12_fails_1 rfl (lv_at hl 1 rfl) ?_
  refine ql_putV C S qf_13_7 gw_1675 (tyX12) tyX12_ok nmX12 rfl dX12_fails_2 (v := .int xp1) rfl rfl w (fun h H locs S w => ?_)
  refine lv_iload_n C.1.1 C.1.2.1 dX12_fails_5 rfl (lv_at hl 1 rfl) ?_
  refine lv_if_le (tgt := 13) C.1.1 C.1.2.1 dX12_fails_6 (by decide) (fun c9 => ?_) (fun c9 => ?_)
  · replace w := ql_if w c9
    refine lv_iconst (v := (0 : Int32)) C.1.1 C.1.2.1 dX12_fails_13 (by decide) ?_
    exact ql_zret C S hr hlocks dX12_fails_14 ⟨Nat.le_of_ble_eq_true rfl, Nat.le_of_ble_eq_true rfl⟩ w
  · replace w := ql_ifn w c9
    refine lv_iconst (v := (1 : Int32)) C.1.1 C.1.2.1 dX12_fails_9 (by decide) ?_
    refine lv_goto (tgt := 14) C.1.1 C.1.2.1 dX12_fails_10 (by decide) ?_
    exact ql_zret C S hr hlocks dX12_fails_14 ⟨Nat.le_of_ble_eq_true rfl, Nat.le_of_ble_eq_true rfl⟩ w
def qw_X12_in (xp0 : Int32) (xp1 : Int32) (xp2 : Int32) (h : ql_H) (Q : Int32 → ql_H → Prop) : Prop :=
if xp0 < xp1 then (ql_nz .boolean (0 : Int32) ∧ Q (0 : Int32) h) else (if xp2 < xp0 then (ql_nz .boolean (0 : Int32) ∧ Q (0 : Int32) h) else (ql_nz .boolean (1 : Int32) ∧ Q (1 : Int32) h))
set_option maxHeartbeats 4000000 in
set_option maxRecDepth 100000 in
theorem qm_X12_in (l : Launch) (hl9 : l.stackTraces = false) (D : ql_D) (h0 : ql_H) (xp0 : Int32) (xp1 : Int32) (xp2 : Int32) (Q : Int32 → ql_H → Prop) (X : String → ql_H → Prop) (w : qw_X12_in xp0 xp1 xp2 h0 Q) : ql_M D l yX12_in cX12_in 3 (some .boolean) ({ frames := 2, cells := 0, slots := 0, locals := 48 } : Room) h0 [.int xp0, .int xp1, .int xp2] (ql_rI Q) X 0 0 := by
  refine ql_ofW (by decide) (Nat.le_of_ble_eq_true rfl) ?_
  intro p e s m below meth c ls C hr hlocks hnm htab S hl
  have hl : lv_has ls 3 [(0, .int xp0), (1, .int xp1), (2, .int xp2)] := hl
  unfold qw_X12_in at w
  refine lv_iload_n C.1.1 C.1.2.1 dX12_in_0 rfl (lv_at hl 0 rfl) ?_
  refine lv_iload_n C.1.1 C.1.2.1 dX12_in_1 rfl (lv_at hl 1 rfl) ?_
  refine lv_icmp_lt (tgt := 14) C.1.1 C.1.2.1 dX12_in_2 (by decide) (fun c9 => ?_) (fun c9 => ?_)
  · replace w := ql_if w c9
    refine lv_iconst (v := (0 : Int32)) C.1.1 C.1.2.1 dX12_in_14 (by decide) ?_
    exact ql_zret C S hr hlocks dX12_in_15 ⟨Nat.le_of_ble_eq_true rfl, Nat.le_of_ble_eq_true rfl⟩ w
  · replace w := ql_ifn w c9
    refine lv_iload_n C.1.1 C.1.2.1 dX12_in_5 rfl (lv_at hl 0 rfl) ?_
    refine lv_iload_n C.1.1 C.1.2.1 dX12_in_6 rfl (lv_at hl 2 rfl) ?_
    refine lv_icmp_gt (tgt := 14) C.1.1 C.1.2.1 dX12_in_7 (by decide) (fun c9 => ?_) (fun c9 => ?_)
    · replace w := ql_if w c9
      refine lv_iconst (v := (0 : Int32)) C.1.1 C.1.2.1 dX12_in_14 (by decide) ?_
      exact ql_zret C S hr hlocks dX12_in_15 ⟨Nat.le_of_ble_eq_true rfl, Nat.le_of_ble_eq_true rfl⟩ w
    · replace w := ql_ifn w c9
      refine lv_iconst (v := (1 : Int32)) C.1.1 C.1.2.1 dX12_in_10 (by decide) ?_
      refine lv_goto (tgt := 15) C.1.1 C.1.2.1 dX12_in_11 (by decide) ?_
      exact ql_zret C S hr hlocks dX12_in_15 ⟨Nat.le_of_ble_eq_true rfl, Nat.le_of_ble_eq_true rfl⟩ w
def qw_X12_most (xp0 : Int32) (xp1 : Int32) (h : ql_H) (Q : Int32 → ql_H → Prop) : Prop :=
if xp0 ≤ xp1 then (Q xp1 h) else (Q xp0 h)
set_option maxHeartbeats 4000000 in
set_option maxRecDepth 100000 in
theorem qm_X12_most (l : Launch) (hl9 : l.stackTraces = false) (D : ql_D) (h0 : ql_H) (xp0 : Int32) (xp1 : Int32) (Q : Int32 → ql_H → Prop) (X : String → ql_H → Prop) (w : qw_X12_most xp0 xp1 h0 Q) : ql_M D l yX12_most cX12_most 2 (some .int) ({ frames := 2, cells := 0, slots := 0, locals := 48 } : Room) h0 [.int xp0, .int xp1] (ql_rI Q) X 0 0 := by
  refine ql_ofW (by decide) (Nat.le_of_ble_eq_true rfl) ?_
  intro p e s m below meth c ls C hr hlocks hnm htab S hl
  have hl : lv_has ls 2 [(0, .int xp0), (1, .int xp1)] := hl
  unfold qw_X12_most at w
  refine lv_iload_n C.1.1 C.1.2.1 dX12_most_0 rfl (lv_at hl 0 rfl) ?_
  refine lv_iload_n C.1.1 C.1.2.1 dX12_most_1 rfl (lv_at hl 1 rfl) ?_
  refine lv_icmp_le (tgt := 9) C.1.1 C.1.2.1 dX12_most_2 (by decide) (fun c9 => ?_) (fun c9 => ?_)
  · replace w := ql_if w c9
    refine lv_iload_n C.1.1 C.1.2.1 dX12_most_9 rfl (lv_at hl 1 rfl) ?_
    exact ql_iret C S hr hlocks dX12_most_10 ⟨Nat.le_of_ble_eq_true rfl, Nat.le_of_ble_eq_true rfl⟩ w
  · replace w := ql_ifn w c9
    refine lv_iload_n C.1.1 C.1.2.1 dX12_most_5 rfl (lv_at hl 0 rfl) ?_
    refine lv_goto (tgt := 10) C.1.1 C.1.2.1 dX12_most_6 (by decide) ?_
    exact ql_iret C S hr hlocks dX12_most_10 ⟨Nat.le_of_ble_eq_true rfl, Nat.le_of_ble_eq_true rfl⟩ w
def qw_X12_copies_3 (Q : ql_H → Prop) : Nat → Option Nat → Int32 → Option Nat → Int32 → Int32 → ql_H → Prop
  | 0, _, _, _, _, _, _ => False
  | n + 1, rl0, xl1, rl2, xl3, xl4, h =>
    if (685 : Int32) ≤ xl4 then (Q h) else (ql_lI h rl0 0 (xl1 + xl4) fun x1 =>
    ql_sI h rl2 0 (xl3 + xl4) x1 fun h =>
    qw_X12_copies_3 Q n rl0 xl1 rl2 xl3 (xl4 + (1 : Int32)) h)
def qw_X12_copies (rp0 : Option Nat) (xp1 : Int32) (rp2 : Option Nat) (xp3 : Int32) (h : ql_H) (Q : ql_H → Prop) : Prop :=
qw_X12_copies_3 Q ql_FU rp0 xp1 rp2 xp3 (0 : Int32) h
set_option maxHeartbeats 4000000 in
set_option maxRecDepth 100000 in
theorem qm_X12_copies (l : Launch) (hl9 : l.stackTraces = false) (D : ql_D) (h0 : ql_H) (rp0 : Option Nat) (xp1 : Int32) (rp2 : Option Nat) (xp3 : Int32) (Q : ql_H → Prop) (X : String → ql_H → Prop) (w : qw_X12_copies rp0 xp1 rp2 xp3 h0 Q) : ql_M D l yX12_copies cX12_copies 5 none ({ frames := 2, cells := 0, slots := 0, locals := 48 } : Room) h0 [va_rf rp0, .int xp1, va_rf rp2, .int xp3] (ql_rV Q) X 0 0 := by
  refine ql_ofW (by decide) (by cases rp0 <;> cases rp2 <;> exact Nat.le_of_ble_eq_true rfl) ?_
  intro p e s m below meth c ls C hr hlocks hnm htab S hl
  rw [show lv_args 0 [va_rf rp0, .int xp1, va_rf rp2, .int xp3] = [(0, va_rf rp0), (1, .int xp1), (2, va_rf rp2), (3, .int xp3)] from by cases rp0 <;> cases rp2 <;> rfl] at hl
  have hB3 : ∀ n : Nat, ∀ (rl0 : Option Nat) (xl1 : Int32) (rl2 : Option Nat) (xl3 : Int32) (xl4 : Int32) (h : ql_H) (H : Heap) (locs : List Loc) (ls : Array Slot), ql_S D h0 s H locs h → lv_has ls 5 [(0, va_rf rl0), (1, .int xl1), (2, va_rf rl2), (3, .int xl3), (4, .int xl4)] → qw_X12_copies_3 Q n rl0 xl1 rl2 xl3 xl4 h → W p l e ({ frames := 2, cells := 0, slots := 0, locals := 48 } : Room) s m ([va_rf rp0, .int xp1, va_rf rp2, .int xp3] : List Value).toArray below meth c H locs 0 0 (vx_MQ below (ql_Q D h0 (ql_rV Q)) (ql_X D h0 X) ([va_rf rp0, .int xp1, va_rf rp2, .int xp3] : List Value).toArray s 0 0 (ql_A h0)) (F0 m 3 ls []) := by
    intro n
    induction n with
    | zero => intro rl0 xl1 rl2 xl3 xl4 h H locs ls S hl w; rw [qw_X12_copies_3] at w; exact w.elim
    | succ n ih =>
      intro rl0 xl1 rl2 xl3 xl4 h H locs ls S hl w
      rw [qw_X12_copies_3] at w
      refine lv_iload C.1.1 C.1.2.1 dX12_copies_3 (lv_at hl 4 rfl) ?_
      refine lv_sipush (v := (685 : Int32)) C.1.1 C.1.2.1 dX12_copies_5 (by decide) ?_
      refine lv_icmp_ge (tgt := 29) C.1.1 C.1.2.1 dX12_copies_8 (by decide) (fun c9 => ?_) (fun c9 => ?_)
      · replace w := ql_if w c9
        exact ql_vret C S hr hlocks dX12_copies_29 ⟨Nat.le_of_ble_eq_true rfl, Nat.le_of_ble_eq_true rfl⟩ w
      · replace w := ql_ifn w c9
        refine ql_aload_n (r := rl2) C dX12_copies_11 rfl (lv_at hl 2 rfl) ?_
        refine lv_iload_n C.1.1 C.1.2.1 dX12_copies_12 rfl (lv_at hl 3 rfl) ?_
        refine lv_iload C.1.1 C.1.2.1 dX12_copies_13 (lv_at hl 4 rfl) ?_
        refine lv_iadd C.1.1 C.1.2.1 dX12_copies_15 ?_
        refine ql_aload_n (r := rl0) C dX12_copies_16 rfl (lv_at hl 0 rfl) ?_
        refine lv_iload_n C.1.1 C.1.2.1 dX12_copies_17 rfl (lv_at hl 1 rfl) ?_
        refine lv_iload C.1.1 C.1.2.1 dX12_copies_18 (lv_at hl 4 rfl) ?_
        refine lv_iadd C.1.1 C.1.2.1 dX12_copies_20 ?_
        refine ql_iald C S dX12_copies_21 w (fun x1 w => ?_)
        refine ql_iast C S dX12_copies_22 w (fun h H locs S w => ?_)
        refine lv_iinc (v := (xl4 + (1 : Int32))) (lv' := [(4, .int (xl4 + (1 : Int32))), (0, va_rf rl0), (1, .int xl1), (2, va_rf rl2), (3, .int xl3)]) C.1.1 C.1.2.1 dX12_copies_23 hl (k := 4) rfl rfl (by decide) rfl (fun ls hl => ?_)
        refine lv_goto (tgt := 3) C.1.1 C.1.2.1 dX12_copies_26 (by decide) ?_
        exact ih rl0 xl1 rl2 xl3 (xl4 + (1 : Int32)) _ _ _ _ S (lv_sub hl [1, 2, 3, 4, 0] rfl) w
  unfold qw_X12_copies at w
  refine lv_iconst (v := (0 : Int32)) C.1.1 C.1.2.1 dX12_copies_0 (by decide) ?_
  refine lv_istore (lv' := [(4, .int (0 : Int32)), (0, va_rf rp0), (1, .int xp1), (2, va_rf rp2), (3, .int xp3)]) C.1.1 C.1.2.1 dX12_copies_1 hl (by decide) rfl (fun ls hl => ?_)
  exact hB3 ql_FU rp0 xp1 rp2 xp3 (0 : Int32) _ _ _ _ S (lv_sub hl [1, 2, 3, 4, 0] rfl) w
def qw_X12_keeps_63 (a0 : Nat) (Q : ql_H → Prop) (rl1 : Option Nat) (h : ql_H) : Prop :=
ql_gR h (some a0) 13 1 fun r1 =>
ql_gI h (some a0) 13 5 fun x2 =>
qw_X12_copies rl1 (0 : Int32) r1 ((685 : Int32) * x2) h (fun h =>
ql_gI h (some a0) 13 5 fun x3 =>
ql_pV h (some a0) 13 5 (.int (x3 + (1 : Int32))) fun h =>
Q h)
def qw_X12_keeps_24 (a0 : Nat) (Q : ql_H → Prop) : Nat → Option Nat → Int32 → ql_H → Prop
  | 0, _, _, _ => False
  | n + 1, rl1, xl2, h =>
    if (4795 : Int32) ≤ xl2 then (ql_gI h (some a0) 13 5 fun x4 =>
    ql_pV h (some a0) 13 5 (.int (x4 - (1 : Int32))) fun h =>
    qw_X12_keeps_63 a0 Q rl1 h) else (ql_gR h (some a0) 13 1 fun r5 =>
    ql_gR h (some a0) 13 1 fun r6 =>
    ql_lI h r6 0 (xl2 + (685 : Int32)) fun x7 =>
    ql_sI h r5 0 xl2 x7 fun h =>
    qw_X12_keeps_24 a0 Q n rl1 (xl2 + (1 : Int32)) h)
def qw_X12_keeps (a0 : Nat) (rp1 : Option Nat) (h : ql_H) (Q : ql_H → Prop) : Prop :=
ql_pV h (some a0) 13 7 (.int (0 : Int32)) fun h =>
ql_gI h (some a0) 13 6 fun x8 =>
if x8 = 0 then (ql_gI h (some a0) 13 5 fun x9 =>
if x9 = (8 : Int32) then (qw_X12_keeps_24 a0 Q ql_FU rp1 (0 : Int32) h) else (qw_X12_keeps_63 a0 Q rp1 h)) else (Q h)
set_option maxHeartbeats 4000000 in
set_option maxRecDepth 100000 in
theorem qm_X12_keeps (l : Launch) (hl9 : l.stackTraces = false) (D : ql_D) (h0 : ql_H) (a0 : Nat) (rp1 : Option Nat) (Q : ql_H → Prop) (X : String → ql_H → Prop) (w : qw_X12_keeps a0 rp1 h0 Q) : ql_M D l yX12_keeps cX12_keeps 3 none ({ frames := 4, cells := 0, slots := 0, locals := 80 } : Room) h0 [.ref a0, va_rf rp1] (ql_rV Q) X 0 0 := by
  refine ql_ofW (by decide) (by cases rp1 <;> exact Nat.le_of_ble_eq_true rfl) ?_
  intro p e s m below meth c ls C hr hlocks hnm htab S hl
  rw [show lv_args 0 [.ref a0, va_rf rp1] = [(0, .ref a0), (1, va_rf rp1)] from by cases rp1 <;> rfl] at hl
  have hB63 : ∀ (rl1 : Option Nat) (h : ql_H) (H : Heap) (locs : List Loc) (ls : Array Slot), ql_S D h0 s H locs h → lv_has ls 3 [(0, .ref a0), (1, va_rf rl1)] → qw_X12_keeps_63 a0 Q rl1 h → W p l e ({ frames := 4, cells := 0, slots := 0, locals := 80 } : Room) s m ([.ref a0, va_rf rp1] : List Value).toArray below meth c H locs 0 0 (vx_MQ below (ql_Q D h0 (ql_rV Q)) (ql_X D h0 X) ([.ref a0, va_rf rp1] : List Value).toArray s 0 0 (ql_A h0)) (F0 m 63 ls []) := by
    intro rl1 h H locs ls S hl w
    unfold qw_X12_keeps_63 at w
    refine ql_aload_n (r := rl1) C dX12_keeps_63 rfl (lv_at hl 1 rfl) ?_
    refine lv_iconst (v := (0 : Int32)) C.1.1 C.1.2.1 dX12_keeps_64 (by decide) ?_
    refine ql_aload_n (r := (some a0)) C dX12_keeps_65 rfl (lv_at hl 0 rfl) ?_
    refine ql_getR C S qf_13_1 gw_1669 dX12_keeps_66 w (fun r1 w => ?_)
    refine lv_sipush (v := (685 : Int32)) C.1.1 C.1.2.1 dX12_keeps_69 (by decide) ?_
    refine ql_aload_n (r := (some a0)) C dX12_keeps_72 rfl (lv_at hl 0 rfl) ?_
    refine ql_getI C S qf_13_5 gw_1673 dX12_keeps_73 w (fun x2 w => ?_)
    refine lv_imul C.1.1 C.1.2.1 dX12_keeps_76 ?_
    refine ql_SV (As := [va_rf rl1, .int (0 : Int32), va_rf r1, .int ((685 : Int32) * x2)]) (rest := []) C S htab hlocks hl qy_X12_copies qi_X12_copies gw_1757 (qm_X12_copies l hl9 D _ rl1 (0 : Int32) r1 ((685 : Int32) * x2) _ _ w) rfl ⟨Nat.le_of_ble_eq_true rfl, Nat.le_of_ble_eq_true rfl⟩ ⟨rfl, rfl⟩ (by exact Nat.le_of_ble_eq_true rfl) rfl dX12_keeps_77 ⟨Nat.le_of_ble_eq_true rfl, Nat.le_of_ble_eq_true rfl⟩ ⟨Nat.le_of_ble_eq_true rfl, Nat.le_of_ble_eq_true rfl⟩ (fun h H locs S w => ?_)
    refine W.cs (cells' := 0) (slots' := 0) rfl rfl ?_
    refine ql_aload_n (r := (some a0)) C dX12_keeps_80 rfl (lv_at hl 0 rfl) ?_
    refine lv_dup C.1.1 C.1.2.1 dX12_keeps_81 (ql_catR _) ?_
    refine ql_getI C S qf_13_5 gw_1673 dX12_keeps_82 w (fun x3 w => ?_)
    refine lv_iconst (v := (1 : Int32)) C.1.1 C.1.2.1 dX12_keeps_85 (by decide) ?_
    refine lv_iadd C.1.1 C.1.2.1 dX12_keeps_86 ?_
    refine ql_putV C S qf_13_5 gw_1673 (tyX12) tyX12_ok nmX12 rfl dX12_keeps_87 (v := .int (x3 + (1 : Int32))) rfl rfl w (fun h H locs S w => ?_)
    exact ql_vret C S hr hlocks dX12_keeps_90 ⟨Nat.le_of_ble_eq_true rfl, Nat.le_of_ble_eq_true rfl⟩ w
  have hB24 : ∀ n : Nat, ∀ (rl1 : Option Nat) (xl2 : Int32) (h : ql_H) (H : Heap) (locs : List Loc) (ls : Array Slot), ql_S D h0 s H locs h → lv_has ls 3 [(0, .ref a0), (1, va_rf rl1), (2, .int xl2)] → qw_X12_keeps_24 a0 Q n rl1 xl2 h → W p l e ({ frames := 4, cells := 0, slots := 0, locals := 80 } : Room) s m ([.ref a0, va_rf rp1] : List Value).toArray below meth c H locs 0 0 (vx_MQ below (ql_Q D h0 (ql_rV Q)) (ql_X D h0 X) ([.ref a0, va_rf rp1] : List Value).toArray s 0 0 (ql_A h0)) (F0 m 24 ls []) := by
    intro n
    induction n with
    | zero => intro rl1 xl2 h H locs ls S hl w; rw [qw_X12_keeps_24] at w; exact w.elim
    | succ n ih =>
      intro rl1 xl2 h H locs ls S hl w
      rw [qw_X12_keeps_24] at w
      refine lv_iload_n C.1.1 C.1.2.1 dX12_keeps_24 rfl (lv_at hl 2 rfl) ?_
      refine lv_sipush (v := (4795 : Int32)) C.1.1 C.1.2.1 dX12_keeps_25 (by decide) ?_
      refine lv_icmp_ge (tgt := 53) C.1.1 C.1.2.1 dX12_keeps_28 (by decide) (fun c9 => ?_) (fun c9 => ?_)
      · replace w := ql_if w c9
        refine ql_aload_n (r := (some a0)) C dX12_keeps_53 rfl (lv_at hl 0 rfl) ?_
        refine lv_dup C.1.1 C.1.2.1 dX12_keeps_54 (ql_catR _) ?_
        refine ql_getI C S qf_13_5 gw_1673 dX12_keeps_55 w (fun x4 w => ?_)
        refine lv_iconst (v := (1 : Int32)) C.1.1 C.1.2.1 dX12_keeps_58 (by decide) ?_
        refine lv_isub C.1.1 C.1.2.1 dX12_keeps_59 ?_
        refine ql_putV C S qf_13_5 gw_1673 (tyX12) tyX12_ok nmX12 rfl dX12_keeps_60 (v := .int (x4 - (1 : Int32))) rfl rfl w (fun h H locs S w => ?_)
        exact hB63 rl1 _ _ _ _ S (lv_sub hl [0, 1] rfl) w
      · replace w := ql_ifn w c9
        refine ql_aload_n (r := (some a0)) C dX12_keeps_31 rfl (lv_at hl 0 rfl) ?_
        refine ql_getR C S qf_13_1 gw_1669 dX12_keeps_32 w (fun r5 w => ?_)
        refine lv_iload_n C.1.1 C.1.2.1 dX12_keeps_35 rfl (lv_at hl 2 rfl) ?_
        refine ql_aload_n (r := (some a0)) C dX12_keeps_36 rfl (lv_at hl 0 rfl) ?_
        refine ql_getR C S qf_13_1 gw_1669 dX12_keeps_37 w (fun r6 w => ?_)
        refine lv_iload_n C.1.1 C.1.2.1 dX12_keeps_40 rfl (lv_at hl 2 rfl) ?_
        refine lv_sipush (v := (685 : Int32)) C.1.1 C.1.2.1 dX12_keeps_41 (by decide) ?_
        refine lv_iadd C.1.1 C.1.2.1 dX12_keeps_44 ?_
        refine ql_iald C S dX12_keeps_45 w (fun x7 w => ?_)
        refine ql_iast C S dX12_keeps_46 w (fun h H locs S w => ?_)
        refine lv_iinc (v := (xl2 + (1 : Int32))) (lv' := [(2, .int (xl2 + (1 : Int32))), (0, .ref a0), (1, va_rf rl1)]) C.1.1 C.1.2.1 dX12_keeps_47 hl (k := 2) rfl rfl (by decide) (by generalize rl1 = z9; cases z9 <;> rfl) (fun ls hl => ?_)
        refine lv_goto (tgt := 24) C.1.1 C.1.2.1 dX12_keeps_50 (by decide) ?_
        exact ih rl1 (xl2 + (1 : Int32)) _ _ _ _ S (lv_sub hl [1, 2, 0] rfl) w
  unfold qw_X12_keeps at w
  refine ql_aload_n (r := (some a0)) C dX12_keeps_0 rfl (lv_at hl 0 rfl) ?_
  refine lv_iconst (v := (0 : Int32)) C.1.1 C.1.2.1 dX12_keeps_1 (by decide) ?_
  refine ql_putV C S qf_13_7 gw_1675 (tyX12) tyX12_ok nmX12 rfl dX12_keeps_2 (v := .int (0 : Int32)) rfl rfl w (fun h H locs S w => ?_)
  refine ql_aload_n (r := (some a0)) C dX12_keeps_5 rfl (lv_at hl 0 rfl) ?_
  refine ql_getI C S qf_13_6 gw_1674 dX12_keeps_6 w (fun x8 w => ?_)
  refine lv_if_eq (tgt := 13) C.1.1 C.1.2.1 dX12_keeps_9 (by decide) (fun c9 => ?_) (fun c9 => ?_)
  · replace w := ql_if w c9
    refine ql_aload_n (r := (some a0)) C dX12_keeps_13 rfl (lv_at hl 0 rfl) ?_
    refine ql_getI C S qf_13_5 gw_1673 dX12_keeps_14 w (fun x9 w => ?_)
    refine lv_bipush (v := (8 : Int32)) C.1.1 C.1.2.1 dX12_keeps_17 (by decide) ?_
    refine lv_icmp_ne (tgt := 63) C.1.1 C.1.2.1 dX12_keeps_19 (by decide) (fun c9 => ?_) (fun c9 => ?_)
    · replace w := ql_ifn w c9
      exact hB63 rp1 _ _ _ _ S (lv_sub hl [0, 1] rfl) w
    · replace w := ql_if w c9
      refine lv_iconst (v := (0 : Int32)) C.1.1 C.1.2.1 dX12_keeps_22 (by decide) ?_
      refine lv_istore_n (lv' := [(2, .int (0 : Int32)), (0, .ref a0), (1, va_rf rp1)]) C.1.1 C.1.2.1 dX12_keeps_23 rfl hl (by decide) (by generalize rp1 = z9; cases z9 <;> rfl) (fun ls hl => ?_)
      exact hB24 ql_FU rp1 (0 : Int32) _ _ _ _ S (lv_sub hl [1, 2, 0] rfl) w
  · replace w := ql_ifn w c9
    exact ql_vret C S hr hlocks dX12_keeps_12 ⟨Nat.le_of_ble_eq_true rfl, Nat.le_of_ble_eq_true rfl⟩ w
def qw_X12_of (a0 : Nat) (xp1 : Int32) (xp2 : Int32) (h : ql_H) (Q : Int32 → ql_H → Prop) : Prop :=
ql_gR h (some a0) 13 0 fun r1 =>
ql_lI h r1 0 (((13 : Int32) + ((42 : Int32) * xp1)) + xp2) fun x2 =>
Q x2 h
set_option maxHeartbeats 4000000 in
set_option maxRecDepth 100000 in
theorem qm_X12_of (l : Launch) (hl9 : l.stackTraces = false) (D : ql_D) (h0 : ql_H) (a0 : Nat) (xp1 : Int32) (xp2 : Int32) (Q : Int32 → ql_H → Prop) (X : String → ql_H → Prop) (w : qw_X12_of a0 xp1 xp2 h0 Q) : ql_M D l yX12_of cX12_of 3 (some .int) ({ frames := 2, cells := 0, slots := 0, locals := 48 } : Room) h0 [.ref a0, .int xp1, .int xp2] (ql_rI Q) X 0 0 := by
  refine ql_ofW (by decide) (Nat.le_of_ble_eq_true rfl) ?_
  intro p e s m below meth c ls C hr hlocks hnm htab S hl
  have hl : lv_has ls 3 [(0, .ref a0), (1, .int xp1), (2, .int xp2)] := hl
  unfold qw_X12_of at w
  refine ql_aload_n (r := (some a0)) C dX12_of_0 rfl (lv_at hl 0 rfl) ?_
  refine ql_getR C S qf_13_0 gw_1668 dX12_of_1 w (fun r1 w => ?_)
  refine lv_bipush (v := (13 : Int32)) C.1.1 C.1.2.1 dX12_of_4 (by decide) ?_
  refine lv_bipush (v := (42 : Int32)) C.1.1 C.1.2.1 dX12_of_6 (by decide) ?_
  refine lv_iload_n C.1.1 C.1.2.1 dX12_of_8 rfl (lv_at hl 1 rfl) ?_
  refine lv_imul C.1.1 C.1.2.1 dX12_of_9 ?_
  refine lv_iadd C.1.1 C.1.2.1 dX12_of_10 ?_
  refine lv_iload_n C.1.1 C.1.2.1 dX12_of_11 rfl (lv_at hl 2 rfl) ?_
  refine lv_iadd C.1.1 C.1.2.1 dX12_of_12 ?_
  refine ql_iald C S dX12_of_13 w (fun x2 w => ?_)
  exact ql_iret C S hr hlocks dX12_of_14 ⟨Nat.le_of_ble_eq_true rfl, Nat.le_of_ble_eq_true rfl⟩ w
def qw_X12_lays (a0 : Nat) (xp1 : Int32) (xp2 : Int32) (xp3 : Int32) (h : ql_H) (Q : ql_H → Prop) : Prop :=
ql_gR h (some a0) 13 0 fun r1 =>
ql_sI h r1 0 (((13 : Int32) + ((42 : Int32) * xp1)) + xp2) xp3 fun h =>
Q h
set_option maxHeartbeats 4000000 in
set_option maxRecDepth 100000 in
theorem qm_X12_lays (l : Launch) (hl9 : l.stackTraces = false) (D : ql_D) (h0 : ql_H) (a0 : Nat) (xp1 : Int32) (xp2 : Int32) (xp3 : Int32) (Q : ql_H → Prop) (X : String → ql_H → Prop) (w : qw_X12_lays a0 xp1 xp2 xp3 h0 Q) : ql_M D l yX12_lays cX12_lays 4 none ({ frames := 2, cells := 0, slots := 0, locals := 48 } : Room) h0 [.ref a0, .int xp1, .int xp2, .int xp3] (ql_rV Q) X 0 0 := by
  refine ql_ofW (by decide) (Nat.le_of_ble_eq_true rfl) ?_
  intro p e s m below meth c ls C hr hlocks hnm htab S hl
  have hl : lv_has ls 4 [(0, .ref a0), (1, .int xp1), (2, .int xp2), (3, .int xp3)] := hl
  unfold qw_X12_lays at w
  refine ql_aload_n (r := (some a0)) C dX12_lays_0 rfl (lv_at hl 0 rfl) ?_
  refine ql_getR C S qf_13_0 gw_1668 dX12_lays_1 w (fun r1 w => ?_)
  refine lv_bipush (v := (13 : Int32)) C.1.1 C.1.2.1 dX12_lays_4 (by decide) ?_
  refine lv_bipush (v := (42 : Int32)) C.1.1 C.1.2.1 dX12_lays_6 (by decide) ?_
  refine lv_iload_n C.1.1 C.1.2.1 dX12_lays_8 rfl (lv_at hl 1 rfl) ?_
  refine lv_imul C.1.1 C.1.2.1 dX12_lays_9 ?_
  refine lv_iadd C.1.1 C.1.2.1 dX12_lays_10 ?_
  refine lv_iload_n C.1.1 C.1.2.1 dX12_lays_11 rfl (lv_at hl 2 rfl) ?_
  refine lv_iadd C.1.1 C.1.2.1 dX12_lays_12 ?_
  refine lv_iload_n C.1.1 C.1.2.1 dX12_lays_13 rfl (lv_at hl 3 rfl) ?_
  refine ql_iast C S dX12_lays_14 w (fun h H locs S w => ?_)
  exact ql_vret C S hr hlocks dX12_lays_15 ⟨Nat.le_of_ble_eq_true rfl, Nat.le_of_ble_eq_true rfl⟩ w
def qw_X12_placeOf_2 (a0 : Nat) (Q : Int32 → ql_H → Prop) : Nat → Int32 → Int32 → ql_H → Prop
  | 0, _, _, _ => False
  | n + 1, xl1, xl2, h =>
    ql_gR h (some a0) 13 0 fun r1 =>
    ql_lI h r1 0 (0 : Int32) fun x2 =>
    if x2 ≤ xl2 then (Q (-1 : Int32) h) else (ql_rv h (some a0) 13 fun b3 => qw_X12_of b3 xl2 (0 : Int32) h (fun x3 h =>
    if x3 = xl1 then (Q xl2 h) else (qw_X12_placeOf_2 a0 Q n xl1 (xl2 + (1 : Int32)) h)))
def qw_X12_placeOf (a0 : Nat) (xp1 : Int32) (h : ql_H) (Q : Int32 → ql_H → Prop) : Prop :=
qw_X12_placeOf_2 a0 Q ql_FU xp1 (0 : Int32) h
set_option maxHeartbeats 4000000 in
set_option maxRecDepth 100000 in
theorem qm_X12_placeOf (l : Launch) (hl9 : l.stackTraces = false) (D : ql_D) (h0 : ql_H) (a0 : Nat) (xp1 : Int32) (Q : Int32 → ql_H → Prop) (X : String → ql_H → Prop) (w : qw_X12_placeOf a0 xp1 h0 Q) : ql_M D l yX12_placeOf cX12_placeOf 3 (some .int) ({ frames := 4, cells := 0, slots := 0, locals := 78 } : Room) h0 [.ref a0, .int xp1] (ql_rI Q) X 0 0 := by
  refine ql_ofW (by decide) (Nat.le_of_ble_eq_true rfl) ?_
  intro p e s m below meth c ls C hr hlocks hnm htab S hl
  have hl : lv_has ls 3 [(0, .ref a0), (1, .int xp1)] := hl
  have hB2 : ∀ n : Nat, ∀ (xl1 : Int32) (xl2 : Int32) (h : ql_H) (H : Heap) (locs : List Loc) (ls : Array Slot), ql_S D h0 s H locs h → lv_has ls 3 [(0, .ref a0), (1, .int xl1), (2, .int xl2)] → qw_X12_placeOf_2 a0 Q n xl1 xl2 h → W p l e ({ frames := 4, cells := 0, slots := 0, locals := 78 } : Room) s m ([.ref a0, .int xp1] : List Value).toArray below meth c H locs 0 0 (vx_MQ below (ql_Q D h0 (ql_rI Q)) (ql_X D h0 X) ([.ref a0, .int xp1] : List Value).toArray s 0 0 (ql_A h0)) (F0 m 2 ls []) := by
    intro n
    induction n with
    | zero => intro xl1 xl2 h H locs ls S hl w; rw [qw_X12_placeOf_2] at w; exact w.elim
    | succ n ih =>
      intro xl1 xl2 h H locs ls S hl w
      rw [qw_X12_placeOf_2] at w
      refine lv_iload_n C.1.1 C.1.2.1 dX12_placeOf_2 rfl (lv_at hl 2 rfl) ?_
      refine ql_aload_n (r := (some a0)) C dX12_placeOf_3 rfl (lv_at hl 0 rfl) ?_
      refine ql_getR C S qf_13_0 gw_1668 dX12_placeOf_4 w (fun r1 w => ?_)
      refine lv_iconst (v := (0 : Int32)) C.1.1 C.1.2.1 dX12_placeOf_7 (by decide) ?_
      refine ql_iald C S dX12_placeOf_8 w (fun x2 w => ?_)
      refine lv_icmp_ge (tgt := 30) C.1.1 C.1.2.1 dX12_placeOf_9 (by decide) (fun c9 => ?_) (fun c9 => ?_)
      · replace w := ql_if w c9
        refine lv_iconst (v := (-1 : Int32)) C.1.1 C.1.2.1 dX12_placeOf_30 (by decide) ?_
        exact ql_iret C S hr hlocks dX12_placeOf_31 ⟨Nat.le_of_ble_eq_true rfl, Nat.le_of_ble_eq_true rfl⟩ w
      · replace w := ql_ifn w c9
        refine ql_aload_n (r := (some a0)) C dX12_placeOf_12 rfl (lv_at hl 0 rfl) ?_
        refine lv_iload_n C.1.1 C.1.2.1 dX12_placeOf_13 rfl (lv_at hl 2 rfl) ?_
        refine lv_iconst (v := (0 : Int32)) C.1.1 C.1.2.1 dX12_placeOf_14 (by decide) ?_
        refine ql_VI (As := [.int xl2, .int (0 : Int32)]) (rest := []) C S htab hlocks hl qy_X12_of qi_X12_of qs_X12_of gw_1745 (ci := 13) rfl w (fun b w => qm_X12_of l hl9 D _ b xl2 (0 : Int32) _ _ w) rfl ⟨Nat.le_of_ble_eq_true rfl, Nat.le_of_ble_eq_true rfl⟩ ⟨rfl, rfl⟩ (by exact Nat.le_of_ble_eq_true rfl) (fun b e9 => by cases e9; rfl) dX12_placeOf_15 ⟨Nat.le_of_ble_eq_true rfl, Nat.le_of_ble_eq_true rfl⟩ ⟨Nat.le_of_ble_eq_true rfl, Nat.le_of_ble_eq_true rfl⟩ (fun x3 h H locs S w => ?_)
        refine W.cs (cells' := 0) (slots' := 0) rfl rfl ?_
        refine lv_iload_n C.1.1 C.1.2.1 dX12_placeOf_18 rfl (lv_at hl 1 rfl) ?_
        refine lv_icmp_ne (tgt := 24) C.1.1 C.1.2.1 dX12_placeOf_19 (by decide) (fun c9 => ?_) (fun c9 => ?_)
        · replace w := ql_ifn w c9
          refine lv_iinc (v := (xl2 + (1 : Int32))) (lv' := [(2, .int (xl2 + (1 : Int32))), (0, .ref a0), (1, .int xl1)]) C.1.1 C.1.2.1 dX12_placeOf_24 hl (k := 2) rfl rfl (by decide) rfl (fun ls hl => ?_)
          refine lv_goto (tgt := 2) C.1.1 C.1.2.1 dX12_placeOf_27 (by decide) ?_
          exact ih xl1 (xl2 + (1 : Int32)) _ _ _ _ S (lv_sub hl [1, 2, 0] rfl) w
        · replace w := ql_if w c9
          refine lv_iload_n C.1.1 C.1.2.1 dX12_placeOf_22 rfl (lv_at hl 2 rfl) ?_
          exact ql_iret C S hr hlocks dX12_placeOf_23 ⟨Nat.le_of_ble_eq_true rfl, Nat.le_of_ble_eq_true rfl⟩ w
  unfold qw_X12_placeOf at w
  refine lv_iconst (v := (0 : Int32)) C.1.1 C.1.2.1 dX12_placeOf_0 (by decide) ?_
  refine lv_istore_n (lv' := [(2, .int (0 : Int32)), (0, .ref a0), (1, .int xp1)]) C.1.1 C.1.2.1 dX12_placeOf_1 rfl hl (by decide) rfl (fun ls hl => ?_)
  exact hB2 ql_FU xp1 (0 : Int32) _ _ _ _ S (lv_sub hl [1, 2, 0] rfl) w
def qw_X12_isNone_14 (a0 : Nat) (Q : Int32 → ql_H → Prop) (rs0 : Option Nat) (xs1 : Int32) (h : ql_H) : Prop :=
ql_rv h rs0 13 fun b1 => qw_X12_fails b1 xs1 h (fun x1 h =>
ql_nz .boolean x1 ∧ Q x1 h)
def qw_X12_isNone (a0 : Nat) (xp1 : Int32) (h : ql_H) (Q : Int32 → ql_H → Prop) : Prop :=
ql_rv h (some a0) 13 fun b3 => qw_X12_placeOf b3 xp1 h (fun x3 h =>
if 0 ≤ x3 then (qw_X12_isNone_14 a0 Q (some a0) (0 : Int32) h) else (qw_X12_isNone_14 a0 Q (some a0) (1 : Int32) h))
set_option maxHeartbeats 4000000 in
set_option maxRecDepth 100000 in
theorem qm_X12_isNone (l : Launch) (hl9 : l.stackTraces = false) (D : ql_D) (h0 : ql_H) (a0 : Nat) (xp1 : Int32) (Q : Int32 → ql_H → Prop) (X : String → ql_H → Prop) (w : qw_X12_isNone a0 xp1 h0 Q) : ql_M D l yX12_isNone cX12_isNone 2 (some .boolean) ({ frames := 6, cells := 0, slots := 0, locals := 108 } : Room) h0 [.ref a0, .int xp1] (ql_rI Q) X 0 0 := by
  refine ql_ofW (by decide) (Nat.le_of_ble_eq_true rfl) ?_
  intro p e s m below meth c ls C hr hlocks hnm htab S hl
  have hl : lv_has ls 2 [(0, .ref a0), (1, .int xp1)] := hl
  have hB14 : ∀ (rs0 : Option Nat) (xs1 : Int32) (h : ql_H) (H : Heap) (locs : List Loc) (ls : Array Slot), ql_S D h0 s H locs h → lv_has ls 2 [] → qw_X12_isNone_14 a0 Q rs0 xs1 h → W p l e ({ frames := 6, cells := 0, slots := 0, locals := 108 } : Room) s m ([.ref a0, .int xp1] : List Value).toArray below meth c H locs 0 0 (vx_MQ below (ql_Q D h0 (ql_rI Q)) (ql_X D h0 X) ([.ref a0, .int xp1] : List Value).toArray s 0 0 (ql_A h0)) (F0 m 14 ls [.int xs1, va_rf rs0]) := by
    intro rs0 xs1 h H locs ls S hl w
    unfold qw_X12_isNone_14 at w
    refine ql_VI (As := [.int xs1]) (rest := []) C S htab hlocks hl qy_X12_fails qi_X12_fails qs_X12_fails gw_1749 (ci := 13) rfl w (fun b w => qm_X12_fails l hl9 D _ b xs1 _ _ w) rfl ⟨Nat.le_of_ble_eq_true rfl, Nat.le_of_ble_eq_true rfl⟩ ⟨rfl, rfl⟩ (by exact Nat.le_of_ble_eq_true rfl) (fun b e9 => by cases e9; rfl) dX12_isNone_14 ⟨Nat.le_of_ble_eq_true rfl, Nat.le_of_ble_eq_true rfl⟩ ⟨Nat.le_of_ble_eq_true rfl, Nat.le_of_ble_eq_true rfl⟩ (fun x1 h H locs S w => ?_)
    refine W.cs (cells' := 0) (slots' := 0) rfl rfl ?_
    exact ql_zret C S hr hlocks dX12_isNone_17 ⟨Nat.le_of_ble_eq_true rfl, Nat.le_of_ble_eq_true rfl⟩ w
  unfold qw_X12_isNone at w
  refine ql_aload_n (r := (some a0)) C dX12_isNone_0 rfl (lv_at hl 0 rfl) ?_
  refine ql_aload_n (r := (some a0)) C dX12_isNone_1 rfl (lv_at hl 0 rfl) ?_
  refine lv_iload_n C.1.1 C.1.2.1 dX12_isNone_2 rfl (lv_at hl 1 rfl) ?_
  refine ql_VI (As := [.int xp1]) (rest := [.ref a0]) C S htab hlocks hl qy_X12_placeOf qi_X12_placeOf qs_X12_placeOf gw_1772 (ci := 13) rfl w (fun b w => qm_X12_placeOf l hl9 D _ b xp1 _ _ w) rfl ⟨Nat.le_of_ble_eq_true rfl, Nat.le_of_ble_eq_true rfl⟩ ⟨rfl, rfl⟩ (by exact Nat.le_of_ble_eq_true rfl) (fun b e9 => by cases e9; rfl) dX12_isNone_3 ⟨Nat.le_of_ble_eq_true rfl, Nat.le_of_ble_eq_true rfl⟩ ⟨Nat.le_of_ble_eq_true rfl, Nat.le_of_ble_eq_true rfl⟩ (fun x3 h H locs S w => ?_)
  refine W.cs (cells' := 0) (slots' := 0) rfl rfl ?_
  refine lv_if_ge (tgt := 13) C.1.1 C.1.2.1 dX12_isNone_6 (by decide) (fun c9 => ?_) (fun c9 => ?_)
  · replace w := ql_if w c9
    refine lv_iconst (v := (0 : Int32)) C.1.1 C.1.2.1 dX12_isNone_13 (by decide) ?_
    exact hB14 (some a0) (0 : Int32) _ _ _ _ S (lv_sub hl [] rfl) w
  · replace w := ql_ifn w c9
    refine lv_iconst (v := (1 : Int32)) C.1.1 C.1.2.1 dX12_isNone_9 (by decide) ?_
    refine lv_goto (tgt := 14) C.1.1 C.1.2.1 dX12_isNone_10 (by decide) ?_
    exact hB14 (some a0) (1 : Int32) _ _ _ _ S (lv_sub hl [] rfl) w
def qw_X12_withSection_2 (a0 : Nat) (Q : Int32 → ql_H → Prop) : Nat → Int32 → Int32 → ql_H → Prop
  | 0, _, _, _ => False
  | n + 1, xl1, xl2, h =>
    ql_gR h (some a0) 13 0 fun r1 =>
    ql_lI h r1 0 (0 : Int32) fun x2 =>
    if x2 ≤ xl2 then (Q (-1 : Int32) h) else (ql_rv h (some a0) 13 fun b3 => qw_X12_of b3 xl2 (1 : Int32) h (fun x3 h =>
    if x3 = xl1 then (Q xl2 h) else (qw_X12_withSection_2 a0 Q n xl1 (xl2 + (1 : Int32)) h)))
def qw_X12_withSection (a0 : Nat) (xp1 : Int32) (h : ql_H) (Q : Int32 → ql_H → Prop) : Prop :=
qw_X12_withSection_2 a0 Q ql_FU xp1 (0 : Int32) h
set_option maxHeartbeats 4000000 in
set_option maxRecDepth 100000 in
theorem qm_X12_withSection (l : Launch) (hl9 : l.stackTraces = false) (D : ql_D) (h0 : ql_H) (a0 : Nat) (xp1 : Int32) (Q : Int32 → ql_H → Prop) (X : String → ql_H → Prop) (w : qw_X12_withSection a0 xp1 h0 Q) : ql_M D l yX12_withSection cX12_withSection 3 (some .int) ({ frames := 4, cells := 0, slots := 0, locals := 78 } : Room) h0 [.ref a0, .int xp1] (ql_rI Q) X 0 0 := by
  refine ql_ofW (by decide) (Nat.le_of_ble_eq_true rfl) ?_
  intro p e s m below meth c ls C hr hlocks hnm htab S hl
  have hl : lv_has ls 3 [(0, .ref a0), (1, .int xp1)] := hl
  have hB2 : ∀ n : Nat, ∀ (xl1 : Int32) (xl2 : Int32) (h : ql_H) (H : Heap) (locs : List Loc) (ls : Array Slot), ql_S D h0 s H locs h → lv_has ls 3 [(0, .ref a0), (1, .int xl1), (2, .int xl2)] → qw_X12_withSection_2 a0 Q n xl1 xl2 h → W p l e ({ frames := 4, cells := 0, slots := 0, locals := 78 } : Room) s m ([.ref a0, .int xp1] : List Value).toArray below meth c H locs 0 0 (vx_MQ below (ql_Q D h0 (ql_rI Q)) (ql_X D h0 X) ([.ref a0, .int xp1] : List Value).toArray s 0 0 (ql_A h0)) (F0 m 2 ls []) := by
    intro n
    induction n with
    | zero => intro xl1 xl2 h H locs ls S hl w; rw [qw_X12_withSection_2] at w; exact w.elim
    | succ n ih =>
      intro xl1 xl2 h H locs ls S hl w
      rw [qw_X12_withSection_2] at w
      refine lv_iload_n C.1.1 C.1.2.1 dX12_withSection_2 rfl (lv_at hl 2 rfl) ?_
      refine ql_aload_n (r := (some a0)) C dX12_withSection_3 rfl (lv_at hl 0 rfl) ?_
      refine ql_getR C S qf_13_0 gw_1668 dX12_withSection_4 w (fun r1 w => ?_)
      refine lv_iconst (v := (0 : Int32)) C.1.1 C.1.2.1 dX12_withSection_7 (by decide) ?_
      refine ql_iald C S dX12_withSection_8 w (fun x2 w => ?_)
      refine lv_icmp_ge (tgt := 30) C.1.1 C.1.2.1 dX12_withSection_9 (by decide) (fun c9 => ?_) (fun c9 => ?_)
      · replace w := ql_if w c9
        refine lv_iconst (v := (-1 : Int32)) C.1.1 C.1.2.1 dX12_withSection_30 (by decide) ?_
        exact ql_iret C S hr hlocks dX12_withSection_31 ⟨Nat.le_of_ble_eq_true rfl, Nat.le_of_ble_eq_true rfl⟩ w
      · replace w := ql_ifn w c9
        refine ql_aload_n (r := (some a0)) C dX12_withSection_12 rfl (lv_at hl 0 rfl) ?_
        refine lv_iload_n C.1.1 C.1.2.1 dX12_withSection_13 rfl (lv_at hl 2 rfl) ?_
        refine lv_iconst (v := (1 : Int32)) C.1.1 C.1.2.1 dX12_withSection_14 (by decide) ?_
        refine ql_VI (As := [.int xl2, .int (1 : Int32)]) (rest := []) C S htab hlocks hl qy_X12_of qi_X12_of qs_X12_of gw_1745 (ci := 13) rfl w (fun b w => qm_X12_of l hl9 D _ b xl2 (1 : Int32) _ _ w) rfl ⟨Nat.le_of_ble_eq_true rfl, Nat.le_of_ble_eq_true rfl⟩ ⟨rfl, rfl⟩ (by exact Nat.le_of_ble_eq_true rfl) (fun b e9 => by cases e9; rfl) dX12_withSection_15 ⟨Nat.le_of_ble_eq_true rfl, Nat.le_of_ble_eq_true rfl⟩ ⟨Nat.le_of_ble_eq_true rfl, Nat.le_of_ble_eq_true rfl⟩ (fun x3 h H locs S w => ?_)
        refine W.cs (cells' := 0) (slots' := 0) rfl rfl ?_
        refine lv_iload_n C.1.1 C.1.2.1 dX12_withSection_18 rfl (lv_at hl 1 rfl) ?_
        refine lv_icmp_ne (tgt := 24) C.1.1 C.1.2.1 dX12_withSection_19 (by decide) (fun c9 => ?_) (fun c9 => ?_)
        · replace w := ql_ifn w c9
          refine lv_iinc (v := (xl2 + (1 : Int32))) (lv' := [(2, .int (xl2 + (1 : Int32))), (0, .ref a0), (1, .int xl1)]) C.1.1 C.1.2.1 dX12_withSection_24 hl (k := 2) rfl rfl (by decide) rfl (fun ls hl => ?_)
          refine lv_goto (tgt := 2) C.1.1 C.1.2.1 dX12_withSection_27 (by decide) ?_
          exact ih xl1 (xl2 + (1 : Int32)) _ _ _ _ S (lv_sub hl [1, 2, 0] rfl) w
        · replace w := ql_if w c9
          refine lv_iload_n C.1.1 C.1.2.1 dX12_withSection_22 rfl (lv_at hl 2 rfl) ?_
          exact ql_iret C S hr hlocks dX12_withSection_23 ⟨Nat.le_of_ble_eq_true rfl, Nat.le_of_ble_eq_true rfl⟩ w
  unfold qw_X12_withSection at w
  refine lv_iconst (v := (0 : Int32)) C.1.1 C.1.2.1 dX12_withSection_0 (by decide) ?_
  refine lv_istore_n (lv' := [(2, .int (0 : Int32)), (0, .ref a0), (1, .int xp1)]) C.1.1 C.1.2.1 dX12_withSection_1 rfl hl (by decide) rfl (fun ls hl => ?_)
  exact hB2 ql_FU xp1 (0 : Int32) _ _ _ _ S (lv_sub hl [1, 2, 0] rfl) w
def qw_X12_isValid_29 (a0 : Nat) (Q : Int32 → ql_H → Prop) (h : ql_H) : Prop :=
ql_nz .boolean (1 : Int32) ∧ Q (1 : Int32) h
def qw_X12_isValid (a0 : Nat) (xp1 : Int32) (xp2 : Int32) (h : ql_H) (Q : Int32 → ql_H → Prop) : Prop :=
ql_rv h (some a0) 13 fun b1 => qw_X12_of b1 xp1 (2 : Int32) h (fun x1 h =>
if xp2 < x1 then (ql_nz .boolean (0 : Int32) ∧ Q (0 : Int32) h) else (ql_rv h (some a0) 13 fun b3 => qw_X12_of b3 xp1 (3 : Int32) h (fun x3 h =>
if x3 < 0 then (qw_X12_isValid_29 a0 Q  h) else (ql_rv h (some a0) 13 fun b5 => qw_X12_of b5 xp1 (3 : Int32) h (fun x5 h =>
if x5 < xp2 then (ql_nz .boolean (0 : Int32) ∧ Q (0 : Int32) h) else (qw_X12_isValid_29 a0 Q  h))))))
set_option maxHeartbeats 4000000 in
set_option maxRecDepth 100000 in
theorem qm_X12_isValid (l : Launch) (hl9 : l.stackTraces = false) (D : ql_D) (h0 : ql_H) (a0 : Nat) (xp1 : Int32) (xp2 : Int32) (Q : Int32 → ql_H → Prop) (X : String → ql_H → Prop) (w : qw_X12_isValid a0 xp1 xp2 h0 Q) : ql_M D l yX12_isValid cX12_isValid 3 (some .boolean) ({ frames := 4, cells := 0, slots := 0, locals := 78 } : Room) h0 [.ref a0, .int xp1, .int xp2] (ql_rI Q) X 0 0 := by
  refine ql_ofW (by decide) (Nat.le_of_ble_eq_true rfl) ?_
  intro p e s m below meth c ls C hr hlocks hnm htab S hl
  have hl : lv_has ls 3 [(0, .ref a0), (1, .int xp1), (2, .int xp2)] := hl
  have hB29 : ∀ (h : ql_H) (H : Heap) (locs : List Loc) (ls : Array Slot), ql_S D h0 s H locs h → lv_has ls 3 [] → qw_X12_isValid_29 a0 Q h → W p l e ({ frames := 4, cells := 0, slots := 0, locals := 78 } : Room) s m ([.ref a0, .int xp1, .int xp2] : List Value).toArray below meth c H locs 0 0 (vx_MQ below (ql_Q D h0 (ql_rI Q)) (ql_X D h0 X) ([.ref a0, .int xp1, .int xp2] : List Value).toArray s 0 0 (ql_A h0)) (F0 m 29 ls []) := by
    intro h H locs ls S hl w
    unfold qw_X12_isValid_29 at w
    refine lv_iconst (v := (1 : Int32)) C.1.1 C.1.2.1 dX12_isValid_29 (by decide) ?_
    refine lv_goto (tgt := 34) C.1.1 C.1.2.1 dX12_isValid_30 (by decide) ?_
    exact ql_zret C S hr hlocks dX12_isValid_34 ⟨Nat.le_of_ble_eq_true rfl, Nat.le_of_ble_eq_true rfl⟩ w
  unfold qw_X12_isValid at w
  refine lv_iload_n C.1.1 C.1.2.1 dX12_isValid_0 rfl (lv_at hl 2 rfl) ?_
  refine ql_aload_n (r := (some a0)) C dX12_isValid_1 rfl (lv_at hl 0 rfl) ?_
  refine lv_iload_n C.1.1 C.1.2.1 dX12_isValid_2 rfl (lv_at hl 1 rfl) ?_
  refine lv_iconst (v := (2 : Int32)) C.1.1 C.1.2.1 dX12_isValid_3 (by decide) ?_
  refine ql_VI (As := [.int xp1, .int (2 : Int32)]) (rest := [.int xp2]) C S htab hlocks hl qy_X12_of qi_X12_of qs_X12_of gw_1745 (ci := 13) rfl w (fun b w => qm_X12_of l hl9 D _ b xp1 (2 : Int32) _ _ w) rfl ⟨Nat.le_of_ble_eq_true rfl, Nat.le_of_ble_eq_true rfl⟩ ⟨rfl, rfl⟩ (by exact Nat.le_of_ble_eq_true rfl) (fun b e9 => by cases e9; rfl) dX12_isValid_4 ⟨Nat.le_of_ble_eq_true rfl, Nat.le_of_ble_eq_true rfl⟩ ⟨Nat.le_of_ble_eq_true rfl, Nat.le_of_ble_eq_true rfl⟩ (fun x1 h H locs S w => ?_)
  refine W.cs (cells' := 0) (slots' := 0) rfl rfl ?_
  refine lv_icmp_lt (tgt := 33) C.1.1 C.1.2.1 dX12_isValid_7 (by decide) (fun c9 => ?_) (fun c9 => ?_)
  · replace w := ql_if w c9
    refine lv_iconst (v := (0 : Int32)) C.1.1 C.1.2.1 dX12_isValid_33 (by decide) ?_
    exact ql_zret C S hr hlocks dX12_isValid_34 ⟨Nat.le_of_ble_eq_true rfl, Nat.le_of_ble_eq_true rfl⟩ w
  · replace w := ql_ifn w c9
    refine ql_aload_n (r := (some a0)) C dX12_isValid_10 rfl (lv_at hl 0 rfl) ?_
    refine lv_iload_n C.1.1 C.1.2.1 dX12_isValid_11 rfl (lv_at hl 1 rfl) ?_
    refine lv_iconst (v := (3 : Int32)) C.1.1 C.1.2.1 dX12_isValid_12 (by decide) ?_
    refine ql_VI (As := [.int xp1, .int (3 : Int32)]) (rest := []) C S htab hlocks hl qy_X12_of qi_X12_of qs_X12_of gw_1745 (ci := 13) rfl w (fun b w => qm_X12_of l hl9 D _ b xp1 (3 : Int32) _ _ w) rfl ⟨Nat.le_of_ble_eq_true rfl, Nat.le_of_ble_eq_true rfl⟩ ⟨rfl, rfl⟩ (by exact Nat.le_of_ble_eq_true rfl) (fun b e9 => by cases e9; rfl) dX12_isValid_13 ⟨Nat.le_of_ble_eq_true rfl, Nat.le_of_ble_eq_true rfl⟩ ⟨Nat.le_of_ble_eq_true rfl, Nat.le_of_ble_eq_true rfl⟩ (fun x3 h H locs S w => ?_)
    refine W.cs (cells' := 0) (slots' := 0) rfl rfl ?_
    refine lv_if_lt (tgt := 29) C.1.1 C.1.2.1 dX12_isValid_16 (by decide) (fun c9 => ?_) (fun c9 => ?_)
    · replace w := ql_if w c9
      exact hB29  _ _ _ _ S (lv_sub hl [] rfl) w
    · replace w := ql_ifn w c9
      refine lv_iload_n C.1.1 C.1.2.1 dX12_isValid_19 rfl (lv_at hl 2 rfl) ?_
      refine ql_aload_n (r := (some a0)) C dX12_isValid_20 rfl (lv_at hl 0 rfl) ?_
      refine lv_iload_n C.1.1 C.1.2.1 dX12_isValid_21 rfl (lv_at hl 1 rfl) ?_
      refine lv_iconst (v := (3 : Int32)) C.1.1 C.1.2.1 dX12_isValid_22 (by decide) ?_
      refine ql_VI (As := [.int xp1, .int (3 : Int32)]) (rest := [.int xp2]) C S htab hlocks hl qy_X12_of qi_X12_of qs_X12_of gw_1745 (ci := 13) rfl w (fun b w => qm_X12_of l hl9 D _ b xp1 (3 : Int32) _ _ w) rfl ⟨Nat.le_of_ble_eq_true rfl, Nat.le_of_ble_eq_true rfl⟩ ⟨rfl, rfl⟩ (by exact Nat.le_of_ble_eq_true rfl) (fun b e9 => by cases e9; rfl) dX12_isValid_23 ⟨Nat.le_of_ble_eq_true rfl, Nat.le_of_ble_eq_true rfl⟩ ⟨Nat.le_of_ble_eq_true rfl, Nat.le_of_ble_eq_true rfl⟩ (fun x5 h H locs S w => ?_)
      refine W.cs (cells' := 0) (slots' := 0) rfl rfl ?_
      refine lv_icmp_gt (tgt := 33) C.1.1 C.1.2.1 dX12_isValid_26 (by decide) (fun c9 => ?_) (fun c9 => ?_)
      · replace w := ql_if w c9
        refine lv_iconst (v := (0 : Int32)) C.1.1 C.1.2.1 dX12_isValid_33 (by decide) ?_
        exact ql_zret C S hr hlocks dX12_isValid_34 ⟨Nat.le_of_ble_eq_true rfl, Nat.le_of_ble_eq_true rfl⟩ w
      · replace w := ql_ifn w c9
        exact hB29  _ _ _ _ S (lv_sub hl [] rfl) w
def qw_X12_isOver (a0 : Nat) (xp1 : Int32) (h : ql_H) (Q : Int32 → ql_H → Prop) : Prop :=
ql_rv h (some a0) 13 fun b1 => qw_X12_of b1 xp1 (3 : Int32) h (fun x1 h =>
if x1 < 0 then (ql_nz .boolean (0 : Int32) ∧ Q (0 : Int32) h) else (ql_rv h (some a0) 13 fun b3 => qw_X12_of b3 xp1 (3 : Int32) h (fun x3 h =>
ql_gR h (some a0) 13 0 fun r5 =>
ql_lI h r5 0 (2 : Int32) fun x6 =>
if x6 ≤ x3 then (ql_nz .boolean (0 : Int32) ∧ Q (0 : Int32) h) else (ql_nz .boolean (1 : Int32) ∧ Q (1 : Int32) h))))
set_option maxHeartbeats 4000000 in
set_option maxRecDepth 100000 in
theorem qm_X12_isOver (l : Launch) (hl9 : l.stackTraces = false) (D : ql_D) (h0 : ql_H) (a0 : Nat) (xp1 : Int32) (Q : Int32 → ql_H → Prop) (X : String → ql_H → Prop) (w : qw_X12_isOver a0 xp1 h0 Q) : ql_M D l yX12_isOver cX12_isOver 2 (some .boolean) ({ frames := 4, cells := 0, slots := 0, locals := 78 } : Room) h0 [.ref a0, .int xp1] (ql_rI Q) X 0 0 := by
  refine ql_ofW (by decide) (Nat.le_of_ble_eq_true rfl) ?_
  intro p e s m below meth c ls C hr hlocks hnm htab S hl
  have hl : lv_has ls 2 [(0, .ref a0), (1, .int xp1)] := hl
  unfold qw_X12_isOver at w
  refine ql_aload_n (r := (some a0)) C dX12_isOver_0 rfl (lv_at hl 0 rfl) ?_
  refine lv_iload_n C.1.1 C.1.2.1 dX12_isOver_1 rfl (lv_at hl 1 rfl) ?_
  refine lv_iconst (v := (3 : Int32)) C.1.1 C.1.2.1 dX12_isOver_2 (by decide) ?_
  refine ql_VI (As := [.int xp1, .int (3 : Int32)]) (rest := []) C S htab hlocks hl qy_X12_of qi_X12_of qs_X12_of gw_1745 (ci := 13) rfl w (fun b w => qm_X12_of l hl9 D _ b xp1 (3 : Int32) _ _ w) rfl ⟨Nat.le_of_ble_eq_true rfl, Nat.le_of_ble_eq_true rfl⟩ ⟨rfl, rfl⟩ (by exact Nat.le_of_ble_eq_true rfl) (fun b e9 => by cases e9; rfl) dX12_isOver_3 ⟨Nat.le_of_ble_eq_true rfl, Nat.le_of_ble_eq_true rfl⟩ ⟨Nat.le_of_ble_eq_true rfl, Nat.le_of_ble_eq_true rfl⟩ (fun x1 h H locs S w => ?_)
  refine W.cs (cells' := 0) (slots' := 0) rfl rfl ?_
  refine lv_if_lt (tgt := 28) C.1.1 C.1.2.1 dX12_isOver_6 (by decide) (fun c9 => ?_) (fun c9 => ?_)
  · replace w := ql_if w c9
    refine lv_iconst (v := (0 : Int32)) C.1.1 C.1.2.1 dX12_isOver_28 (by decide) ?_
    exact ql_zret C S hr hlocks dX12_isOver_29 ⟨Nat.le_of_ble_eq_true rfl, Nat.le_of_ble_eq_true rfl⟩ w
  · replace w := ql_ifn w c9
    refine ql_aload_n (r := (some a0)) C dX12_isOver_9 rfl (lv_at hl 0 rfl) ?_
    refine lv_iload_n C.1.1 C.1.2.1 dX12_isOver_10 rfl (lv_at hl 1 rfl) ?_
    refine lv_iconst (v := (3 : Int32)) C.1.1 C.1.2.1 dX12_isOver_11 (by decide) ?_
    refine ql_VI (As := [.int xp1, .int (3 : Int32)]) (rest := []) C S htab hlocks hl qy_X12_of qi_X12_of qs_X12_of gw_1745 (ci := 13) rfl w (fun b w => qm_X12_of l hl9 D _ b xp1 (3 : Int32) _ _ w) rfl ⟨Nat.le_of_ble_eq_true rfl, Nat.le_of_ble_eq_true rfl⟩ ⟨rfl, rfl⟩ (by exact Nat.le_of_ble_eq_true rfl) (fun b e9 => by cases e9; rfl) dX12_isOver_12 ⟨Nat.le_of_ble_eq_true rfl, Nat.le_of_ble_eq_true rfl⟩ ⟨Nat.le_of_ble_eq_true rfl, Nat.le_of_ble_eq_true rfl⟩ (fun x3 h H locs S w => ?_)
    refine W.cs (cells' := 0) (slots' := 0) rfl rfl ?_
    refine ql_aload_n (r := (some a0)) C dX12_isOver_15 rfl (lv_at hl 0 rfl) ?_
    refine ql_getR C S qf_13_0 gw_1668 dX12_isOver_16 w (fun r5 w => ?_)
    refine lv_iconst (v := (2 : Int32)) C.1.1 C.1.2.1 dX12_isOver_19 (by decide) ?_
    refine ql_iald C S dX12_isOver_20 w (fun x6 w => ?_)
    refine lv_icmp_ge (tgt := 28) C.1.1 C.1.2.1 dX12_isOver_21 (by decide) (fun c9 => ?_) (fun c9 => ?_)
    · replace w := ql_if w c9
      refine lv_iconst (v := (0 : Int32)) C.1.1 C.1.2.1 dX12_isOver_28 (by decide) ?_
      exact ql_zret C S hr hlocks dX12_isOver_29 ⟨Nat.le_of_ble_eq_true rfl, Nat.le_of_ble_eq_true rfl⟩ w
    · replace w := ql_ifn w c9
      refine lv_iconst (v := (1 : Int32)) C.1.1 C.1.2.1 dX12_isOver_24 (by decide) ?_
      refine lv_goto (tgt := 29) C.1.1 C.1.2.1 dX12_isOver_25 (by decide) ?_
      exact ql_zret C S hr hlocks dX12_isOver_29 ⟨Nat.le_of_ble_eq_true rfl, Nat.le_of_ble_eq_true rfl⟩ w
def qw_X12_isNote (xp0 : Int32) (h : ql_H) (Q : Int32 → ql_H → Prop) : Prop :=
qw_X12_in xp0 (97 : Int32) (103 : Int32) h (fun x1 h =>
ql_nz .boolean x1 ∧ Q x1 h)
set_option maxHeartbeats 4000000 in
set_option maxRecDepth 100000 in
theorem qm_X12_isNote (l : Launch) (hl9 : l.stackTraces = false) (D : ql_D) (h0 : ql_H) (xp0 : Int32) (Q : Int32 → ql_H → Prop) (X : String → ql_H → Prop) (w : qw_X12_isNote xp0 h0 Q) : ql_M D l yX12_isNote cX12_isNote 1 (some .boolean) ({ frames := 4, cells := 0, slots := 0, locals := 78 } : Room) h0 [.int xp0] (ql_rI Q) X 0 0 := by
  refine ql_ofW (by decide) (Nat.le_of_ble_eq_true rfl) ?_
  intro p e s m below meth c ls C hr hlocks hnm htab S hl
  have hl : lv_has ls 1 [(0, .int xp0)] := hl
  unfold qw_X12_isNote at w
  refine lv_iload_n C.1.1 C.1.2.1 dX12_isNote_0 rfl (lv_at hl 0 rfl) ?_
  refine lv_bipush (v := (97 : Int32)) C.1.1 C.1.2.1 dX12_isNote_1 (by decide) ?_
  refine lv_bipush (v := (103 : Int32)) C.1.1 C.1.2.1 dX12_isNote_3 (by decide) ?_
  refine ql_SI (As := [.int xp0, .int (97 : Int32), .int (103 : Int32)]) (rest := []) C S htab hlocks hl qy_X12_in qi_X12_in gw_1735 (qm_X12_in l hl9 D _ xp0 (97 : Int32) (103 : Int32) _ _ w) rfl ⟨Nat.le_of_ble_eq_true rfl, Nat.le_of_ble_eq_true rfl⟩ ⟨rfl, rfl⟩ (by exact Nat.le_of_ble_eq_true rfl) rfl dX12_isNote_5 ⟨Nat.le_of_ble_eq_true rfl, Nat.le_of_ble_eq_true rfl⟩ ⟨Nat.le_of_ble_eq_true rfl, Nat.le_of_ble_eq_true rfl⟩ (fun x1 h H locs S w => ?_)
  refine W.cs (cells' := 0) (slots' := 0) rfl rfl ?_
  exact ql_zret C S hr hlocks dX12_isNote_8 ⟨Nat.le_of_ble_eq_true rfl, Nat.le_of_ble_eq_true rfl⟩ w
def qw_X12_versionOn_38 (a0 : Nat) (Q : Int32 → ql_H → Prop) (k5 : Int32 → Int32 → Int32 → Int32 → ql_H → Prop) (xl1 : Int32) (xl2 : Int32) (xl3 : Int32) (xl4 : Int32) (h : ql_H) : Prop :=
k5 xl1 xl2 xl3 (xl4 + (1 : Int32)) h
def qw_X12_versionOn_5 (a0 : Nat) (Q : Int32 → ql_H → Prop) : Nat → Int32 → Int32 → Int32 → Int32 → ql_H → Prop
  | 0, _, _, _, _, _ => False
  | n + 1, xl1, xl2, xl3, xl4, h =>
    ql_rv h (some a0) 13 fun b1 => qw_X12_of b1 xl1 (4 : Int32) h (fun x1 h =>
    if x1 ≤ xl4 then (Q xl3 h) else (ql_rv h (some a0) 13 fun b3 => qw_X12_of b3 xl1 ((5 : Int32) + ((4 : Int32) * xl4)) h (fun x3 h =>
    if xl2 < x3 then (qw_X12_versionOn_38 a0 Q (qw_X12_versionOn_5 a0 Q n) xl1 xl2 xl3 xl4 h) else (qw_X12_versionOn_38 a0 Q (qw_X12_versionOn_5 a0 Q n) xl1 xl2 ((5 : Int32) + ((4 : Int32) * xl4)) xl4 h))))
def qw_X12_versionOn (a0 : Nat) (xp1 : Int32) (xp2 : Int32) (h : ql_H) (Q : Int32 → ql_H → Prop) : Prop :=
qw_X12_versionOn_5 a0 Q ql_FU xp1 xp2 (-1 : Int32) (0 : Int32) h
set_option maxHeartbeats 4000000 in
set_option maxRecDepth 100000 in
theorem qm_X12_versionOn (l : Launch) (hl9 : l.stackTraces = false) (D : ql_D) (h0 : ql_H) (a0 : Nat) (xp1 : Int32) (xp2 : Int32) (Q : Int32 → ql_H → Prop) (X : String → ql_H → Prop) (w : qw_X12_versionOn a0 xp1 xp2 h0 Q) : ql_M D l yX12_versionOn cX12_versionOn 5 (some .int) ({ frames := 4, cells := 0, slots := 0, locals := 78 } : Room) h0 [.ref a0, .int xp1, .int xp2] (ql_rI Q) X 0 0 := by
  refine ql_ofW (by decide) (Nat.le_of_ble_eq_true rfl) ?_
  intro p e s m below meth c ls C hr hlocks hnm htab S hl
  have hl : lv_has ls 5 [(0, .ref a0), (1, .int xp1), (2, .int xp2)] := hl
  have hB38 : ∀ (k5 : Int32 → Int32 → Int32 → Int32 → ql_H → Prop) (hk5 : ∀ (xl1 : Int32) (xl2 : Int32) (xl3 : Int32) (xl4 : Int32) (h : ql_H) (H : Heap) (locs : List Loc) (ls : Array Slot), ql_S D h0 s H locs h → lv_has ls 5 [(0, .ref a0), (1, .int xl1), (2, .int xl2), (3, .int xl3), (4, .int xl4)] → k5 xl1 xl2 xl3 xl4 h → W p l e ({ frames := 4, cells := 0, slots := 0, locals := 78 } : Room) s m ([.ref a0, .int xp1, .int xp2] : List Value).toArray below meth c H locs 0 0 (vx_MQ below (ql_Q D h0 (ql_rI Q)) (ql_X D h0 X) ([.ref a0, .int xp1, .int xp2] : List Value).toArray s 0 0 (ql_A h0)) (F0 m 5 ls [])) , ∀ (xl1 : Int32) (xl2 : Int32) (xl3 : Int32) (xl4 : Int32) (h : ql_H) (H : Heap) (locs : List Loc) (ls : Array Slot), ql_S D h0 s H locs h → lv_has ls 5 [(0, .ref a0), (1, .int xl1), (2, .int xl2), (3, .int xl3), (4, .int xl4)] → qw_X12_versionOn_38 a0 Q k5 xl1 xl2 xl3 xl4 h → W p l e ({ frames := 4, cells := 0, slots := 0, locals := 78 } : Room) s m ([.ref a0, .int xp1, .int xp2] : List Value).toArray below meth c H locs 0 0 (vx_MQ below (ql_Q D h0 (ql_rI Q)) (ql_X D h0 X) ([.ref a0, .int xp1, .int xp2] : List Value).toArray s 0 0 (ql_A h0)) (F0 m 38 ls []) := by
    intro k5 hk5 xl1 xl2 xl3 xl4 h H locs ls S hl w
    unfold qw_X12_versionOn_38 at w
    refine lv_iinc (v := (xl4 + (1 : Int32))) (lv' := [(4, .int (xl4 + (1 : Int32))), (0, .ref a0), (1, .int xl1), (2, .int xl2), (3, .int xl3)]) C.1.1 C.1.2.1 dX12_versionOn_38 hl (k := 4) rfl rfl (by decide) rfl (fun ls hl => ?_)
    refine lv_goto (tgt := 5) C.1.1 C.1.2.1 dX12_versionOn_41 (by decide) ?_
    exact hk5 xl1 xl2 xl3 (xl4 + (1 : Int32)) _ _ _ _ S (lv_sub hl [1, 2, 3, 4, 0] rfl) w
  have hB5 : ∀ n : Nat, ∀ (xl1 : Int32) (xl2 : Int32) (xl3 : Int32) (xl4 : Int32) (h : ql_H) (H : Heap) (locs : List Loc) (ls : Array Slot), ql_S D h0 s H locs h → lv_has ls 5 [(0, .ref a0), (1, .int xl1), (2, .int xl2), (3, .int xl3), (4, .int xl4)] → qw_X12_versionOn_5 a0 Q n xl1 xl2 xl3 xl4 h → W p l e ({ frames := 4, cells := 0, slots := 0, locals := 78 } : Room) s m ([.ref a0, .int xp1, .int xp2] : List Value).toArray below meth c H locs 0 0 (vx_MQ below (ql_Q D h0 (ql_rI Q)) (ql_X D h0 X) ([.ref a0, .int xp1, .int xp2] : List Value).toArray s 0 0 (ql_A h0)) (F0 m 5 ls []) := by
    intro n
    induction n with
    | zero => intro xl1 xl2 xl3 xl4 h H locs ls S hl w; rw [qw_X12_versionOn_5] at w; exact w.elim
    | succ n ih =>
      intro xl1 xl2 xl3 xl4 h H locs ls S hl w
      rw [qw_X12_versionOn_5] at w
      refine lv_iload C.1.1 C.1.2.1 dX12_versionOn_5 (lv_at hl 4 rfl) ?_
      refine ql_aload_n (r := (some a0)) C dX12_versionOn_7 rfl (lv_at hl 0 rfl) ?_
      refine lv_iload_n C.1.1 C.1.2.1 dX12_versionOn_8 rfl (lv_at hl 1 rfl) ?_
      refine lv_iconst (v := (4 : Int32)) C.1.1 C.1.2.1 dX12_versionOn_9 (by decide) ?_
      refine ql_VI (As := [.int xl1, .int (4 : Int32)]) (rest := [.int xl4]) C S htab hlocks hl qy_X12_of qi_X12_of qs_X12_of gw_1745 (ci := 13) rfl w (fun b w => qm_X12_of l hl9 D _ b xl1 (4 : Int32) _ _ w) rfl ⟨Nat.le_of_ble_eq_true rfl, Nat.le_of_ble_eq_true rfl⟩ ⟨rfl, rfl⟩ (by exact Nat.le_of_ble_eq_true rfl) (fun b e9 => by cases e9; rfl) dX12_versionOn_10 ⟨Nat.le_of_ble_eq_true rfl, Nat.le_of_ble_eq_true rfl⟩ ⟨Nat.le_of_ble_eq_true rfl, Nat.le_of_ble_eq_true rfl⟩ (fun x1 h H locs S w => ?_)
      refine W.cs (cells' := 0) (slots' := 0) rfl rfl ?_
      refine lv_icmp_ge (tgt := 44) C.1.1 C.1.2.1 dX12_versionOn_13 (by decide) (fun c9 => ?_) (fun c9 => ?_)
      · replace w := ql_if w c9
        refine lv_iload_n C.1.1 C.1.2.1 dX12_versionOn_44 rfl (lv_at hl 3 rfl) ?_
        exact ql_iret C S hr hlocks dX12_versionOn_45 ⟨Nat.le_of_ble_eq_true rfl, Nat.le_of_ble_eq_true rfl⟩ w
      · replace w := ql_ifn w c9
        refine ql_aload_n (r := (some a0)) C dX12_versionOn_16 rfl (lv_at hl 0 rfl) ?_
        refine lv_iload_n C.1.1 C.1.2.1 dX12_versionOn_17 rfl (lv_at hl 1 rfl) ?_
        refine lv_iconst (v := (5 : Int32)) C.1.1 C.1.2.1 dX12_versionOn_18 (by decide) ?_
        refine lv_iconst (v := (4 : Int32)) C.1.1 C.1.2.1 dX12_versionOn_19 (by decide) ?_
        refine lv_iload C.1.1 C.1.2.1 dX12_versionOn_20 (lv_at hl 4 rfl) ?_
        refine lv_imul C.1.1 C.1.2.1 dX12_versionOn_22 ?_
        refine lv_iadd C.1.1 C.1.2.1 dX12_versionOn_23 ?_
        refine ql_VI (As := [.int xl1, .int ((5 : Int32) + ((4 : Int32) * xl4))]) (rest := []) C S htab hlocks hl qy_X12_of qi_X12_of qs_X12_of gw_1745 (ci := 13) rfl w (fun b w => qm_X12_of l hl9 D _ b xl1 ((5 : Int32) + ((4 : Int32) * xl4)) _ _ w) rfl ⟨Nat.le_of_ble_eq_true rfl, Nat.le_of_ble_eq_true rfl⟩ ⟨rfl, rfl⟩ (by exact Nat.le_of_ble_eq_true rfl) (fun b e9 => by cases e9; rfl) dX12_versionOn_24 ⟨Nat.le_of_ble_eq_true rfl, Nat.le_of_ble_eq_true rfl⟩ ⟨Nat.le_of_ble_eq_true rfl, Nat.le_of_ble_eq_true rfl⟩ (fun x3 h H locs S w => ?_)
        refine W.cs (cells' := 0) (slots' := 0) rfl rfl ?_
        refine lv_iload_n C.1.1 C.1.2.1 dX12_versionOn_27 rfl (lv_at hl 2 rfl) ?_
        refine lv_icmp_gt (tgt := 38) C.1.1 C.1.2.1 dX12_versionOn_28 (by decide) (fun c9 => ?_) (fun c9 => ?_)
        · replace w := ql_if w c9
          exact hB38 (qw_X12_versionOn_5 a0 Q n) ih xl1 xl2 xl3 xl4 _ _ _ _ S (lv_sub hl [0, 1, 2, 3, 4] rfl) w
        · replace w := ql_ifn w c9
          refine lv_iconst (v := (5 : Int32)) C.1.1 C.1.2.1 dX12_versionOn_31 (by decide) ?_
          refine lv_iconst (v := (4 : Int32)) C.1.1 C.1.2.1 dX12_versionOn_32 (by decide) ?_
          refine lv_iload C.1.1 C.1.2.1 dX12_versionOn_33 (lv_at hl 4 rfl) ?_
          refine lv_imul C.1.1 C.1.2.1 dX12_versionOn_35 ?_
          refine lv_iadd C.1.1 C.1.2.1 dX12_versionOn_36 ?_
          refine lv_istore_n (lv' := [(3, .int ((5 : Int32) + ((4 : Int32) * xl4))), (0, .ref a0), (1, .int xl1), (2, .int xl2), (4, .int xl4)]) C.1.1 C.1.2.1 dX12_versionOn_37 rfl hl (by decide) rfl (fun ls hl => ?_)
          exact hB38 (qw_X12_versionOn_5 a0 Q n) ih xl1 xl2 ((5 : Int32) + ((4 : Int32) * xl4)) xl4 _ _ _ _ S (lv_sub hl [1, 2, 3, 0, 4] rfl) w
  unfold qw_X12_versionOn at w
  refine lv_iconst (v := (-1 : Int32)) C.1.1 C.1.2.1 dX12_versionOn_0 (by decide) ?_
  refine lv_istore_n (lv' := [(3, .int (-1 : Int32)), (0, .ref a0), (1, .int xp1), (2, .int xp2)]) C.1.1 C.1.2.1 dX12_versionOn_1 rfl hl (by decide) rfl (fun ls hl => ?_)
  refine lv_iconst (v := (0 : Int32)) C.1.1 C.1.2.1 dX12_versionOn_2 (by decide) ?_
  refine lv_istore (lv' := [(4, .int (0 : Int32)), (3, .int (-1 : Int32)), (0, .ref a0), (1, .int xp1), (2, .int xp2)]) C.1.1 C.1.2.1 dX12_versionOn_3 hl (by decide) rfl (fun ls hl => ?_)
  exact hB5 ql_FU xp1 xp2 (-1 : Int32) (0 : Int32) _ _ _ _ S (lv_sub hl [2, 3, 4, 1, 0] rfl) w
def qw_X12_lastVersion (a0 : Nat) (xp1 : Int32) (h : ql_H) (Q : Int32 → ql_H → Prop) : Prop :=
ql_rv h (some a0) 13 fun b1 => qw_X12_of b1 xp1 (4 : Int32) h (fun x1 h =>
Q (((5 : Int32) + ((4 : Int32) * x1)) - (4 : Int32)) h)
set_option maxHeartbeats 4000000 in
set_option maxRecDepth 100000 in
theorem qm_X12_lastVersion (l : Launch) (hl9 : l.stackTraces = false) (D : ql_D) (h0 : ql_H) (a0 : Nat) (xp1 : Int32) (Q : Int32 → ql_H → Prop) (X : String → ql_H → Prop) (w : qw_X12_lastVersion a0 xp1 h0 Q) : ql_M D l yX12_lastVersion cX12_lastVersion 2 (some .int) ({ frames := 4, cells := 0, slots := 0, locals := 78 } : Room) h0 [.ref a0, .int xp1] (ql_rI Q) X 0 0 := by
  refine ql_ofW (by decide) (Nat.le_of_ble_eq_true rfl) ?_
  intro p e s m below meth c ls C hr hlocks hnm htab S hl
  have hl : lv_has ls 2 [(0, .ref a0), (1, .int xp1)] := hl
  unfold qw_X12_lastVersion at w
  refine lv_iconst (v := (5 : Int32)) C.1.1 C.1.2.1 dX12_lastVersion_0 (by decide) ?_
  refine lv_iconst (v := (4 : Int32)) C.1.1 C.1.2.1 dX12_lastVersion_1 (by decide) ?_
  refine ql_aload_n (r := (some a0)) C dX12_lastVersion_2 rfl (lv_at hl 0 rfl) ?_
  refine lv_iload_n C.1.1 C.1.2.1 dX12_lastVersion_3 rfl (lv_at hl 1 rfl) ?_
  refine lv_iconst (v := (4 : Int32)) C.1.1 C.1.2.1 dX12_lastVersion_4 (by decide) ?_
  refine ql_VI (As := [.int xp1, .int (4 : Int32)]) (rest := [.int (4 : Int32), .int (5 : Int32)]) C S htab hlocks hl qy_X12_of qi_X12_of qs_X12_of gw_1745 (ci := 13) rfl w (fun b w => qm_X12_of l hl9 D _ b xp1 (4 : Int32) _ _ w) rfl ⟨Nat.le_of_ble_eq_true rfl, Nat.le_of_ble_eq_true rfl⟩ ⟨rfl, rfl⟩ (by exact Nat.le_of_ble_eq_true rfl) (fun b e9 => by cases e9; rfl) dX12_lastVersion_5 ⟨Nat.le_of_ble_eq_true rfl, Nat.le_of_ble_eq_true rfl⟩ ⟨Nat.le_of_ble_eq_true rfl, Nat.le_of_ble_eq_true rfl⟩ (fun x1 h H locs S w => ?_)
  refine W.cs (cells' := 0) (slots' := 0) rfl rfl ?_
  refine lv_imul C.1.1 C.1.2.1 dX12_lastVersion_8 ?_
  refine lv_iadd C.1.1 C.1.2.1 dX12_lastVersion_9 ?_
  refine lv_iconst (v := (4 : Int32)) C.1.1 C.1.2.1 dX12_lastVersion_10 (by decide) ?_
  refine lv_isub C.1.1 C.1.2.1 dX12_lastVersion_11 ?_
  exact ql_iret C S hr hlocks dX12_lastVersion_12 ⟨Nat.le_of_ble_eq_true rfl, Nat.le_of_ble_eq_true rfl⟩ w
def qw_X12_note (a0 : Nat) (xp1 : Int32) (xp2 : Int32) (xp3 : Int32) (h : ql_H) (Q : Int32 → ql_H → Prop) : Prop :=
¬ (6 : Int32) = 0 ∧
ql_rv h (some a0) 13 fun b1 => qw_X12_of b1 xp1 ((xp2 + (2 : Int32)) + (xp3 / (6 : Int32))) h (fun x1 h =>
¬ (6 : Int32) = 0 ∧
Q ((97 : Int32) + ((x1 >>> (((3 : Int32) * (xp3 - xp3 / (6 : Int32) * (6 : Int32))) &&& 31)) &&& (7 : Int32))) h)
set_option maxHeartbeats 4000000 in
set_option maxRecDepth 100000 in
theorem qm_X12_note (l : Launch) (hl9 : l.stackTraces = false) (D : ql_D) (h0 : ql_H) (a0 : Nat) (xp1 : Int32) (xp2 : Int32) (xp3 : Int32) (Q : Int32 → ql_H → Prop) (X : String → ql_H → Prop) (w : qw_X12_note a0 xp1 xp2 xp3 h0 Q) : ql_M D l yX12_note cX12_note 4 (some .int) ({ frames := 4, cells := 0, slots := 0, locals := 78 } : Room) h0 [.ref a0, .int xp1, .int xp2, .int xp3] (ql_rI Q) X 0 0 := by
  refine ql_ofW (by decide) (Nat.le_of_ble_eq_true rfl) ?_
  intro p e s m below meth c ls C hr hlocks hnm htab S hl
  have hl : lv_has ls 4 [(0, .ref a0), (1, .int xp1), (2, .int xp2), (3, .int xp3)] := hl
  unfold qw_X12_note at w
  refine lv_bipush (v := (97 : Int32)) C.1.1 C.1.2.1 dX12_note_0 (by decide) ?_
  refine ql_aload_n (r := (some a0)) C dX12_note_2 rfl (lv_at hl 0 rfl) ?_
  refine lv_iload_n C.1.1 C.1.2.1 dX12_note_3 rfl (lv_at hl 1 rfl) ?_
  refine lv_iload_n C.1.1 C.1.2.1 dX12_note_4 rfl (lv_at hl 2 rfl) ?_
  refine lv_iconst (v := (2 : Int32)) C.1.1 C.1.2.1 dX12_note_5 (by decide) ?_
  refine lv_iadd C.1.1 C.1.2.1 dX12_note_6 ?_
  refine lv_iload_n C.1.1 C.1.2.1 dX12_note_7 rfl (lv_at hl 3 rfl) ?_
  refine lv_bipush (v := (6 : Int32)) C.1.1 C.1.2.1 dX12_note_8 (by decide) ?_
  refine lv_idiv C.1.1 C.1.2.1 dX12_note_10 w.1 ?_
  replace w := w.2
  refine lv_iadd C.1.1 C.1.2.1 dX12_note_11 ?_
  refine ql_VI (As := [.int xp1, .int ((xp2 + (2 : Int32)) + (xp3 / (6 : Int32)))]) (rest := [.int (97 : Int32)]) C S htab hlocks hl qy_X12_of qi_X12_of qs_X12_of gw_1745 (ci := 13) rfl w (fun b w => qm_X12_of l hl9 D _ b xp1 ((xp2 + (2 : Int32)) + (xp3 / (6 : Int32))) _ _ w) rfl ⟨Nat.le_of_ble_eq_true rfl, Nat.le_of_ble_eq_true rfl⟩ ⟨rfl, rfl⟩ (by exact Nat.le_of_ble_eq_true rfl) (fun b e9 => by cases e9; rfl) dX12_note_12 ⟨Nat.le_of_ble_eq_true rfl, Nat.le_of_ble_eq_true rfl⟩ ⟨Nat.le_of_ble_eq_true rfl, Nat.le_of_ble_eq_true rfl⟩ (fun x1 h H locs S w => ?_)
  refine W.cs (cells' := 0) (slots' := 0) rfl rfl ?_
  refine lv_iconst (v := (3 : Int32)) C.1.1 C.1.2.1 dX12_note_15 (by decide) ?_
  refine lv_iload_n C.1.1 C.1.2.1 dX12_note_16 rfl (lv_at hl 3 rfl) ?_
  refine lv_bipush (v := (6 : Int32)) C.1.1 C.1.2.1 dX12_note_17 (by decide) ?_
  refine lv_irem C.1.1 C.1.2.1 dX12_note_19 w.1 ?_
  replace w := w.2
  refine lv_imul C.1.1 C.1.2.1 dX12_note_20 ?_
  refine lv_ishr C.1.1 C.1.2.1 dX12_note_21 ?_
  refine lv_bipush (v := (7 : Int32)) C.1.1 C.1.2.1 dX12_note_22 (by decide) ?_
  refine lv_iand C.1.1 C.1.2.1 dX12_note_24 ?_
  refine lv_iadd C.1.1 C.1.2.1 dX12_note_25 ?_
  exact ql_iret C S hr hlocks dX12_note_26 ⟨Nat.le_of_ble_eq_true rfl, Nat.le_of_ble_eq_true rfl⟩ w
def qw_X12_puts (a0 : Nat) (xp1 : Int32) (xp2 : Int32) (xp3 : Int32) (xp4 : Int32) (h : ql_H) (Q : ql_H → Prop) : Prop :=
¬ (6 : Int32) = 0 ∧
¬ (6 : Int32) = 0 ∧
ql_rv h (some a0) 13 fun b1 => qw_X12_of b1 xp1 ((xp2 + (2 : Int32)) + (xp3 / (6 : Int32))) h (fun x1 h =>
ql_rv h (some a0) 13 fun b2 => qw_X12_lays b2 xp1 ((xp2 + (2 : Int32)) + (xp3 / (6 : Int32))) ((x1 &&& (((7 : Int32) <<< (((3 : Int32) * (xp3 - xp3 / (6 : Int32) * (6 : Int32))) &&& 31)) ^^^ (-1 : Int32))) ||| ((xp4 - (97 : Int32)) <<< (((3 : Int32) * (xp3 - xp3 / (6 : Int32) * (6 : Int32))) &&& 31))) h (fun h =>
Q h))
set_option maxHeartbeats 4000000 in
set_option maxRecDepth 100000 in
theorem qm_X12_puts (l : Launch) (hl9 : l.stackTraces = false) (D : ql_D) (h0 : ql_H) (a0 : Nat) (xp1 : Int32) (xp2 : Int32) (xp3 : Int32) (xp4 : Int32) (Q : ql_H → Prop) (X : String → ql_H → Prop) (w : qw_X12_puts a0 xp1 xp2 xp3 xp4 h0 Q) : ql_M D l yX12_puts cX12_puts 7 none ({ frames := 4, cells := 0, slots := 0, locals := 79 } : Room) h0 [.ref a0, .int xp1, .int xp2, .int xp3, .int xp4] (ql_rV Q) X 0 0 := by
  refine ql_ofW (by decide) (Nat.le_of_ble_eq_true rfl) ?_
  intro p e s m below meth c ls C hr hlocks hnm htab S hl
  have hl : lv_has ls 7 [(0, .ref a0), (1, .int xp1), (2, .int xp2), (3, .int xp3), (4, .int xp4)] := hl
  unfold qw_X12_puts at w
  refine lv_iload_n C.1.1 C.1.2.1 dX12_puts_0 rfl (lv_at hl 2 rfl) ?_
  refine lv_iconst (v := (2 : Int32)) C.1.1 C.1.2.1 dX12_puts_1 (by decide) ?_
  refine lv_iadd C.1.1 C.1.2.1 dX12_puts_2 ?_
  refine lv_iload_n C.1.1 C.1.2.1 dX12_puts_3 rfl (lv_at hl 3 rfl) ?_
  refine lv_bipush (v := (6 : Int32)) C.1.1 C.1.2.1 dX12_puts_4 (by decide) ?_
  refine lv_idiv C.1.1 C.1.2.1 dX12_puts_6 w.1 ?_
  replace w := w.2
  refine lv_iadd C.1.1 C.1.2.1 dX12_puts_7 ?_
  refine lv_istore (lv' := [(5, .int ((xp2 + (2 : Int32)) + (xp3 / (6 : Int32)))), (0, .ref a0), (1, .int xp1), (2, .int xp2), (3, .int xp3), (4, .int xp4)]) C.1.1 C.1.2.1 dX12_puts_8 hl (by decide) rfl (fun ls hl => ?_)
  refine lv_iconst (v := (3 : Int32)) C.1.1 C.1.2.1 dX12_puts_10 (by decide) ?_
  refine lv_iload_n C.1.1 C.1.2.1 dX12_puts_11 rfl (lv_at hl 4 rfl) ?_
  refine lv_bipush (v := (6 : Int32)) C.1.1 C.1.2.1 dX12_puts_12 (by decide) ?_
  refine lv_irem C.1.1 C.1.2.1 dX12_puts_14 w.1 ?_
  replace w := w.2
  refine lv_imul C.1.1 C.1.2.1 dX12_puts_15 ?_
  refine lv_istore (lv' := [(6, .int ((3 : Int32) * (xp3 - xp3 / (6 : Int32) * (6 : Int32)))), (5, .int ((xp2 + (2 : Int32)) + (xp3 / (6 : Int32)))), (0, .ref a0), (1, .int xp1), (2, .int xp2), (3, .int xp3), (4, .int xp4)]) C.1.1 C.1.2.1 dX12_puts_16 hl (by decide) rfl (fun ls hl => ?_)
  refine ql_aload_n (r := (some a0)) C dX12_puts_18 rfl (lv_at hl 2 rfl) ?_
  refine lv_iload_n C.1.1 C.1.2.1 dX12_puts_19 rfl (lv_at hl 3 rfl) ?_
  refine lv_iload C.1.1 C.1.2.1 dX12_puts_20 (lv_at hl 1 rfl) ?_
  refine ql_aload_n (r := (some a0)) C dX12_puts_22 rfl (lv_at hl 2 rfl) ?_
  refine lv_iload_n C.1.1 C.1.2.1 dX12_puts_23 rfl (lv_at hl 3 rfl) ?_
  refine lv_iload C.1.1 C.1.2.1 dX12_puts_24 (lv_at hl 1 rfl) ?_
  refine ql_VI (As := [.int xp1, .int ((xp2 + (2 : Int32)) + (xp3 / (6 : Int32)))]) (rest := [.int ((xp2 + (2 : Int32)) + (xp3 / (6 : Int32))), .int xp1, .ref a0]) C S htab hlocks hl qy_X12_of qi_X12_of qs_X12_of gw_1745 (ci := 13) rfl w (fun b w => qm_X12_of l hl9 D _ b xp1 ((xp2 + (2 : Int32)) + (xp3 / (6 : Int32))) _ _ w) rfl ⟨Nat.le_of_ble_eq_true rfl, Nat.le_of_ble_eq_true rfl⟩ ⟨rfl, rfl⟩ (by exact Nat.le_of_ble_eq_true rfl) (fun b e9 => by cases e9; rfl) dX12_puts_26 ⟨Nat.le_of_ble_eq_true rfl, Nat.le_of_ble_eq_true rfl⟩ ⟨Nat.le_of_ble_eq_true rfl, Nat.le_of_ble_eq_true rfl⟩ (fun x1 h H locs S w => ?_)
  refine W.cs (cells' := 0) (slots' := 0) rfl rfl ?_
  refine lv_bipush (v := (7 : Int32)) C.1.1 C.1.2.1 dX12_puts_29 (by decide) ?_
  refine lv_iload C.1.1 C.1.2.1 dX12_puts_31 (lv_at hl 0 rfl) ?_
  refine lv_ishl C.1.1 C.1.2.1 dX12_puts_33 ?_
  refine lv_iconst (v := (-1 : Int32)) C.1.1 C.1.2.1 dX12_puts_34 (by decide) ?_
  refine lv_ixor C.1.1 C.1.2.1 dX12_puts_35 ?_
  refine lv_iand C.1.1 C.1.2.1 dX12_puts_36 ?_
  refine lv_iload C.1.1 C.1.2.1 dX12_puts_37 (lv_at hl 6 rfl) ?_
  refine lv_bipush (v := (97 : Int32)) C.1.1 C.1.2.1 dX12_puts_39 (by decide) ?_
  refine lv_isub C.1.1 C.1.2.1 dX12_puts_41 ?_
  refine lv_iload C.1.1 C.1.2.1 dX12_puts_42 (lv_at hl 0 rfl) ?_
  refine lv_ishl C.1.1 C.1.2.1 dX12_puts_44 ?_
  refine lv_ior C.1.1 C.1.2.1 dX12_puts_45 ?_
  refine ql_VV (As := [.int xp1, .int ((xp2 + (2 : Int32)) + (xp3 / (6 : Int32))), .int ((x1 &&& (((7 : Int32) <<< (((3 : Int32) * (xp3 - xp3 / (6 : Int32) * (6 : Int32))) &&& 31)) ^^^ (-1 : Int32))) ||| ((xp4 - (97 : Int32)) <<< (((3 : Int32) * (xp3 - xp3 / (6 : Int32) * (6 : Int32))) &&& 31)))]) (rest := []) C S htab hlocks hl qy_X12_lays qi_X12_lays qs_X12_lays gw_1760 (ci := 13) rfl w (fun b w => qm_X12_lays l hl9 D _ b xp1 ((xp2 + (2 : Int32)) + (xp3 / (6 : Int32))) ((x1 &&& (((7 : Int32) <<< (((3 : Int32) * (xp3 - xp3 / (6 : Int32) * (6 : Int32))) &&& 31)) ^^^ (-1 : Int32))) ||| ((xp4 - (97 : Int32)) <<< (((3 : Int32) * (xp3 - xp3 / (6 : Int32) * (6 : Int32))) &&& 31))) _ _ w) rfl ⟨Nat.le_of_ble_eq_true rfl, Nat.le_of_ble_eq_true rfl⟩ ⟨rfl, rfl⟩ (by exact Nat.le_of_ble_eq_true rfl) (fun b e9 => by cases e9; rfl) dX12_puts_46 ⟨Nat.le_of_ble_eq_true rfl, Nat.le_of_ble_eq_true rfl⟩ ⟨Nat.le_of_ble_eq_true rfl, Nat.le_of_ble_eq_true rfl⟩ (fun h H locs S w => ?_)
  refine W.cs (cells' := 0) (slots' := 0) rfl rfl ?_
  exact ql_vret C S hr hlocks dX12_puts_49 ⟨Nat.le_of_ble_eq_true rfl, Nat.le_of_ble_eq_true rfl⟩ w
def qw_X12_addClause_86 (a0 : Nat) (Q : Int32 → ql_H → Prop) : Nat → Int32 → Int32 → Int32 → Int32 → ql_H → Prop
  | 0, _, _, _, _, _ => False
  | n + 1, xl1, xl2, xl3, xl4, h =>
    if (42 : Int32) ≤ xl4 then (ql_gR h (some a0) 13 0 fun r1 =>
    ql_lI h r1 0 (1 : Int32) fun x2 =>
    ql_rv h (some a0) 13 fun b2 => qw_X12_lays b2 xl3 (0 : Int32) x2 h (fun h =>
    ql_rv h (some a0) 13 fun b3 => qw_X12_lays b3 xl3 (1 : Int32) xl1 h (fun h =>
    ql_gR h (some a0) 13 0 fun r5 =>
    ql_lI h r5 0 (2 : Int32) fun x6 =>
    ql_rv h (some a0) 13 fun b6 => qw_X12_lays b6 xl3 (2 : Int32) x6 h (fun h =>
    ql_rv h (some a0) 13 fun b7 => qw_X12_lays b7 xl3 (3 : Int32) (-1 : Int32) h (fun h =>
    ql_rv h (some a0) 13 fun b8 => qw_X12_lays b8 xl3 (4 : Int32) (1 : Int32) h (fun h =>
    ql_gR h (some a0) 13 0 fun r10 =>
    ql_lI h r10 0 (2 : Int32) fun x11 =>
    ql_rv h (some a0) 13 fun b11 => qw_X12_lays b11 xl3 (5 : Int32) x11 h (fun h =>
    ql_rv h (some a0) 13 fun b12 => qw_X12_lays b12 xl3 (6 : Int32) (1 : Int32) h (fun h =>
    ql_rv h (some a0) 13 fun b13 => qw_X12_puts b13 xl3 (5 : Int32) (0 : Int32) xl2 h (fun h =>
    ql_gR h (some a0) 13 0 fun r15 =>
    ql_lI h r15 0 (1 : Int32) fun x16 =>
    ql_sI h r15 0 (1 : Int32) (x16 + (1 : Int32)) fun h =>
    ql_gR h (some a0) 13 0 fun r17 =>
    ql_lI h r17 0 (1 : Int32) fun x18 =>
    Q (x18 - (1 : Int32)) h))))))))) else (ql_rv h (some a0) 13 fun b18 => qw_X12_lays b18 xl3 xl4 (0 : Int32) h (fun h =>
    qw_X12_addClause_86 a0 Q n xl1 xl2 xl3 (xl4 + (1 : Int32)) h))
def qw_X12_addClause_50 (a0 : Nat) (Q : Int32 → ql_H → Prop) (xl1 : Int32) (xl2 : Int32) (rs0 : Option Nat) (xs1 : Int32) (h : ql_H) : Prop :=
ql_rv h rs0 13 fun b20 => qw_X12_fails b20 xs1 h (fun x20 h =>
if x20 = 0 then (ql_gR h (some a0) 13 0 fun r22 =>
ql_rv h (some a0) 13 fun b22 => qw_X12_keeps b22 r22 h (fun h =>
ql_gR h (some a0) 13 0 fun r24 =>
ql_lI h r24 0 (0 : Int32) fun x25 =>
ql_gR h (some a0) 13 0 fun r26 =>
ql_lI h r26 0 (0 : Int32) fun x27 =>
ql_sI h r26 0 (0 : Int32) (x27 + (1 : Int32)) fun h =>
qw_X12_addClause_86 a0 Q ql_FU xl1 xl2 x25 (0 : Int32) h)) else (Q (0 : Int32) h))
def qw_X12_addClause_18 (a0 : Nat) (Q : Int32 → ql_H → Prop) (xl1 : Int32) (xl2 : Int32) (rs0 : Option Nat) (h : ql_H) : Prop :=
qw_X12_addClause_50 a0 Q xl1 xl2 rs0 (1 : Int32) h
def qw_X12_addClause (a0 : Nat) (xp1 : Int32) (xp2 : Int32) (h : ql_H) (Q : Int32 → ql_H → Prop) : Prop :=
qw_X12_in xp1 (1 : Int32) (99 : Int32) h (fun x28 h =>
if x28 = 0 then (qw_X12_addClause_18 a0 Q xp1 xp2 (some a0) h) else (qw_X12_isNote xp2 h (fun x29 h =>
if x29 = 0 then (qw_X12_addClause_18 a0 Q xp1 xp2 (some a0) h) else (ql_gR h (some a0) 13 0 fun r30 =>
ql_lI h r30 0 (0 : Int32) fun x31 =>
if x31 = (16 : Int32) then (qw_X12_addClause_50 a0 Q xp1 xp2 (some a0) (2 : Int32) h) else (ql_rv h (some a0) 13 fun b32 => qw_X12_withSection b32 xp1 h (fun x32 h =>
if x32 < 0 then (qw_X12_addClause_50 a0 Q xp1 xp2 (some a0) (0 : Int32) h) else (qw_X12_addClause_50 a0 Q xp1 xp2 (some a0) (3 : Int32) h)))))))
set_option maxHeartbeats 4000000 in
set_option maxRecDepth 100000 in
theorem qm_X12_addClause (l : Launch) (hl9 : l.stackTraces = false) (D : ql_D) (h0 : ql_H) (a0 : Nat) (xp1 : Int32) (xp2 : Int32) (Q : Int32 → ql_H → Prop) (X : String → ql_H → Prop) (w : qw_X12_addClause a0 xp1 xp2 h0 Q) : ql_M D l yX12_addClause cX12_addClause 5 (some .int) ({ frames := 6, cells := 0, slots := 0, locals := 113 } : Room) h0 [.ref a0, .int xp1, .int xp2] (ql_rI Q) X 0 0 := by
  refine ql_ofW (by decide) (Nat.le_of_ble_eq_true rfl) ?_
  intro p e s m below meth c ls C hr hlocks hnm htab S hl
  have hl : lv_has ls 5 [(0, .ref a0), (1, .int xp1), (2, .int xp2)] := hl
  have hB86 : ∀ n : Nat, ∀ (xl1 : Int32) (xl2 : Int32) (xl3 : Int32) (xl4 : Int32) (h : ql_H) (H : Heap) (locs : List Loc) (ls : Array Slot), ql_S D h0 s H locs h → lv_has ls 5 [(0, .ref a0), (1, .int xl1), (2, .int xl2), (3, .int xl3), (4, .int xl4)] → qw_X12_addClause_86 a0 Q n xl1 xl2 xl3 xl4 h → W p l e ({ frames := 6, cells := 0, slots := 0, locals := 113 } : Room) s m ([.ref a0, .int xp1, .int xp2] : List Value).toArray below meth c H locs 0 0 (vx_MQ below (ql_Q D h0 (ql_rI Q)) (ql_X D h0 X) ([.ref a0, .int xp1, .int xp2] : List Value).toArray s 0 0 (ql_A h0)) (F0 m 86 ls []) := by
    intro n
    induction n with
    | zero => intro xl1 xl2 xl3 xl4 h H locs ls S hl w; rw [qw_X12_addClause_86] at w; exact w.elim
    | succ n ih =>
      intro xl1 xl2 xl3 xl4 h H locs ls S hl w
      rw [qw_X12_addClause_86] at w
      refine lv_iload C.1.1 C.1.2.1 dX12_addClause_86 (lv_at hl 4 rfl) ?_
      refine lv_bipush (v := (42 : Int32)) C.1.1 C.1.2.1 dX12_addClause_88 (by decide) ?_
      refine lv_icmp_ge (tgt := 107) C.1.1 C.1.2.1 dX12_addClause_90 (by decide) (fun c9 => ?_) (fun c9 => ?_)
      · replace w := ql_if w c9
        refine ql_aload_n (r := (some a0)) C dX12_addClause_107 rfl (lv_at hl 0 rfl) ?_
        refine lv_iload_n C.1.1 C.1.2.1 dX12_addClause_108 rfl (lv_at hl 3 rfl) ?_
        refine lv_iconst (v := (0 : Int32)) C.1.1 C.1.2.1 dX12_addClause_109 (by decide) ?_
        refine ql_aload_n (r := (some a0)) C dX12_addClause_110 rfl (lv_at hl 0 rfl) ?_
        refine ql_getR C S qf_13_0 gw_1668 dX12_addClause_111 w (fun r1 w => ?_)
        refine lv_iconst (v := (1 : Int32)) C.1.1 C.1.2.1 dX12_addClause_114 (by decide) ?_
        refine ql_iald C S dX12_addClause_115 w (fun x2 w => ?_)
        refine ql_VV (As := [.int xl3, .int (0 : Int32), .int x2]) (rest := []) C S htab hlocks hl qy_X12_lays qi_X12_lays qs_X12_lays gw_1760 (ci := 13) rfl w (fun b w => qm_X12_lays l hl9 D _ b xl3 (0 : Int32) x2 _ _ w) rfl ⟨Nat.le_of_ble_eq_true rfl, Nat.le_of_ble_eq_true rfl⟩ ⟨rfl, rfl⟩ (by exact Nat.le_of_ble_eq_true rfl) (fun b e9 => by cases e9; rfl) dX12_addClause_116 ⟨Nat.le_of_ble_eq_true rfl, Nat.le_of_ble_eq_true rfl⟩ ⟨Nat.le_of_ble_eq_true rfl, Nat.le_of_ble_eq_true rfl⟩ (fun h H locs S w => ?_)
        refine W.cs (cells' := 0) (slots' := 0) rfl rfl ?_
        refine ql_aload_n (r := (some a0)) C dX12_addClause_119 rfl (lv_at hl 0 rfl) ?_
        refine lv_iload_n C.1.1 C.1.2.1 dX12_addClause_120 rfl (lv_at hl 3 rfl) ?_
        refine lv_iconst (v := (1 : Int32)) C.1.1 C.1.2.1 dX12_addClause_121 (by decide) ?_
        refine lv_iload_n C.1.1 C.1.2.1 dX12_addClause_122 rfl (lv_at hl 1 rfl) ?_
        refine ql_VV (As := [.int xl3, .int (1 : Int32), .int xl1]) (rest := []) C S htab hlocks hl qy_X12_lays qi_X12_lays qs_X12_lays gw_1760 (ci := 13) rfl w (fun b w => qm_X12_lays l hl9 D _ b xl3 (1 : Int32) xl1 _ _ w) rfl ⟨Nat.le_of_ble_eq_true rfl, Nat.le_of_ble_eq_true rfl⟩ ⟨rfl, rfl⟩ (by exact Nat.le_of_ble_eq_true rfl) (fun b e9 => by cases e9; rfl) dX12_addClause_123 ⟨Nat.le_of_ble_eq_true rfl, Nat.le_of_ble_eq_true rfl⟩ ⟨Nat.le_of_ble_eq_true rfl, Nat.le_of_ble_eq_true rfl⟩ (fun h H locs S w => ?_)
        refine W.cs (cells' := 0) (slots' := 0) rfl rfl ?_
        refine ql_aload_n (r := (some a0)) C dX12_addClause_126 rfl (lv_at hl 0 rfl) ?_
        refine lv_iload_n C.1.1 C.1.2.1 dX12_addClause_127 rfl (lv_at hl 3 rfl) ?_
        refine lv_iconst (v := (2 : Int32)) C.1.1 C.1.2.1 dX12_addClause_128 (by decide) ?_
        refine ql_aload_n (r := (some a0)) C dX12_addClause_129 rfl (lv_at hl 0 rfl) ?_
        refine ql_getR C S qf_13_0 gw_1668 dX12_addClause_130 w (fun r5 w => ?_)
        refine lv_iconst (v := (2 : Int32)) C.1.1 C.1.2.1 dX12_addClause_133 (by decide) ?_
        refine ql_iald C S dX12_addClause_134 w (fun x6 w => ?_)
        refine ql_VV (As := [.int xl3, .int (2 : Int32), .int x6]) (rest := []) C S htab hlocks hl qy_X12_lays qi_X12_lays qs_X12_lays gw_1760 (ci := 13) rfl w (fun b w => qm_X12_lays l hl9 D _ b xl3 (2 : Int32) x6 _ _ w) rfl ⟨Nat.le_of_ble_eq_true rfl, Nat.le_of_ble_eq_true rfl⟩ ⟨rfl, rfl⟩ (by exact Nat.le_of_ble_eq_true rfl) (fun b e9 => by cases e9; rfl) dX12_addClause_135 ⟨Nat.le_of_ble_eq_true rfl, Nat.le_of_ble_eq_true rfl⟩ ⟨Nat.le_of_ble_eq_true rfl, Nat.le_of_ble_eq_true rfl⟩ (fun h H locs S w => ?_)
        refine W.cs (cells' := 0) (slots' := 0) rfl rfl ?_
        refine ql_aload_n (r := (some a0)) C dX12_addClause_138 rfl (lv_at hl 0 rfl) ?_
        refine lv_iload_n C.1.1 C.1.2.1 dX12_addClause_139 rfl (lv_at hl 3 rfl) ?_
        refine lv_iconst (v := (3 : Int32)) C.1.1 C.1.2.1 dX12_addClause_140 (by decide) ?_
        refine lv_iconst (v := (-1 : Int32)) C.1.1 C.1.2.1 dX12_addClause_141 (by decide) ?_
        refine ql_VV (As := [.int xl3, .int (3 : Int32), .int (-1 : Int32)]) (rest := []) C S htab hlocks hl qy_X12_lays qi_X12_lays qs_X12_lays gw_1760 (ci := 13) rfl w (fun b w => qm_X12_lays l hl9 D _ b xl3 (3 : Int32) (-1 : Int32) _ _ w) rfl ⟨Nat.le_of_ble_eq_true rfl, Nat.le_of_ble_eq_true rfl⟩ ⟨rfl, rfl⟩ (by exact Nat.le_of_ble_eq_true rfl) (fun b e9 => by cases e9; rfl) dX12_addClause_142 ⟨Nat.le_of_ble_eq_true rfl, Nat.le_of_ble_eq_true rfl⟩ ⟨Nat.le_of_ble_eq_true rfl, Nat.le_of_ble_eq_true rfl⟩ (fun h H locs S w => ?_)
        refine W.cs (cells' := 0) (slots' := 0) rfl rfl ?_
        refine ql_aload_n (r := (some a0)) C dX12_addClause_145 rfl (lv_at hl 0 rfl) ?_
        refine lv_iload_n C.1.1 C.1.2.1 dX12_addClause_146 rfl (lv_at hl 3 rfl) ?_
        refine lv_iconst (v := (4 : Int32)) C.1.1 C.1.2.1 dX12_addClause_147 (by decide) ?_
        refine lv_iconst (v := (1 : Int32)) C.1.1 C.1.2.1 dX12_addClause_148 (by decide) ?_
        refine ql_VV (As := [.int xl3, .int (4 : Int32), .int (1 : Int32)]) (rest := []) C S htab hlocks hl qy_X12_lays qi_X12_lays qs_X12_lays gw_1760 (ci := 13) rfl w (fun b w => qm_X12_lays l hl9 D _ b xl3 (4 : Int32) (1 : Int32) _ _ w) rfl ⟨Nat.le_of_ble_eq_true rfl, Nat.le_of_ble_eq_true rfl⟩ ⟨rfl, rfl⟩ (by exact Nat.le_of_ble_eq_true rfl) (fun b e9 => by cases e9; rfl) dX12_addClause_149 ⟨Nat.le_of_ble_eq_true rfl, Nat.le_of_ble_eq_true rfl⟩ ⟨Nat.le_of_ble_eq_true rfl, Nat.le_of_ble_eq_true rfl⟩ (fun h H locs S w => ?_)
        refine W.cs (cells' := 0) (slots' := 0) rfl rfl ?_
        refine ql_aload_n (r := (some a0)) C dX12_addClause_152 rfl (lv_at hl 0 rfl) ?_
        refine lv_iload_n C.1.1 C.1.2.1 dX12_addClause_153 rfl (lv_at hl 3 rfl) ?_
        refine lv_iconst (v := (5 : Int32)) C.1.1 C.1.2.1 dX12_addClause_154 (by decide) ?_
        refine ql_aload_n (r := (some a0)) C dX12_addClause_155 rfl (lv_at hl 0 rfl) ?_
        refine ql_getR C S qf_13_0 gw_1668 dX12_addClause_156 w (fun r10 w => ?_)
        refine lv_iconst (v := (2 : Int32)) C.1.1 C.1.2.1 dX12_addClause_159 (by decide) ?_
        refine ql_iald C S dX12_addClause_160 w (fun x11 w => ?_)
        refine ql_VV (As := [.int xl3, .int (5 : Int32), .int x11]) (rest := []) C S htab hlocks hl qy_X12_lays qi_X12_lays qs_X12_lays gw_1760 (ci := 13) rfl w (fun b w => qm_X12_lays l hl9 D _ b xl3 (5 : Int32) x11 _ _ w) rfl ⟨Nat.le_of_ble_eq_true rfl, Nat.le_of_ble_eq_true rfl⟩ ⟨rfl, rfl⟩ (by exact Nat.le_of_ble_eq_true rfl) (fun b e9 => by cases e9; rfl) dX12_addClause_161 ⟨Nat.le_of_ble_eq_true rfl, Nat.le_of_ble_eq_true rfl⟩ ⟨Nat.le_of_ble_eq_true rfl, Nat.le_of_ble_eq_true rfl⟩ (fun h H locs S w => ?_)
        refine W.cs (cells' := 0) (slots' := 0) rfl rfl ?_
        refine ql_aload_n (r := (some a0)) C dX12_addClause_164 rfl (lv_at hl 0 rfl) ?_
        refine lv_iload_n C.1.1 C.1.2.1 dX12_addClause_165 rfl (lv_at hl 3 rfl) ?_
        refine lv_bipush (v := (6 : Int32)) C.1.1 C.1.2.1 dX12_addClause_166 (by decide) ?_
        refine lv_iconst (v := (1 : Int32)) C.1.1 C.1.2.1 dX12_addClause_168 (by decide) ?_
        refine ql_VV (As := [.int xl3, .int (6 : Int32), .int (1 : Int32)]) (rest := []) C S htab hlocks hl qy_X12_lays qi_X12_lays qs_X12_lays gw_1760 (ci := 13) rfl w (fun b w => qm_X12_lays l hl9 D _ b xl3 (6 : Int32) (1 : Int32) _ _ w) rfl ⟨Nat.le_of_ble_eq_true rfl, Nat.le_of_ble_eq_true rfl⟩ ⟨rfl, rfl⟩ (by exact Nat.le_of_ble_eq_true rfl) (fun b e9 => by cases e9; rfl) dX12_addClause_169 ⟨Nat.le_of_ble_eq_true rfl, Nat.le_of_ble_eq_true rfl⟩ ⟨Nat.le_of_ble_eq_true rfl, Nat.le_of_ble_eq_true rfl⟩ (fun h H locs S w => ?_)
        refine W.cs (cells' := 0) (slots' := 0) rfl rfl ?_
        refine ql_aload_n (r := (some a0)) C dX12_addClause_172 rfl (lv_at hl 0 rfl) ?_
        refine lv_iload_n C.1.1 C.1.2.1 dX12_addClause_173 rfl (lv_at hl 3 rfl) ?_
        refine lv_iconst (v := (5 : Int32)) C.1.1 C.1.2.1 dX12_addClause_174 (by decide) ?_
        refine lv_iconst (v := (0 : Int32)) C.1.1 C.1.2.1 dX12_addClause_175 (by decide) ?_
        refine lv_iload_n C.1.1 C.1.2.1 dX12_addClause_176 rfl (lv_at hl 2 rfl) ?_
        refine ql_VV (As := [.int xl3, .int (5 : Int32), .int (0 : Int32), .int xl2]) (rest := []) C S htab hlocks hl qy_X12_puts qi_X12_puts qs_X12_puts gw_1764 (ci := 13) rfl w (fun b w => qm_X12_puts l hl9 D _ b xl3 (5 : Int32) (0 : Int32) xl2 _ _ w) rfl ⟨Nat.le_of_ble_eq_true rfl, Nat.le_of_ble_eq_true rfl⟩ ⟨rfl, rfl⟩ (by exact Nat.le_of_ble_eq_true rfl) (fun b e9 => by cases e9; rfl) dX12_addClause_177 ⟨Nat.le_of_ble_eq_true rfl, Nat.le_of_ble_eq_true rfl⟩ ⟨Nat.le_of_ble_eq_true rfl, Nat.le_of_ble_eq_true rfl⟩ (fun h H locs S w => ?_)
        refine W.cs (cells' := 0) (slots' := 0) rfl rfl ?_
        refine ql_aload_n (r := (some a0)) C dX12_addClause_180 rfl (lv_at hl 0 rfl) ?_
        refine ql_getR C S qf_13_0 gw_1668 dX12_addClause_181 w (fun r15 w => ?_)
        refine lv_iconst (v := (1 : Int32)) C.1.1 C.1.2.1 dX12_addClause_184 (by decide) ?_
        refine lv_dup2_11 C.1.1 C.1.2.1 dX12_addClause_185 rfl (ql_catR _) ?_
        refine ql_iald C S dX12_addClause_186 w (fun x16 w => ?_)
        refine lv_iconst (v := (1 : Int32)) C.1.1 C.1.2.1 dX12_addClause_187 (by decide) ?_
        refine lv_iadd C.1.1 C.1.2.1 dX12_addClause_188 ?_
        refine ql_iast C S dX12_addClause_189 w (fun h H locs S w => ?_)
        refine ql_aload_n (r := (some a0)) C dX12_addClause_190 rfl (lv_at hl 0 rfl) ?_
        refine ql_getR C S qf_13_0 gw_1668 dX12_addClause_191 w (fun r17 w => ?_)
        refine lv_iconst (v := (1 : Int32)) C.1.1 C.1.2.1 dX12_addClause_194 (by decide) ?_
        refine ql_iald C S dX12_addClause_195 w (fun x18 w => ?_)
        refine lv_iconst (v := (1 : Int32)) C.1.1 C.1.2.1 dX12_addClause_196 (by decide) ?_
        refine lv_isub C.1.1 C.1.2.1 dX12_addClause_197 ?_
        exact ql_iret C S hr hlocks dX12_addClause_198 ⟨Nat.le_of_ble_eq_true rfl, Nat.le_of_ble_eq_true rfl⟩ w
      · replace w := ql_ifn w c9
        refine ql_aload_n (r := (some a0)) C dX12_addClause_93 rfl (lv_at hl 0 rfl) ?_
        refine lv_iload_n C.1.1 C.1.2.1 dX12_addClause_94 rfl (lv_at hl 3 rfl) ?_
        refine lv_iload C.1.1 C.1.2.1 dX12_addClause_95 (lv_at hl 4 rfl) ?_
        refine lv_iconst (v := (0 : Int32)) C.1.1 C.1.2.1 dX12_addClause_97 (by decide) ?_
        refine ql_VV (As := [.int xl3, .int xl4, .int (0 : Int32)]) (rest := []) C S htab hlocks hl qy_X12_lays qi_X12_lays qs_X12_lays gw_1760 (ci := 13) rfl w (fun b w => qm_X12_lays l hl9 D _ b xl3 xl4 (0 : Int32) _ _ w) rfl ⟨Nat.le_of_ble_eq_true rfl, Nat.le_of_ble_eq_true rfl⟩ ⟨rfl, rfl⟩ (by exact Nat.le_of_ble_eq_true rfl) (fun b e9 => by cases e9; rfl) dX12_addClause_98 ⟨Nat.le_of_ble_eq_true rfl, Nat.le_of_ble_eq_true rfl⟩ ⟨Nat.le_of_ble_eq_true rfl, Nat.le_of_ble_eq_true rfl⟩ (fun h H locs S w => ?_)
        refine W.cs (cells' := 0) (slots' := 0) rfl rfl ?_
        refine lv_iinc (v := (xl4 + (1 : Int32))) (lv' := [(4, .int (xl4 + (1 : Int32))), (0, .ref a0), (1, .int xl1), (2, .int xl2), (3, .int xl3)]) C.1.1 C.1.2.1 dX12_addClause_101 hl (k := 4) rfl rfl (by decide) rfl (fun ls hl => ?_)
        refine lv_goto (tgt := 86) C.1.1 C.1.2.1 dX12_addClause_104 (by decide) ?_
        exact ih xl1 xl2 xl3 (xl4 + (1 : Int32)) _ _ _ _ S (lv_sub hl [1, 2, 3, 4, 0] rfl) w
  have hB50 : ∀ (xl1 : Int32) (xl2 : Int32) (rs0 : Option Nat) (xs1 : Int32) (h : ql_H) (H : Heap) (locs : List Loc) (ls : Array Slot), ql_S D h0 s H locs h → lv_has ls 5 [(0, .ref a0), (1, .int xl1), (2, .int xl2)] → qw_X12_addClause_50 a0 Q xl1 xl2 rs0 xs1 h → W p l e ({ frames := 6, cells := 0, slots := 0, locals := 113 } : Room) s m ([.ref a0, .int xp1, .int xp2] : List Value).toArray below meth c H locs 0 0 (vx_MQ below (ql_Q D h0 (ql_rI Q)) (ql_X D h0 X) ([.ref a0, .int xp1, .int xp2] : List Value).toArray s 0 0 (ql_A h0)) (F0 m 50 ls [.int xs1, va_rf rs0]) := by
    intro xl1 xl2 rs0 xs1 h H locs ls S hl w
    unfold qw_X12_addClause_50 at w
    refine ql_VI (As := [.int xs1]) (rest := []) C S htab hlocks hl qy_X12_fails qi_X12_fails qs_X12_fails gw_1749 (ci := 13) rfl w (fun b w => qm_X12_fails l hl9 D _ b xs1 _ _ w) rfl ⟨Nat.le_of_ble_eq_true rfl, Nat.le_of_ble_eq_true rfl⟩ ⟨rfl, rfl⟩ (by exact Nat.le_of_ble_eq_true rfl) (fun b e9 => by cases e9; rfl) dX12_addClause_50 ⟨Nat.le_of_ble_eq_true rfl, Nat.le_of_ble_eq_true rfl⟩ ⟨Nat.le_of_ble_eq_true rfl, Nat.le_of_ble_eq_true rfl⟩ (fun x20 h H locs S w => ?_)
    refine W.cs (cells' := 0) (slots' := 0) rfl rfl ?_
    refine lv_if_eq (tgt := 58) C.1.1 C.1.2.1 dX12_addClause_53 (by decide) (fun c9 => ?_) (fun c9 => ?_)
    · replace w := ql_if w c9
      refine ql_aload_n (r := (some a0)) C dX12_addClause_58 rfl (lv_at hl 0 rfl) ?_
      refine ql_aload_n (r := (some a0)) C dX12_addClause_59 rfl (lv_at hl 0 rfl) ?_
      refine ql_getR C S qf_13_0 gw_1668 dX12_addClause_60 w (fun r22 w => ?_)
      refine ql_VV (As := [va_rf r22]) (rest := []) C S htab hlocks hl qy_X12_keeps qi_X12_keeps qs_X12_keeps gw_1753 (ci := 13) rfl w (fun b w => qm_X12_keeps l hl9 D _ b r22 _ _ w) rfl ⟨Nat.le_of_ble_eq_true rfl, Nat.le_of_ble_eq_true rfl⟩ ⟨rfl, rfl⟩ (by exact Nat.le_of_ble_eq_true rfl) (fun b e9 => by cases e9; rfl) dX12_addClause_63 ⟨Nat.le_of_ble_eq_true rfl, Nat.le_of_ble_eq_true rfl⟩ ⟨Nat.le_of_ble_eq_true rfl, Nat.le_of_ble_eq_true rfl⟩ (fun h H locs S w => ?_)
      refine W.cs (cells' := 0) (slots' := 0) rfl rfl ?_
      refine ql_aload_n (r := (some a0)) C dX12_addClause_66 rfl (lv_at hl 0 rfl) ?_
      refine ql_getR C S qf_13_0 gw_1668 dX12_addClause_67 w (fun r24 w => ?_)
      refine lv_iconst (v := (0 : Int32)) C.1.1 C.1.2.1 dX12_addClause_70 (by decide) ?_
      refine ql_iald C S dX12_addClause_71 w (fun x25 w => ?_)
      refine lv_istore_n (lv' := [(3, .int x25), (0, .ref a0), (1, .int xl1), (2, .int xl2)]) C.1.1 C.1.2.1 dX12_addClause_72 rfl hl (by decide) rfl (fun ls hl => ?_)
      refine ql_aload_n (r := (some a0)) C dX12_addClause_73 rfl (lv_at hl 1 rfl) ?_
      refine ql_getR C S qf_13_0 gw_1668 dX12_addClause_74 w (fun r26 w => ?_)
      refine lv_iconst (v := (0 : Int32)) C.1.1 C.1.2.1 dX12_addClause_77 (by decide) ?_
      refine lv_dup2_11 C.1.1 C.1.2.1 dX12_addClause_78 rfl (ql_catR _) ?_
      refine ql_iald C S dX12_addClause_79 w (fun x27 w => ?_)
      refine lv_iconst (v := (1 : Int32)) C.1.1 C.1.2.1 dX12_addClause_80 (by decide) ?_
      refine lv_iadd C.1.1 C.1.2.1 dX12_addClause_81 ?_
      refine ql_iast C S dX12_addClause_82 w (fun h H locs S w => ?_)
      refine lv_iconst (v := (0 : Int32)) C.1.1 C.1.2.1 dX12_addClause_83 (by decide) ?_
      refine lv_istore (lv' := [(4, .int (0 : Int32)), (3, .int x25), (0, .ref a0), (1, .int xl1), (2, .int xl2)]) C.1.1 C.1.2.1 dX12_addClause_84 hl (by decide) rfl (fun ls hl => ?_)
      exact hB86 ql_FU xl1 xl2 x25 (0 : Int32) _ _ _ _ S (lv_sub hl [2, 3, 4, 1, 0] rfl) w
    · replace w := ql_ifn w c9
      refine lv_iconst (v := (0 : Int32)) C.1.1 C.1.2.1 dX12_addClause_56 (by decide) ?_
      exact ql_iret C S hr hlocks dX12_addClause_57 ⟨Nat.le_of_ble_eq_true rfl, Nat.le_of_ble_eq_true rfl⟩ w
  have hB18 : ∀ (xl1 : Int32) (xl2 : Int32) (rs0 : Option Nat) (h : ql_H) (H : Heap) (locs : List Loc) (ls : Array Slot), ql_S D h0 s H locs h → lv_has ls 5 [(0, .ref a0), (1, .int xl1), (2, .int xl2)] → qw_X12_addClause_18 a0 Q xl1 xl2 rs0 h → W p l e ({ frames := 6, cells := 0, slots := 0, locals := 113 } : Room) s m ([.ref a0, .int xp1, .int xp2] : List Value).toArray below meth c H locs 0 0 (vx_MQ below (ql_Q D h0 (ql_rI Q)) (ql_X D h0 X) ([.ref a0, .int xp1, .int xp2] : List Value).toArray s 0 0 (ql_A h0)) (F0 m 18 ls [va_rf rs0]) := by
    intro xl1 xl2 rs0 h H locs ls S hl w
    unfold qw_X12_addClause_18 at w
    refine lv_iconst (v := (1 : Int32)) C.1.1 C.1.2.1 dX12_addClause_18 (by decide) ?_
    refine lv_goto (tgt := 50) C.1.1 C.1.2.1 dX12_addClause_19 (by decide) ?_
    exact hB50 xl1 xl2 rs0 (1 : Int32) _ _ _ _ S (lv_sub hl [0, 1, 2] rfl) w
  unfold qw_X12_addClause at w
  refine ql_aload_n (r := (some a0)) C dX12_addClause_0 rfl (lv_at hl 0 rfl) ?_
  refine lv_iload_n C.1.1 C.1.2.1 dX12_addClause_1 rfl (lv_at hl 1 rfl) ?_
  refine lv_iconst (v := (1 : Int32)) C.1.1 C.1.2.1 dX12_addClause_2 (by decide) ?_
  refine lv_bipush (v := (99 : Int32)) C.1.1 C.1.2.1 dX12_addClause_3 (by decide) ?_
  refine ql_SI (As := [.int xp1, .int (1 : Int32), .int (99 : Int32)]) (rest := [.ref a0]) C S htab hlocks hl qy_X12_in qi_X12_in gw_1735 (qm_X12_in l hl9 D _ xp1 (1 : Int32) (99 : Int32) _ _ w) rfl ⟨Nat.le_of_ble_eq_true rfl, Nat.le_of_ble_eq_true rfl⟩ ⟨rfl, rfl⟩ (by exact Nat.le_of_ble_eq_true rfl) rfl dX12_addClause_5 ⟨Nat.le_of_ble_eq_true rfl, Nat.le_of_ble_eq_true rfl⟩ ⟨Nat.le_of_ble_eq_true rfl, Nat.le_of_ble_eq_true rfl⟩ (fun x28 h H locs S w => ?_)
  refine W.cs (cells' := 0) (slots' := 0) rfl rfl ?_
  refine lv_if_eq (tgt := 18) C.1.1 C.1.2.1 dX12_addClause_8 (by decide) (fun c9 => ?_) (fun c9 => ?_)
  · replace w := ql_if w c9
    exact hB18 xp1 xp2 (some a0) _ _ _ _ S (lv_sub hl [0, 1, 2] rfl) w
  · replace w := ql_ifn w c9
    refine lv_iload_n C.1.1 C.1.2.1 dX12_addClause_11 rfl (lv_at hl 2 rfl) ?_
    refine ql_SI (As := [.int xp2]) (rest := [.ref a0]) C S htab hlocks hl qy_X12_isNote qi_X12_isNote gw_1738 (qm_X12_isNote l hl9 D _ xp2 _ _ w) rfl ⟨Nat.le_of_ble_eq_true rfl, Nat.le_of_ble_eq_true rfl⟩ ⟨rfl, rfl⟩ (by exact Nat.le_of_ble_eq_true rfl) rfl dX12_addClause_12 ⟨Nat.le_of_ble_eq_true rfl, Nat.le_of_ble_eq_true rfl⟩ ⟨Nat.le_of_ble_eq_true rfl, Nat.le_of_ble_eq_true rfl⟩ (fun x29 h H locs S w => ?_)
    refine W.cs (cells' := 0) (slots' := 0) rfl rfl ?_
    refine lv_if_ne (tgt := 22) C.1.1 C.1.2.1 dX12_addClause_15 (by decide) (fun c9 => ?_) (fun c9 => ?_)
    · replace w := ql_ifn w c9
      refine ql_aload_n (r := (some a0)) C dX12_addClause_22 rfl (lv_at hl 0 rfl) ?_
      refine ql_getR C S qf_13_0 gw_1668 dX12_addClause_23 w (fun r30 w => ?_)
      refine lv_iconst (v := (0 : Int32)) C.1.1 C.1.2.1 dX12_addClause_26 (by decide) ?_
      refine ql_iald C S dX12_addClause_27 w (fun x31 w => ?_)
      refine lv_bipush (v := (16 : Int32)) C.1.1 C.1.2.1 dX12_addClause_28 (by decide) ?_
      refine lv_icmp_ne (tgt := 37) C.1.1 C.1.2.1 dX12_addClause_30 (by decide) (fun c9 => ?_) (fun c9 => ?_)
      · replace w := ql_ifn w c9
        refine ql_aload_n (r := (some a0)) C dX12_addClause_37 rfl (lv_at hl 0 rfl) ?_
        refine lv_iload_n C.1.1 C.1.2.1 dX12_addClause_38 rfl (lv_at hl 1 rfl) ?_
        refine ql_VI (As := [.int xp1]) (rest := [.ref a0]) C S htab hlocks hl qy_X12_withSection qi_X12_withSection qs_X12_withSection gw_1741 (ci := 13) rfl w (fun b w => qm_X12_withSection l hl9 D _ b xp1 _ _ w) rfl ⟨Nat.le_of_ble_eq_true rfl, Nat.le_of_ble_eq_true rfl⟩ ⟨rfl, rfl⟩ (by exact Nat.le_of_ble_eq_true rfl) (fun b e9 => by cases e9; rfl) dX12_addClause_39 ⟨Nat.le_of_ble_eq_true rfl, Nat.le_of_ble_eq_true rfl⟩ ⟨Nat.le_of_ble_eq_true rfl, Nat.le_of_ble_eq_true rfl⟩ (fun x32 h H locs S w => ?_)
        refine W.cs (cells' := 0) (slots' := 0) rfl rfl ?_
        refine lv_if_lt (tgt := 49) C.1.1 C.1.2.1 dX12_addClause_42 (by decide) (fun c9 => ?_) (fun c9 => ?_)
        · replace w := ql_if w c9
          refine lv_iconst (v := (0 : Int32)) C.1.1 C.1.2.1 dX12_addClause_49 (by decide) ?_
          exact hB50 xp1 xp2 (some a0) (0 : Int32) _ _ _ _ S (lv_sub hl [0, 1, 2] rfl) w
        · replace w := ql_ifn w c9
          refine lv_iconst (v := (3 : Int32)) C.1.1 C.1.2.1 dX12_addClause_45 (by decide) ?_
          refine lv_goto (tgt := 50) C.1.1 C.1.2.1 dX12_addClause_46 (by decide) ?_
          exact hB50 xp1 xp2 (some a0) (3 : Int32) _ _ _ _ S (lv_sub hl [0, 1, 2] rfl) w
      · replace w := ql_if w c9
        refine lv_iconst (v := (2 : Int32)) C.1.1 C.1.2.1 dX12_addClause_33 (by decide) ?_
        refine lv_goto (tgt := 50) C.1.1 C.1.2.1 dX12_addClause_34 (by decide) ?_
        exact hB50 xp1 xp2 (some a0) (2 : Int32) _ _ _ _ S (lv_sub hl [0, 1, 2] rfl) w
    · replace w := ql_if w c9
      exact hB18 xp1 xp2 (some a0) _ _ _ _ S (lv_sub hl [0, 1, 2] rfl) w
def qw_X12_amends_41 (a0 : Nat) (Q : Int32 → ql_H → Prop) : Nat → Int32 → Int32 → Int32 → Int32 → ql_H → Prop
  | 0, _, _, _, _, _ => False
  | n + 1, xl1, xl2, xl3, xl4, h =>
    if (4 : Int32) ≤ xl4 then (ql_gR h (some a0) 13 0 fun r1 =>
    ql_lI h r1 0 (3 : Int32) fun x2 =>
    ql_sI h r1 0 (3 : Int32) (x2 + (1 : Int32)) fun h =>
    Q xl3 h) else (ql_rv h (some a0) 13 fun b3 => qw_X12_of b3 xl1 (xl2 + xl4) h (fun x3 h =>
    ql_rv h (some a0) 13 fun b4 => qw_X12_lays b4 xl1 (xl3 + xl4) x3 h (fun h =>
    qw_X12_amends_41 a0 Q n xl1 xl2 xl3 (xl4 + (1 : Int32)) h)))
def qw_X12_amends (a0 : Nat) (xp1 : Int32) (h : ql_H) (Q : Int32 → ql_H → Prop) : Prop :=
ql_rv h (some a0) 13 fun b6 => qw_X12_lastVersion b6 xp1 h (fun x6 h =>
ql_rv h (some a0) 13 fun b8 => qw_X12_of b8 xp1 (4 : Int32) h (fun x8 h =>
ql_rv h (some a0) 13 fun b9 => qw_X12_lays b9 xp1 (4 : Int32) (x8 + (1 : Int32)) h (fun h =>
ql_rv h (some a0) 13 fun b11 => qw_X12_lastVersion b11 xp1 h (fun x11 h =>
ql_gR h (some a0) 13 0 fun r13 =>
ql_lI h r13 0 (2 : Int32) fun x14 =>
ql_rv h (some a0) 13 fun b14 => qw_X12_lays b14 xp1 x11 x14 h (fun h =>
qw_X12_amends_41 a0 Q ql_FU xp1 x6 x11 (1 : Int32) h)))))
set_option maxHeartbeats 4000000 in
set_option maxRecDepth 100000 in
theorem qm_X12_amends (l : Launch) (hl9 : l.stackTraces = false) (D : ql_D) (h0 : ql_H) (a0 : Nat) (xp1 : Int32) (Q : Int32 → ql_H → Prop) (X : String → ql_H → Prop) (w : qw_X12_amends a0 xp1 h0 Q) : ql_M D l yX12_amends cX12_amends 5 (some .int) ({ frames := 6, cells := 0, slots := 0, locals := 107 } : Room) h0 [.ref a0, .int xp1] (ql_rI Q) X 0 0 := by
  refine ql_ofW (by decide) (Nat.le_of_ble_eq_true rfl) ?_
  intro p e s m below meth c ls C hr hlocks hnm htab S hl
  have hl : lv_has ls 5 [(0, .ref a0), (1, .int xp1)] := hl
  have hB41 : ∀ n : Nat, ∀ (xl1 : Int32) (xl2 : Int32) (xl3 : Int32) (xl4 : Int32) (h : ql_H) (H : Heap) (locs : List Loc) (ls : Array Slot), ql_S D h0 s H locs h → lv_has ls 5 [(0, .ref a0), (1, .int xl1), (2, .int xl2), (3, .int xl3), (4, .int xl4)] → qw_X12_amends_41 a0 Q n xl1 xl2 xl3 xl4 h → W p l e ({ frames := 6, cells := 0, slots := 0, locals := 107 } : Room) s m ([.ref a0, .int xp1] : List Value).toArray below meth c H locs 0 0 (vx_MQ below (ql_Q D h0 (ql_rI Q)) (ql_X D h0 X) ([.ref a0, .int xp1] : List Value).toArray s 0 0 (ql_A h0)) (F0 m 41 ls []) := by
    intro n
    induction n with
    | zero => intro xl1 xl2 xl3 xl4 h H locs ls S hl w; rw [qw_X12_amends_41] at w; exact w.elim
    | succ n ih =>
      intro xl1 xl2 xl3 xl4 h H locs ls S hl w
      rw [qw_X12_amends_41] at w
      refine lv_iload C.1.1 C.1.2.1 dX12_amends_41 (lv_at hl 4 rfl) ?_
      refine lv_iconst (v := (4 : Int32)) C.1.1 C.1.2.1 dX12_amends_43 (by decide) ?_
      refine lv_icmp_ge (tgt := 71) C.1.1 C.1.2.1 dX12_amends_44 (by decide) (fun c9 => ?_) (fun c9 => ?_)
      · replace w := ql_if w c9
        refine ql_aload_n (r := (some a0)) C dX12_amends_71 rfl (lv_at hl 0 rfl) ?_
        refine ql_getR C S qf_13_0 gw_1668 dX12_amends_72 w (fun r1 w => ?_)
        refine lv_iconst (v := (3 : Int32)) C.1.1 C.1.2.1 dX12_amends_75 (by decide) ?_
        refine lv_dup2_11 C.1.1 C.1.2.1 dX12_amends_76 rfl (ql_catR _) ?_
        refine ql_iald C S dX12_amends_77 w (fun x2 w => ?_)
        refine lv_iconst (v := (1 : Int32)) C.1.1 C.1.2.1 dX12_amends_78 (by decide) ?_
        refine lv_iadd C.1.1 C.1.2.1 dX12_amends_79 ?_
        refine ql_iast C S dX12_amends_80 w (fun h H locs S w => ?_)
        refine lv_iload_n C.1.1 C.1.2.1 dX12_amends_81 rfl (lv_at hl 3 rfl) ?_
        exact ql_iret C S hr hlocks dX12_amends_82 ⟨Nat.le_of_ble_eq_true rfl, Nat.le_of_ble_eq_true rfl⟩ w
      · replace w := ql_ifn w c9
        refine ql_aload_n (r := (some a0)) C dX12_amends_47 rfl (lv_at hl 0 rfl) ?_
        refine lv_iload_n C.1.1 C.1.2.1 dX12_amends_48 rfl (lv_at hl 1 rfl) ?_
        refine lv_iload_n C.1.1 C.1.2.1 dX12_amends_49 rfl (lv_at hl 3 rfl) ?_
        refine lv_iload C.1.1 C.1.2.1 dX12_amends_50 (lv_at hl 4 rfl) ?_
        refine lv_iadd C.1.1 C.1.2.1 dX12_amends_52 ?_
        refine ql_aload_n (r := (some a0)) C dX12_amends_53 rfl (lv_at hl 0 rfl) ?_
        refine lv_iload_n C.1.1 C.1.2.1 dX12_amends_54 rfl (lv_at hl 1 rfl) ?_
        refine lv_iload_n C.1.1 C.1.2.1 dX12_amends_55 rfl (lv_at hl 2 rfl) ?_
        refine lv_iload C.1.1 C.1.2.1 dX12_amends_56 (lv_at hl 4 rfl) ?_
        refine lv_iadd C.1.1 C.1.2.1 dX12_amends_58 ?_
        refine ql_VI (As := [.int xl1, .int (xl2 + xl4)]) (rest := [.int (xl3 + xl4), .int xl1, .ref a0]) C S htab hlocks hl qy_X12_of qi_X12_of qs_X12_of gw_1745 (ci := 13) rfl w (fun b w => qm_X12_of l hl9 D _ b xl1 (xl2 + xl4) _ _ w) rfl ⟨Nat.le_of_ble_eq_true rfl, Nat.le_of_ble_eq_true rfl⟩ ⟨rfl, rfl⟩ (by exact Nat.le_of_ble_eq_true rfl) (fun b e9 => by cases e9; rfl) dX12_amends_59 ⟨Nat.le_of_ble_eq_true rfl, Nat.le_of_ble_eq_true rfl⟩ ⟨Nat.le_of_ble_eq_true rfl, Nat.le_of_ble_eq_true rfl⟩ (fun x3 h H locs S w => ?_)
        refine W.cs (cells' := 0) (slots' := 0) rfl rfl ?_
        refine ql_VV (As := [.int xl1, .int (xl3 + xl4), .int x3]) (rest := []) C S htab hlocks hl qy_X12_lays qi_X12_lays qs_X12_lays gw_1760 (ci := 13) rfl w (fun b w => qm_X12_lays l hl9 D _ b xl1 (xl3 + xl4) x3 _ _ w) rfl ⟨Nat.le_of_ble_eq_true rfl, Nat.le_of_ble_eq_true rfl⟩ ⟨rfl, rfl⟩ (by exact Nat.le_of_ble_eq_true rfl) (fun b e9 => by cases e9; rfl) dX12_amends_62 ⟨Nat.le_of_ble_eq_true rfl, Nat.le_of_ble_eq_true rfl⟩ ⟨Nat.le_of_ble_eq_true rfl, Nat.le_of_ble_eq_true rfl⟩ (fun h H locs S w => ?_)
        refine W.cs (cells' := 0) (slots' := 0) rfl rfl ?_
        refine lv_iinc (v := (xl4 + (1 : Int32))) (lv' := [(4, .int (xl4 + (1 : Int32))), (0, .ref a0), (1, .int xl1), (2, .int xl2), (3, .int xl3)]) C.1.1 C.1.2.1 dX12_amends_65 hl (k := 4) rfl rfl (by decide) rfl (fun ls hl => ?_)
        refine lv_goto (tgt := 41) C.1.1 C.1.2.1 dX12_amends_68 (by decide) ?_
        exact ih xl1 xl2 xl3 (xl4 + (1 : Int32)) _ _ _ _ S (lv_sub hl [1, 2, 3, 4, 0] rfl) w
  unfold qw_X12_amends at w
  refine ql_aload_n (r := (some a0)) C dX12_amends_0 rfl (lv_at hl 0 rfl) ?_
  refine lv_iload_n C.1.1 C.1.2.1 dX12_amends_1 rfl (lv_at hl 1 rfl) ?_
  refine ql_VI (As := [.int xp1]) (rest := []) C S htab hlocks hl qy_X12_lastVersion qi_X12_lastVersion qs_X12_lastVersion gw_1780 (ci := 13) rfl w (fun b w => qm_X12_lastVersion l hl9 D _ b xp1 _ _ w) rfl ⟨Nat.le_of_ble_eq_true rfl, Nat.le_of_ble_eq_true rfl⟩ ⟨rfl, rfl⟩ (by exact Nat.le_of_ble_eq_true rfl) (fun b e9 => by cases e9; rfl) dX12_amends_2 ⟨Nat.le_of_ble_eq_true rfl, Nat.le_of_ble_eq_true rfl⟩ ⟨Nat.le_of_ble_eq_true rfl, Nat.le_of_ble_eq_true rfl⟩ (fun x6 h H locs S w => ?_)
  refine W.cs (cells' := 0) (slots' := 0) rfl rfl ?_
  refine lv_istore_n (lv' := [(2, .int x6), (0, .ref a0), (1, .int xp1)]) C.1.1 C.1.2.1 dX12_amends_5 rfl hl (by decide) rfl (fun ls hl => ?_)
  refine ql_aload_n (r := (some a0)) C dX12_amends_6 rfl (lv_at hl 1 rfl) ?_
  refine lv_iload_n C.1.1 C.1.2.1 dX12_amends_7 rfl (lv_at hl 2 rfl) ?_
  refine lv_iconst (v := (4 : Int32)) C.1.1 C.1.2.1 dX12_amends_8 (by decide) ?_
  refine ql_aload_n (r := (some a0)) C dX12_amends_9 rfl (lv_at hl 1 rfl) ?_
  refine lv_iload_n C.1.1 C.1.2.1 dX12_amends_10 rfl (lv_at hl 2 rfl) ?_
  refine lv_iconst (v := (4 : Int32)) C.1.1 C.1.2.1 dX12_amends_11 (by decide) ?_
  refine ql_VI (As := [.int xp1, .int (4 : Int32)]) (rest := [.int (4 : Int32), .int xp1, .ref a0]) C S htab hlocks hl qy_X12_of qi_X12_of qs_X12_of gw_1745 (ci := 13) rfl w (fun b w => qm_X12_of l hl9 D _ b xp1 (4 : Int32) _ _ w) rfl ⟨Nat.le_of_ble_eq_true rfl, Nat.le_of_ble_eq_true rfl⟩ ⟨rfl, rfl⟩ (by exact Nat.le_of_ble_eq_true rfl) (fun b e9 => by cases e9; rfl) dX12_amends_12 ⟨Nat.le_of_ble_eq_true rfl, Nat.le_of_ble_eq_true rfl⟩ ⟨Nat.le_of_ble_eq_true rfl, Nat.le_of_ble_eq_true rfl⟩ (fun x8 h H locs S w => ?_)
  refine W.cs (cells' := 0) (slots' := 0) rfl rfl ?_
  refine lv_iconst (v := (1 : Int32)) C.1.1 C.1.2.1 dX12_amends_15 (by decide) ?_
  refine lv_iadd C.1.1 C.1.2.1 dX12_amends_16 ?_
  refine ql_VV (As := [.int xp1, .int (4 : Int32), .int (x8 + (1 : Int32))]) (rest := []) C S htab hlocks hl qy_X12_lays qi_X12_lays qs_X12_lays gw_1760 (ci := 13) rfl w (fun b w => qm_X12_lays l hl9 D _ b xp1 (4 : Int32) (x8 + (1 : Int32)) _ _ w) rfl ⟨Nat.le_of_ble_eq_true rfl, Nat.le_of_ble_eq_true rfl⟩ ⟨rfl, rfl⟩ (by exact Nat.le_of_ble_eq_true rfl) (fun b e9 => by cases e9; rfl) dX12_amends_17 ⟨Nat.le_of_ble_eq_true rfl, Nat.le_of_ble_eq_true rfl⟩ ⟨Nat.le_of_ble_eq_true rfl, Nat.le_of_ble_eq_true rfl⟩ (fun h H locs S w => ?_)
  refine W.cs (cells' := 0) (slots' := 0) rfl rfl ?_
  refine ql_aload_n (r := (some a0)) C dX12_amends_20 rfl (lv_at hl 1 rfl) ?_
  refine lv_iload_n C.1.1 C.1.2.1 dX12_amends_21 rfl (lv_at hl 2 rfl) ?_
  refine ql_VI (As := [.int xp1]) (rest := []) C S htab hlocks hl qy_X12_lastVersion qi_X12_lastVersion qs_X12_lastVersion gw_1780 (ci := 13) rfl w (fun b w => qm_X12_lastVersion l hl9 D _ b xp1 _ _ w) rfl ⟨Nat.le_of_ble_eq_true rfl, Nat.le_of_ble_eq_true rfl⟩ ⟨rfl, rfl⟩ (by exact Nat.le_of_ble_eq_true rfl) (fun b e9 => by cases e9; rfl) dX12_amends_22 ⟨Nat.le_of_ble_eq_true rfl, Nat.le_of_ble_eq_true rfl⟩ ⟨Nat.le_of_ble_eq_true rfl, Nat.le_of_ble_eq_true rfl⟩ (fun x11 h H locs S w => ?_)
  refine W.cs (cells' := 0) (slots' := 0) rfl rfl ?_
  refine lv_istore_n (lv' := [(3, .int x11), (2, .int x6), (0, .ref a0), (1, .int xp1)]) C.1.1 C.1.2.1 dX12_amends_25 rfl hl (by decide) rfl (fun ls hl => ?_)
  refine ql_aload_n (r := (some a0)) C dX12_amends_26 rfl (lv_at hl 2 rfl) ?_
  refine lv_iload_n C.1.1 C.1.2.1 dX12_amends_27 rfl (lv_at hl 3 rfl) ?_
  refine lv_iload_n C.1.1 C.1.2.1 dX12_amends_28 rfl (lv_at hl 0 rfl) ?_
  refine ql_aload_n (r := (some a0)) C dX12_amends_29 rfl (lv_at hl 2 rfl) ?_
  refine ql_getR C S qf_13_0 gw_1668 dX12_amends_30 w (fun r13 w => ?_)
  refine lv_iconst (v := (2 : Int32)) C.1.1 C.1.2.1 dX12_amends_33 (by decide) ?_
  refine ql_iald C S dX12_amends_34 w (fun x14 w => ?_)
  refine ql_VV (As := [.int xp1, .int x11, .int x14]) (rest := []) C S htab hlocks hl qy_X12_lays qi_X12_lays qs_X12_lays gw_1760 (ci := 13) rfl w (fun b w => qm_X12_lays l hl9 D _ b xp1 x11 x14 _ _ w) rfl ⟨Nat.le_of_ble_eq_true rfl, Nat.le_of_ble_eq_true rfl⟩ ⟨rfl, rfl⟩ (by exact Nat.le_of_ble_eq_true rfl) (fun b e9 => by cases e9; rfl) dX12_amends_35 ⟨Nat.le_of_ble_eq_true rfl, Nat.le_of_ble_eq_true rfl⟩ ⟨Nat.le_of_ble_eq_true rfl, Nat.le_of_ble_eq_true rfl⟩ (fun h H locs S w => ?_)
  refine W.cs (cells' := 0) (slots' := 0) rfl rfl ?_
  refine lv_iconst (v := (1 : Int32)) C.1.1 C.1.2.1 dX12_amends_38 (by decide) ?_
  refine lv_istore (lv' := [(4, .int (1 : Int32)), (3, .int x11), (2, .int x6), (0, .ref a0), (1, .int xp1)]) C.1.1 C.1.2.1 dX12_amends_39 hl (by decide) rfl (fun ls hl => ?_)
  exact hB41 ql_FU xp1 x6 x11 (1 : Int32) _ _ _ _ S (lv_sub hl [3, 4, 2, 1, 0] rfl) w
def qw_X12_isClosed_25 (a0 : Nat) (Q : Int32 → ql_H → Prop) (h : ql_H) : Prop :=
ql_nz .boolean (1 : Int32) ∧ Q (1 : Int32) h
def qw_X12_isClosed (a0 : Nat) (xp1 : Int32) (h : ql_H) (Q : Int32 → ql_H → Prop) : Prop :=
ql_gR h (some a0) 13 0 fun r1 =>
ql_lI h r1 0 (2 : Int32) fun x2 =>
ql_rv h (some a0) 13 fun b3 => qw_X12_isValid b3 xp1 x2 h (fun x3 h =>
if x3 = 0 then (qw_X12_isClosed_25 a0 Q  h) else (ql_rv h (some a0) 13 fun b5 => qw_X12_of b5 xp1 (4 : Int32) h (fun x5 h =>
if x5 = (8 : Int32) then (qw_X12_isClosed_25 a0 Q  h) else (ql_nz .boolean (0 : Int32) ∧ Q (0 : Int32) h))))
set_option maxHeartbeats 4000000 in
set_option maxRecDepth 100000 in
theorem qm_X12_isClosed (l : Launch) (hl9 : l.stackTraces = false) (D : ql_D) (h0 : ql_H) (a0 : Nat) (xp1 : Int32) (Q : Int32 → ql_H → Prop) (X : String → ql_H → Prop) (w : qw_X12_isClosed a0 xp1 h0 Q) : ql_M D l yX12_isClosed cX12_isClosed 2 (some .boolean) ({ frames := 6, cells := 0, slots := 0, locals := 108 } : Room) h0 [.ref a0, .int xp1] (ql_rI Q) X 0 0 := by
  refine ql_ofW (by decide) (Nat.le_of_ble_eq_true rfl) ?_
  intro p e s m below meth c ls C hr hlocks hnm htab S hl
  have hl : lv_has ls 2 [(0, .ref a0), (1, .int xp1)] := hl
  have hB25 : ∀ (h : ql_H) (H : Heap) (locs : List Loc) (ls : Array Slot), ql_S D h0 s H locs h → lv_has ls 2 [] → qw_X12_isClosed_25 a0 Q h → W p l e ({ frames := 6, cells := 0, slots := 0, locals := 108 } : Room) s m ([.ref a0, .int xp1] : List Value).toArray below meth c H locs 0 0 (vx_MQ below (ql_Q D h0 (ql_rI Q)) (ql_X D h0 X) ([.ref a0, .int xp1] : List Value).toArray s 0 0 (ql_A h0)) (F0 m 25 ls []) := by
    intro h H locs ls S hl w
    unfold qw_X12_isClosed_25 at w
    refine lv_iconst (v := (1 : Int32)) C.1.1 C.1.2.1 dX12_isClosed_25 (by decide) ?_
    refine lv_goto (tgt := 30) C.1.1 C.1.2.1 dX12_isClosed_26 (by decide) ?_
    exact ql_zret C S hr hlocks dX12_isClosed_30 ⟨Nat.le_of_ble_eq_true rfl, Nat.le_of_ble_eq_true rfl⟩ w
  unfold qw_X12_isClosed at w
  refine ql_aload_n (r := (some a0)) C dX12_isClosed_0 rfl (lv_at hl 0 rfl) ?_
  refine lv_iload_n C.1.1 C.1.2.1 dX12_isClosed_1 rfl (lv_at hl 1 rfl) ?_
  refine ql_aload_n (r := (some a0)) C dX12_isClosed_2 rfl (lv_at hl 0 rfl) ?_
  refine ql_getR C S qf_13_0 gw_1668 dX12_isClosed_3 w (fun r1 w => ?_)
  refine lv_iconst (v := (2 : Int32)) C.1.1 C.1.2.1 dX12_isClosed_6 (by decide) ?_
  refine ql_iald C S dX12_isClosed_7 w (fun x2 w => ?_)
  refine ql_VI (As := [.int xp1, .int x2]) (rest := []) C S htab hlocks hl qy_X12_isValid qi_X12_isValid qs_X12_isValid gw_1788 (ci := 13) rfl w (fun b w => qm_X12_isValid l hl9 D _ b xp1 x2 _ _ w) rfl ⟨Nat.le_of_ble_eq_true rfl, Nat.le_of_ble_eq_true rfl⟩ ⟨rfl, rfl⟩ (by exact Nat.le_of_ble_eq_true rfl) (fun b e9 => by cases e9; rfl) dX12_isClosed_8 ⟨Nat.le_of_ble_eq_true rfl, Nat.le_of_ble_eq_true rfl⟩ ⟨Nat.le_of_ble_eq_true rfl, Nat.le_of_ble_eq_true rfl⟩ (fun x3 h H locs S w => ?_)
  refine W.cs (cells' := 0) (slots' := 0) rfl rfl ?_
  refine lv_if_eq (tgt := 25) C.1.1 C.1.2.1 dX12_isClosed_11 (by decide) (fun c9 => ?_) (fun c9 => ?_)
  · replace w := ql_if w c9
    exact hB25  _ _ _ _ S (lv_sub hl [] rfl) w
  · replace w := ql_ifn w c9
    refine ql_aload_n (r := (some a0)) C dX12_isClosed_14 rfl (lv_at hl 0 rfl) ?_
    refine lv_iload_n C.1.1 C.1.2.1 dX12_isClosed_15 rfl (lv_at hl 1 rfl) ?_
    refine lv_iconst (v := (4 : Int32)) C.1.1 C.1.2.1 dX12_isClosed_16 (by decide) ?_
    refine ql_VI (As := [.int xp1, .int (4 : Int32)]) (rest := []) C S htab hlocks hl qy_X12_of qi_X12_of qs_X12_of gw_1745 (ci := 13) rfl w (fun b w => qm_X12_of l hl9 D _ b xp1 (4 : Int32) _ _ w) rfl ⟨Nat.le_of_ble_eq_true rfl, Nat.le_of_ble_eq_true rfl⟩ ⟨rfl, rfl⟩ (by exact Nat.le_of_ble_eq_true rfl) (fun b e9 => by cases e9; rfl) dX12_isClosed_17 ⟨Nat.le_of_ble_eq_true rfl, Nat.le_of_ble_eq_true rfl⟩ ⟨Nat.le_of_ble_eq_true rfl, Nat.le_of_ble_eq_true rfl⟩ (fun x5 h H locs S w => ?_)
    refine W.cs (cells' := 0) (slots' := 0) rfl rfl ?_
    refine lv_bipush (v := (8 : Int32)) C.1.1 C.1.2.1 dX12_isClosed_20 (by decide) ?_
    refine lv_icmp_ne (tgt := 29) C.1.1 C.1.2.1 dX12_isClosed_22 (by decide) (fun c9 => ?_) (fun c9 => ?_)
    · replace w := ql_ifn w c9
      refine lv_iconst (v := (0 : Int32)) C.1.1 C.1.2.1 dX12_isClosed_29 (by decide) ?_
      exact ql_zret C S hr hlocks dX12_isClosed_30 ⟨Nat.le_of_ble_eq_true rfl, Nat.le_of_ble_eq_true rfl⟩ w
    · replace w := ql_if w c9
      exact hB25  _ _ _ _ S (lv_sub hl [] rfl) w
def qw_X12_long0 (a0 : Nat) (xp1 : Int32) (h : ql_H) (Q : Int32 → ql_H → Prop) : Prop :=
ql_rv h (some a0) 13 fun b1 => qw_X12_lastVersion b1 xp1 h (fun x1 h =>
ql_rv h (some a0) 13 fun b3 => qw_X12_of b3 xp1 (x1 + (1 : Int32)) h (fun x3 h =>
Q x3 h))
set_option maxHeartbeats 4000000 in
set_option maxRecDepth 100000 in
theorem qm_X12_long0 (l : Launch) (hl9 : l.stackTraces = false) (D : ql_D) (h0 : ql_H) (a0 : Nat) (xp1 : Int32) (Q : Int32 → ql_H → Prop) (X : String → ql_H → Prop) (w : qw_X12_long0 a0 xp1 h0 Q) : ql_M D l yX12_long0 cX12_long0 2 (some .int) ({ frames := 6, cells := 0, slots := 0, locals := 107 } : Room) h0 [.ref a0, .int xp1] (ql_rI Q) X 0 0 := by
  refine ql_ofW (by decide) (Nat.le_of_ble_eq_true rfl) ?_
  intro p e s m below meth c ls C hr hlocks hnm htab S hl
  have hl : lv_has ls 2 [(0, .ref a0), (1, .int xp1)] := hl
  unfold qw_X12_long0 at w
  refine ql_aload_n (r := (some a0)) C dX12_long0_0 rfl (lv_at hl 0 rfl) ?_
  refine lv_iload_n C.1.1 C.1.2.1 dX12_long0_1 rfl (lv_at hl 1 rfl) ?_
  refine ql_aload_n (r := (some a0)) C dX12_long0_2 rfl (lv_at hl 0 rfl) ?_
  refine lv_iload_n C.1.1 C.1.2.1 dX12_long0_3 rfl (lv_at hl 1 rfl) ?_
  refine ql_VI (As := [.int xp1]) (rest := [.int xp1, .ref a0]) C S htab hlocks hl qy_X12_lastVersion qi_X12_lastVersion qs_X12_lastVersion gw_1780 (ci := 13) rfl w (fun b w => qm_X12_lastVersion l hl9 D _ b xp1 _ _ w) rfl ⟨Nat.le_of_ble_eq_true rfl, Nat.le_of_ble_eq_true rfl⟩ ⟨rfl, rfl⟩ (by exact Nat.le_of_ble_eq_true rfl) (fun b e9 => by cases e9; rfl) dX12_long0_4 ⟨Nat.le_of_ble_eq_true rfl, Nat.le_of_ble_eq_true rfl⟩ ⟨Nat.le_of_ble_eq_true rfl, Nat.le_of_ble_eq_true rfl⟩ (fun x1 h H locs S w => ?_)
  refine W.cs (cells' := 0) (slots' := 0) rfl rfl ?_
  refine lv_iconst (v := (1 : Int32)) C.1.1 C.1.2.1 dX12_long0_7 (by decide) ?_
  refine lv_iadd C.1.1 C.1.2.1 dX12_long0_8 ?_
  refine ql_VI (As := [.int xp1, .int (x1 + (1 : Int32))]) (rest := []) C S htab hlocks hl qy_X12_of qi_X12_of qs_X12_of gw_1745 (ci := 13) rfl w (fun b w => qm_X12_of l hl9 D _ b xp1 (x1 + (1 : Int32)) _ _ w) rfl ⟨Nat.le_of_ble_eq_true rfl, Nat.le_of_ble_eq_true rfl⟩ ⟨rfl, rfl⟩ (by exact Nat.le_of_ble_eq_true rfl) (fun b e9 => by cases e9; rfl) dX12_long0_9 ⟨Nat.le_of_ble_eq_true rfl, Nat.le_of_ble_eq_true rfl⟩ ⟨Nat.le_of_ble_eq_true rfl, Nat.le_of_ble_eq_true rfl⟩ (fun x3 h H locs S w => ?_)
  refine W.cs (cells' := 0) (slots' := 0) rfl rfl ?_
  exact ql_iret C S hr hlocks dX12_long0_12 ⟨Nat.le_of_ble_eq_true rfl, Nat.le_of_ble_eq_true rfl⟩ w
def qw_X12_insertNote_115 (a0 : Nat) (Q : Int32 → ql_H → Prop) : Nat → Int32 → Int32 → Int32 → Int32 → Int32 → Int32 → ql_H → Prop
  | 0, _, _, _, _, _, _, _ => False
  | n + 1, xl2, xl3, xl4, xl5, xl6, xl7, h =>
    if xl7 ≤ xl2 then (ql_rv h (some a0) 13 fun b0 => qw_X12_puts b0 xl4 xl5 xl2 xl3 h (fun h =>
    ql_rv h (some a0) 13 fun b1 => qw_X12_lays b1 xl4 (xl5 + (1 : Int32)) (xl6 + (1 : Int32)) h (fun h =>
    ql_rv h (some a0) 13 fun b3 => qw_X12_of b3 xl4 (4 : Int32) h (fun x3 h =>
    Q x3 h)))) else (ql_rv h (some a0) 13 fun b5 => qw_X12_note b5 xl4 xl5 (xl7 - (1 : Int32)) h (fun x5 h =>
    ql_rv h (some a0) 13 fun b6 => qw_X12_puts b6 xl4 xl5 xl7 x5 h (fun h =>
    qw_X12_insertNote_115 a0 Q n xl2 xl3 xl4 xl5 xl6 (xl7 + (-1 : Int32)) h)))
def qw_X12_insertNote_75 (a0 : Nat) (Q : Int32 → ql_H → Prop) (xl2 : Int32) (xl3 : Int32) (xl4 : Int32) (rs0 : Option Nat) (xs1 : Int32) (h : ql_H) : Prop :=
ql_rv h rs0 13 fun b8 => qw_X12_fails b8 xs1 h (fun x8 h =>
if x8 = 0 then (ql_gR h (some a0) 13 0 fun r10 =>
ql_rv h (some a0) 13 fun b10 => qw_X12_keeps b10 r10 h (fun h =>
ql_rv h (some a0) 13 fun b12 => qw_X12_amends b12 xl4 h (fun x12 h =>
ql_rv h (some a0) 13 fun b14 => qw_X12_of b14 xl4 (x12 + (1 : Int32)) h (fun x14 h =>
qw_X12_insertNote_115 a0 Q ql_FU xl2 xl3 xl4 x12 x14 x14 h)))) else (Q (0 : Int32) h))
def qw_X12_insertNote (a0 : Nat) (xp1 : Int32) (xp2 : Int32) (xp3 : Int32) (h : ql_H) (Q : Int32 → ql_H → Prop) : Prop :=
ql_rv h (some a0) 13 fun b16 => qw_X12_placeOf b16 xp1 h (fun x16 h =>
if 0 ≤ x16 then (ql_rv h (some a0) 13 fun b18 => qw_X12_long0 b18 x16 h (fun x18 h =>
qw_X12_in xp2 (0 : Int32) x18 h (fun x20 h =>
if x20 = 0 then (qw_X12_insertNote_75 a0 Q xp2 xp3 x16 (some a0) (2 : Int32) h) else (qw_X12_isNote xp3 h (fun x21 h =>
if x21 = 0 then (qw_X12_insertNote_75 a0 Q xp2 xp3 x16 (some a0) (3 : Int32) h) else (ql_rv h (some a0) 13 fun b22 => qw_X12_isClosed b22 x16 h (fun x22 h =>
if x22 = 0 then (ql_rv h (some a0) 13 fun b24 => qw_X12_long0 b24 x16 h (fun x24 h =>
if x24 = (12 : Int32) then (qw_X12_insertNote_75 a0 Q xp2 xp3 x16 (some a0) (5 : Int32) h) else (qw_X12_insertNote_75 a0 Q xp2 xp3 x16 (some a0) (0 : Int32) h))) else (qw_X12_insertNote_75 a0 Q xp2 xp3 x16 (some a0) (4 : Int32) h)))))))) else (qw_X12_insertNote_75 a0 Q xp2 xp3 x16 (some a0) (1 : Int32) h))
set_option maxHeartbeats 4000000 in
set_option maxRecDepth 100000 in
theorem qm_X12_insertNote (l : Launch) (hl9 : l.stackTraces = false) (D : ql_D) (h0 : ql_H) (a0 : Nat) (xp1 : Int32) (xp2 : Int32) (xp3 : Int32) (Q : Int32 → ql_H → Prop) (X : String → ql_H → Prop) (w : qw_X12_insertNote a0 xp1 xp2 xp3 h0 Q) : ql_M D l yX12_insertNote cX12_insertNote 8 (some .int) ({ frames := 8, cells := 0, slots := 0, locals := 139 } : Room) h0 [.ref a0, .int xp1, .int xp2, .int xp3] (ql_rI Q) X 0 0 := by
  refine ql_ofW (by decide) (Nat.le_of_ble_eq_true rfl) ?_
  intro p e s m below meth c ls C hr hlocks hnm htab S hl
  have hl : lv_has ls 8 [(0, .ref a0), (1, .int xp1), (2, .int xp2), (3, .int xp3)] := hl
  have hB115 : ∀ n : Nat, ∀ (xl2 : Int32) (xl3 : Int32) (xl4 : Int32) (xl5 : Int32) (xl6 : Int32) (xl7 : Int32) (h : ql_H) (H : Heap) (locs : List Loc) (ls : Array Slot), ql_S D h0 s H locs h → lv_has ls 8 [(0, .ref a0), (2, .int xl2), (3, .int xl3), (4, .int xl4), (5, .int xl5), (6, .int xl6), (7, .int xl7)] → qw_X12_insertNote_115 a0 Q n xl2 xl3 xl4 xl5 xl6 xl7 h → W p l e ({ frames := 8, cells := 0, slots := 0, locals := 139 } : Room) s m ([.ref a0, .int xp1, .int xp2, .int xp3] : List Value).toArray below meth c H locs 0 0 (vx_MQ below (ql_Q D h0 (ql_rI Q)) (ql_X D h0 X) ([.ref a0, .int xp1, .int xp2, .int xp3] : List Value).toArray s 0 0 (ql_A h0)) (F0 m 115 ls []) := by
    intro n
    induction n with
    | zero => intro xl2 xl3 xl4 xl5 xl6 xl7 h H locs ls S hl w; rw [qw_X12_insertNote_115] at w; exact w.elim
    | succ n ih =>
      intro xl2 xl3 xl4 xl5 xl6 xl7 h H locs ls S hl w
      rw [qw_X12_insertNote_115] at w
      refine lv_iload C.1.1 C.1.2.1 dX12_insertNote_115 (lv_at hl 6 rfl) ?_
      refine lv_iload_n C.1.1 C.1.2.1 dX12_insertNote_117 rfl (lv_at hl 1 rfl) ?_
      refine lv_icmp_le (tgt := 149) C.1.1 C.1.2.1 dX12_insertNote_118 (by decide) (fun c9 => ?_) (fun c9 => ?_)
      · replace w := ql_if w c9
        refine ql_aload_n (r := (some a0)) C dX12_insertNote_149 rfl (lv_at hl 0 rfl) ?_
        refine lv_iload C.1.1 C.1.2.1 dX12_insertNote_150 (lv_at hl 3 rfl) ?_
        refine lv_iload C.1.1 C.1.2.1 dX12_insertNote_152 (lv_at hl 4 rfl) ?_
        refine lv_iload_n C.1.1 C.1.2.1 dX12_insertNote_154 rfl (lv_at hl 1 rfl) ?_
        refine lv_iload_n C.1.1 C.1.2.1 dX12_insertNote_155 rfl (lv_at hl 2 rfl) ?_
        refine ql_VV (As := [.int xl4, .int xl5, .int xl2, .int xl3]) (rest := []) C S htab hlocks hl qy_X12_puts qi_X12_puts qs_X12_puts gw_1764 (ci := 13) rfl w (fun b w => qm_X12_puts l hl9 D _ b xl4 xl5 xl2 xl3 _ _ w) rfl ⟨Nat.le_of_ble_eq_true rfl, Nat.le_of_ble_eq_true rfl⟩ ⟨rfl, rfl⟩ (by exact Nat.le_of_ble_eq_true rfl) (fun b e9 => by cases e9; rfl) dX12_insertNote_156 ⟨Nat.le_of_ble_eq_true rfl, Nat.le_of_ble_eq_true rfl⟩ ⟨Nat.le_of_ble_eq_true rfl, Nat.le_of_ble_eq_true rfl⟩ (fun h H locs S w => ?_)
        refine W.cs (cells' := 0) (slots' := 0) rfl rfl ?_
        refine ql_aload_n (r := (some a0)) C dX12_insertNote_159 rfl (lv_at hl 0 rfl) ?_
        refine lv_iload C.1.1 C.1.2.1 dX12_insertNote_160 (lv_at hl 3 rfl) ?_
        refine lv_iload C.1.1 C.1.2.1 dX12_insertNote_162 (lv_at hl 4 rfl) ?_
        refine lv_iconst (v := (1 : Int32)) C.1.1 C.1.2.1 dX12_insertNote_164 (by decide) ?_
        refine lv_iadd C.1.1 C.1.2.1 dX12_insertNote_165 ?_
        refine lv_iload C.1.1 C.1.2.1 dX12_insertNote_166 (lv_at hl 5 rfl) ?_
        refine lv_iconst (v := (1 : Int32)) C.1.1 C.1.2.1 dX12_insertNote_168 (by decide) ?_
        refine lv_iadd C.1.1 C.1.2.1 dX12_insertNote_169 ?_
        refine ql_VV (As := [.int xl4, .int (xl5 + (1 : Int32)), .int (xl6 + (1 : Int32))]) (rest := []) C S htab hlocks hl qy_X12_lays qi_X12_lays qs_X12_lays gw_1760 (ci := 13) rfl w (fun b w => qm_X12_lays l hl9 D _ b xl4 (xl5 + (1 : Int32)) (xl6 + (1 : Int32)) _ _ w) rfl ⟨Nat.le_of_ble_eq_true rfl, Nat.le_of_ble_eq_true rfl⟩ ⟨rfl, rfl⟩ (by exact Nat.le_of_ble_eq_true rfl) (fun b e9 => by cases e9; rfl) dX12_insertNote_170 ⟨Nat.le_of_ble_eq_true rfl, Nat.le_of_ble_eq_true rfl⟩ ⟨Nat.le_of_ble_eq_true rfl, Nat.le_of_ble_eq_true rfl⟩ (fun h H locs S w => ?_)
        refine W.cs (cells' := 0) (slots' := 0) rfl rfl ?_
        refine ql_aload_n (r := (some a0)) C dX12_insertNote_173 rfl (lv_at hl 0 rfl) ?_
        refine lv_iload C.1.1 C.1.2.1 dX12_insertNote_174 (lv_at hl 3 rfl) ?_
        refine lv_iconst (v := (4 : Int32)) C.1.1 C.1.2.1 dX12_insertNote_176 (by decide) ?_
        refine ql_VI (As := [.int xl4, .int (4 : Int32)]) (rest := []) C S htab hlocks hl qy_X12_of qi_X12_of qs_X12_of gw_1745 (ci := 13) rfl w (fun b w => qm_X12_of l hl9 D _ b xl4 (4 : Int32) _ _ w) rfl ⟨Nat.le_of_ble_eq_true rfl, Nat.le_of_ble_eq_true rfl⟩ ⟨rfl, rfl⟩ (by exact Nat.le_of_ble_eq_true rfl) (fun b e9 => by cases e9; rfl) dX12_insertNote_177 ⟨Nat.le_of_ble_eq_true rfl, Nat.le_of_ble_eq_true rfl⟩ ⟨Nat.le_of_ble_eq_true rfl, Nat.le_of_ble_eq_true rfl⟩ (fun x3 h H locs S w => ?_)
        refine W.cs (cells' := 0) (slots' := 0) rfl rfl ?_
        exact ql_iret C S hr hlocks dX12_insertNote_180 ⟨Nat.le_of_ble_eq_true rfl, Nat.le_of_ble_eq_true rfl⟩ w
      · replace w := ql_ifn w c9
        refine ql_aload_n (r := (some a0)) C dX12_insertNote_121 rfl (lv_at hl 0 rfl) ?_
        refine lv_iload C.1.1 C.1.2.1 dX12_insertNote_122 (lv_at hl 3 rfl) ?_
        refine lv_iload C.1.1 C.1.2.1 dX12_insertNote_124 (lv_at hl 4 rfl) ?_
        refine lv_iload C.1.1 C.1.2.1 dX12_insertNote_126 (lv_at hl 6 rfl) ?_
        refine ql_aload_n (r := (some a0)) C dX12_insertNote_128 rfl (lv_at hl 0 rfl) ?_
        refine lv_iload C.1.1 C.1.2.1 dX12_insertNote_129 (lv_at hl 3 rfl) ?_
        refine lv_iload C.1.1 C.1.2.1 dX12_insertNote_131 (lv_at hl 4 rfl) ?_
        refine lv_iload C.1.1 C.1.2.1 dX12_insertNote_133 (lv_at hl 6 rfl) ?_
        refine lv_iconst (v := (1 : Int32)) C.1.1 C.1.2.1 dX12_insertNote_135 (by decide) ?_
        refine lv_isub C.1.1 C.1.2.1 dX12_insertNote_136 ?_
        refine ql_VI (As := [.int xl4, .int xl5, .int (xl7 - (1 : Int32))]) (rest := [.int xl7, .int xl5, .int xl4, .ref a0]) C S htab hlocks hl qy_X12_note qi_X12_note qs_X12_note gw_1796 (ci := 13) rfl w (fun b w => qm_X12_note l hl9 D _ b xl4 xl5 (xl7 - (1 : Int32)) _ _ w) rfl ⟨Nat.le_of_ble_eq_true rfl, Nat.le_of_ble_eq_true rfl⟩ ⟨rfl, rfl⟩ (by exact Nat.le_of_ble_eq_true rfl) (fun b e9 => by cases e9; rfl) dX12_insertNote_137 ⟨Nat.le_of_ble_eq_true rfl, Nat.le_of_ble_eq_true rfl⟩ ⟨Nat.le_of_ble_eq_true rfl, Nat.le_of_ble_eq_true rfl⟩ (fun x5 h H locs S w => ?_)
        refine W.cs (cells' := 0) (slots' := 0) rfl rfl ?_
        refine ql_VV (As := [.int xl4, .int xl5, .int xl7, .int x5]) (rest := []) C S htab hlocks hl qy_X12_puts qi_X12_puts qs_X12_puts gw_1764 (ci := 13) rfl w (fun b w => qm_X12_puts l hl9 D _ b xl4 xl5 xl7 x5 _ _ w) rfl ⟨Nat.le_of_ble_eq_true rfl, Nat.le_of_ble_eq_true rfl⟩ ⟨rfl, rfl⟩ (by exact Nat.le_of_ble_eq_true rfl) (fun b e9 => by cases e9; rfl) dX12_insertNote_140 ⟨Nat.le_of_ble_eq_true rfl, Nat.le_of_ble_eq_true rfl⟩ ⟨Nat.le_of_ble_eq_true rfl, Nat.le_of_ble_eq_true rfl⟩ (fun h H locs S w => ?_)
        refine W.cs (cells' := 0) (slots' := 0) rfl rfl ?_
        refine lv_iinc (v := (xl7 + (-1 : Int32))) (lv' := [(7, .int (xl7 + (-1 : Int32))), (0, .ref a0), (2, .int xl2), (3, .int xl3), (4, .int xl4), (5, .int xl5), (6, .int xl6)]) C.1.1 C.1.2.1 dX12_insertNote_143 hl (k := 6) rfl rfl (by decide) rfl (fun ls hl => ?_)
        refine lv_goto (tgt := 115) C.1.1 C.1.2.1 dX12_insertNote_146 (by decide) ?_
        exact ih xl2 xl3 xl4 xl5 xl6 (xl7 + (-1 : Int32)) _ _ _ _ S (lv_sub hl [1, 2, 3, 4, 5, 6, 0] rfl) w
  have hB75 : ∀ (xl2 : Int32) (xl3 : Int32) (xl4 : Int32) (rs0 : Option Nat) (xs1 : Int32) (h : ql_H) (H : Heap) (locs : List Loc) (ls : Array Slot), ql_S D h0 s H locs h → lv_has ls 8 [(0, .ref a0), (2, .int xl2), (3, .int xl3), (4, .int xl4)] → qw_X12_insertNote_75 a0 Q xl2 xl3 xl4 rs0 xs1 h → W p l e ({ frames := 8, cells := 0, slots := 0, locals := 139 } : Room) s m ([.ref a0, .int xp1, .int xp2, .int xp3] : List Value).toArray below meth c H locs 0 0 (vx_MQ below (ql_Q D h0 (ql_rI Q)) (ql_X D h0 X) ([.ref a0, .int xp1, .int xp2, .int xp3] : List Value).toArray s 0 0 (ql_A h0)) (F0 m 75 ls [.int xs1, va_rf rs0]) := by
    intro xl2 xl3 xl4 rs0 xs1 h H locs ls S hl w
    unfold qw_X12_insertNote_75 at w
    refine ql_VI (As := [.int xs1]) (rest := []) C S htab hlocks hl qy_X12_fails qi_X12_fails qs_X12_fails gw_1749 (ci := 13) rfl w (fun b w => qm_X12_fails l hl9 D _ b xs1 _ _ w) rfl ⟨Nat.le_of_ble_eq_true rfl, Nat.le_of_ble_eq_true rfl⟩ ⟨rfl, rfl⟩ (by exact Nat.le_of_ble_eq_true rfl) (fun b e9 => by cases e9; rfl) dX12_insertNote_75 ⟨Nat.le_of_ble_eq_true rfl, Nat.le_of_ble_eq_true rfl⟩ ⟨Nat.le_of_ble_eq_true rfl, Nat.le_of_ble_eq_true rfl⟩ (fun x8 h H locs S w => ?_)
    refine W.cs (cells' := 0) (slots' := 0) rfl rfl ?_
    refine lv_if_eq (tgt := 83) C.1.1 C.1.2.1 dX12_insertNote_78 (by decide) (fun c9 => ?_) (fun c9 => ?_)
    · replace w := ql_if w c9
      refine ql_aload_n (r := (some a0)) C dX12_insertNote_83 rfl (lv_at hl 0 rfl) ?_
      refine ql_aload_n (r := (some a0)) C dX12_insertNote_84 rfl (lv_at hl 0 rfl) ?_
      refine ql_getR C S qf_13_0 gw_1668 dX12_insertNote_85 w (fun r10 w => ?_)
      refine ql_VV (As := [va_rf r10]) (rest := []) C S htab hlocks hl qy_X12_keeps qi_X12_keeps qs_X12_keeps gw_1753 (ci := 13) rfl w (fun b w => qm_X12_keeps l hl9 D _ b r10 _ _ w) rfl ⟨Nat.le_of_ble_eq_true rfl, Nat.le_of_ble_eq_true rfl⟩ ⟨rfl, rfl⟩ (by exact Nat.le_of_ble_eq_true rfl) (fun b e9 => by cases e9; rfl) dX12_insertNote_88 ⟨Nat.le_of_ble_eq_true rfl, Nat.le_of_ble_eq_true rfl⟩ ⟨Nat.le_of_ble_eq_true rfl, Nat.le_of_ble_eq_true rfl⟩ (fun h H locs S w => ?_)
      refine W.cs (cells' := 0) (slots' := 0) rfl rfl ?_
      refine ql_aload_n (r := (some a0)) C dX12_insertNote_91 rfl (lv_at hl 0 rfl) ?_
      refine lv_iload C.1.1 C.1.2.1 dX12_insertNote_92 (lv_at hl 3 rfl) ?_
      refine ql_VI (As := [.int xl4]) (rest := []) C S htab hlocks hl qy_X12_amends qi_X12_amends qs_X12_amends gw_1792 (ci := 13) rfl w (fun b w => qm_X12_amends l hl9 D _ b xl4 _ _ w) rfl ⟨Nat.le_of_ble_eq_true rfl, Nat.le_of_ble_eq_true rfl⟩ ⟨rfl, rfl⟩ (by exact Nat.le_of_ble_eq_true rfl) (fun b e9 => by cases e9; rfl) dX12_insertNote_94 ⟨Nat.le_of_ble_eq_true rfl, Nat.le_of_ble_eq_true rfl⟩ ⟨Nat.le_of_ble_eq_true rfl, Nat.le_of_ble_eq_true rfl⟩ (fun x12 h H locs S w => ?_)
      refine W.cs (cells' := 0) (slots' := 0) rfl rfl ?_
      refine lv_istore (lv' := [(5, .int x12), (0, .ref a0), (2, .int xl2), (3, .int xl3), (4, .int xl4)]) C.1.1 C.1.2.1 dX12_insertNote_97 hl (by decide) rfl (fun ls hl => ?_)
      refine ql_aload_n (r := (some a0)) C dX12_insertNote_99 rfl (lv_at hl 1 rfl) ?_
      refine lv_iload C.1.1 C.1.2.1 dX12_insertNote_100 (lv_at hl 4 rfl) ?_
      refine lv_iload C.1.1 C.1.2.1 dX12_insertNote_102 (lv_at hl 0 rfl) ?_
      refine lv_iconst (v := (1 : Int32)) C.1.1 C.1.2.1 dX12_insertNote_104 (by decide) ?_
      refine lv_iadd C.1.1 C.1.2.1 dX12_insertNote_105 ?_
      refine ql_VI (As := [.int xl4, .int (x12 + (1 : Int32))]) (rest := []) C S htab hlocks hl qy_X12_of qi_X12_of qs_X12_of gw_1745 (ci := 13) rfl w (fun b w => qm_X12_of l hl9 D _ b xl4 (x12 + (1 : Int32)) _ _ w) rfl ⟨Nat.le_of_ble_eq_true rfl, Nat.le_of_ble_eq_true rfl⟩ ⟨rfl, rfl⟩ (by exact Nat.le_of_ble_eq_true rfl) (fun b e9 => by cases e9; rfl) dX12_insertNote_106 ⟨Nat.le_of_ble_eq_true rfl, Nat.le_of_ble_eq_true rfl⟩ ⟨Nat.le_of_ble_eq_true rfl, Nat.le_of_ble_eq_true rfl⟩ (fun x14 h H locs S w => ?_)
      refine W.cs (cells' := 0) (slots' := 0) rfl rfl ?_
      refine lv_istore (lv' := [(6, .int x14), (5, .int x12), (0, .ref a0), (2, .int xl2), (3, .int xl3), (4, .int xl4)]) C.1.1 C.1.2.1 dX12_insertNote_109 hl (by decide) rfl (fun ls hl => ?_)
      refine lv_iload C.1.1 C.1.2.1 dX12_insertNote_111 (lv_at hl 0 rfl) ?_
      refine lv_istore (lv' := [(7, .int x14), (6, .int x14), (5, .int x12), (0, .ref a0), (2, .int xl2), (3, .int xl3), (4, .int xl4)]) C.1.1 C.1.2.1 dX12_insertNote_113 hl (by decide) rfl (fun ls hl => ?_)
      exact hB115 ql_FU xl2 xl3 xl4 x12 x14 x14 _ _ _ _ S (lv_sub hl [3, 4, 5, 6, 2, 1, 0] rfl) w
    · replace w := ql_ifn w c9
      refine lv_iconst (v := (0 : Int32)) C.1.1 C.1.2.1 dX12_insertNote_81 (by decide) ?_
      exact ql_iret C S hr hlocks dX12_insertNote_82 ⟨Nat.le_of_ble_eq_true rfl, Nat.le_of_ble_eq_true rfl⟩ w
  unfold qw_X12_insertNote at w
  refine ql_aload_n (r := (some a0)) C dX12_insertNote_0 rfl (lv_at hl 0 rfl) ?_
  refine lv_iload_n C.1.1 C.1.2.1 dX12_insertNote_1 rfl (lv_at hl 1 rfl) ?_
  refine ql_VI (As := [.int xp1]) (rest := []) C S htab hlocks hl qy_X12_placeOf qi_X12_placeOf qs_X12_placeOf gw_1772 (ci := 13) rfl w (fun b w => qm_X12_placeOf l hl9 D _ b xp1 _ _ w) rfl ⟨Nat.le_of_ble_eq_true rfl, Nat.le_of_ble_eq_true rfl⟩ ⟨rfl, rfl⟩ (by exact Nat.le_of_ble_eq_true rfl) (fun b e9 => by cases e9; rfl) dX12_insertNote_2 ⟨Nat.le_of_ble_eq_true rfl, Nat.le_of_ble_eq_true rfl⟩ ⟨Nat.le_of_ble_eq_true rfl, Nat.le_of_ble_eq_true rfl⟩ (fun x16 h H locs S w => ?_)
  refine W.cs (cells' := 0) (slots' := 0) rfl rfl ?_
  refine lv_istore (lv' := [(4, .int x16), (0, .ref a0), (1, .int xp1), (2, .int xp2), (3, .int xp3)]) C.1.1 C.1.2.1 dX12_insertNote_5 hl (by decide) rfl (fun ls hl => ?_)
  refine ql_aload_n (r := (some a0)) C dX12_insertNote_7 rfl (lv_at hl 1 rfl) ?_
  refine lv_iload C.1.1 C.1.2.1 dX12_insertNote_8 (lv_at hl 0 rfl) ?_
  refine lv_if_ge (tgt := 17) C.1.1 C.1.2.1 dX12_insertNote_10 (by decide) (fun c9 => ?_) (fun c9 => ?_)
  · replace w := ql_if w c9
    refine lv_iload_n C.1.1 C.1.2.1 dX12_insertNote_17 rfl (lv_at hl 3 rfl) ?_
    refine lv_iconst (v := (0 : Int32)) C.1.1 C.1.2.1 dX12_insertNote_18 (by decide) ?_
    refine ql_aload_n (r := (some a0)) C dX12_insertNote_19 rfl (lv_at hl 1 rfl) ?_
    refine lv_iload C.1.1 C.1.2.1 dX12_insertNote_20 (lv_at hl 0 rfl) ?_
    refine ql_VI (As := [.int x16]) (rest := [.int (0 : Int32), .int xp2, .ref a0]) C S htab hlocks hl qy_X12_long0 qi_X12_long0 qs_X12_long0 gw_1776 (ci := 13) rfl w (fun b w => qm_X12_long0 l hl9 D _ b x16 _ _ w) rfl ⟨Nat.le_of_ble_eq_true rfl, Nat.le_of_ble_eq_true rfl⟩ ⟨rfl, rfl⟩ (by exact Nat.le_of_ble_eq_true rfl) (fun b e9 => by cases e9; rfl) dX12_insertNote_22 ⟨Nat.le_of_ble_eq_true rfl, Nat.le_of_ble_eq_true rfl⟩ ⟨Nat.le_of_ble_eq_true rfl, Nat.le_of_ble_eq_true rfl⟩ (fun x18 h H locs S w => ?_)
    refine W.cs (cells' := 0) (slots' := 0) rfl rfl ?_
    refine ql_SI (As := [.int xp2, .int (0 : Int32), .int x18]) (rest := [.ref a0]) C S htab hlocks hl qy_X12_in qi_X12_in gw_1735 (qm_X12_in l hl9 D _ xp2 (0 : Int32) x18 _ _ w) rfl ⟨Nat.le_of_ble_eq_true rfl, Nat.le_of_ble_eq_true rfl⟩ ⟨rfl, rfl⟩ (by exact Nat.le_of_ble_eq_true rfl) rfl dX12_insertNote_25 ⟨Nat.le_of_ble_eq_true rfl, Nat.le_of_ble_eq_true rfl⟩ ⟨Nat.le_of_ble_eq_true rfl, Nat.le_of_ble_eq_true rfl⟩ (fun x20 h H locs S w => ?_)
    refine W.cs (cells' := 0) (slots' := 0) rfl rfl ?_
    refine lv_if_ne (tgt := 35) C.1.1 C.1.2.1 dX12_insertNote_28 (by decide) (fun c9 => ?_) (fun c9 => ?_)
    · replace w := ql_ifn w c9
      refine lv_iload_n C.1.1 C.1.2.1 dX12_insertNote_35 rfl (lv_at hl 4 rfl) ?_
      refine ql_SI (As := [.int xp3]) (rest := [.ref a0]) C S htab hlocks hl qy_X12_isNote qi_X12_isNote gw_1738 (qm_X12_isNote l hl9 D _ xp3 _ _ w) rfl ⟨Nat.le_of_ble_eq_true rfl, Nat.le_of_ble_eq_true rfl⟩ ⟨rfl, rfl⟩ (by exact Nat.le_of_ble_eq_true rfl) rfl dX12_insertNote_36 ⟨Nat.le_of_ble_eq_true rfl, Nat.le_of_ble_eq_true rfl⟩ ⟨Nat.le_of_ble_eq_true rfl, Nat.le_of_ble_eq_true rfl⟩ (fun x21 h H locs S w => ?_)
      refine W.cs (cells' := 0) (slots' := 0) rfl rfl ?_
      refine lv_if_ne (tgt := 46) C.1.1 C.1.2.1 dX12_insertNote_39 (by decide) (fun c9 => ?_) (fun c9 => ?_)
      · replace w := ql_ifn w c9
        refine ql_aload_n (r := (some a0)) C dX12_insertNote_46 rfl (lv_at hl 1 rfl) ?_
        refine lv_iload C.1.1 C.1.2.1 dX12_insertNote_47 (lv_at hl 0 rfl) ?_
        refine ql_VI (As := [.int x16]) (rest := [.ref a0]) C S htab hlocks hl qy_X12_isClosed qi_X12_isClosed qs_X12_isClosed gw_1784 (ci := 13) rfl w (fun b w => qm_X12_isClosed l hl9 D _ b x16 _ _ w) rfl ⟨Nat.le_of_ble_eq_true rfl, Nat.le_of_ble_eq_true rfl⟩ ⟨rfl, rfl⟩ (by exact Nat.le_of_ble_eq_true rfl) (fun b e9 => by cases e9; rfl) dX12_insertNote_49 ⟨Nat.le_of_ble_eq_true rfl, Nat.le_of_ble_eq_true rfl⟩ ⟨Nat.le_of_ble_eq_true rfl, Nat.le_of_ble_eq_true rfl⟩ (fun x22 h H locs S w => ?_)
        refine W.cs (cells' := 0) (slots' := 0) rfl rfl ?_
        refine lv_if_eq (tgt := 59) C.1.1 C.1.2.1 dX12_insertNote_52 (by decide) (fun c9 => ?_) (fun c9 => ?_)
        · replace w := ql_if w c9
          refine ql_aload_n (r := (some a0)) C dX12_insertNote_59 rfl (lv_at hl 1 rfl) ?_
          refine lv_iload C.1.1 C.1.2.1 dX12_insertNote_60 (lv_at hl 0 rfl) ?_
          refine ql_VI (As := [.int x16]) (rest := [.ref a0]) C S htab hlocks hl qy_X12_long0 qi_X12_long0 qs_X12_long0 gw_1776 (ci := 13) rfl w (fun b w => qm_X12_long0 l hl9 D _ b x16 _ _ w) rfl ⟨Nat.le_of_ble_eq_true rfl, Nat.le_of_ble_eq_true rfl⟩ ⟨rfl, rfl⟩ (by exact Nat.le_of_ble_eq_true rfl) (fun b e9 => by cases e9; rfl) dX12_insertNote_62 ⟨Nat.le_of_ble_eq_true rfl, Nat.le_of_ble_eq_true rfl⟩ ⟨Nat.le_of_ble_eq_true rfl, Nat.le_of_ble_eq_true rfl⟩ (fun x24 h H locs S w => ?_)
          refine W.cs (cells' := 0) (slots' := 0) rfl rfl ?_
          refine lv_bipush (v := (12 : Int32)) C.1.1 C.1.2.1 dX12_insertNote_65 (by decide) ?_
          refine lv_icmp_ne (tgt := 74) C.1.1 C.1.2.1 dX12_insertNote_67 (by decide) (fun c9 => ?_) (fun c9 => ?_)
          · replace w := ql_ifn w c9
            refine lv_iconst (v := (0 : Int32)) C.1.1 C.1.2.1 dX12_insertNote_74 (by decide) ?_
            exact hB75 xp2 xp3 x16 (some a0) (0 : Int32) _ _ _ _ S (lv_sub hl [1, 3, 4, 0] rfl) w
          · replace w := ql_if w c9
            refine lv_iconst (v := (5 : Int32)) C.1.1 C.1.2.1 dX12_insertNote_70 (by decide) ?_
            refine lv_goto (tgt := 75) C.1.1 C.1.2.1 dX12_insertNote_71 (by decide) ?_
            exact hB75 xp2 xp3 x16 (some a0) (5 : Int32) _ _ _ _ S (lv_sub hl [1, 3, 4, 0] rfl) w
        · replace w := ql_ifn w c9
          refine lv_iconst (v := (4 : Int32)) C.1.1 C.1.2.1 dX12_insertNote_55 (by decide) ?_
          refine lv_goto (tgt := 75) C.1.1 C.1.2.1 dX12_insertNote_56 (by decide) ?_
          exact hB75 xp2 xp3 x16 (some a0) (4 : Int32) _ _ _ _ S (lv_sub hl [1, 3, 4, 0] rfl) w
      · replace w := ql_if w c9
        refine lv_iconst (v := (3 : Int32)) C.1.1 C.1.2.1 dX12_insertNote_42 (by decide) ?_
        refine lv_goto (tgt := 75) C.1.1 C.1.2.1 dX12_insertNote_43 (by decide) ?_
        exact hB75 xp2 xp3 x16 (some a0) (3 : Int32) _ _ _ _ S (lv_sub hl [1, 3, 4, 0] rfl) w
    · replace w := ql_if w c9
      refine lv_iconst (v := (2 : Int32)) C.1.1 C.1.2.1 dX12_insertNote_31 (by decide) ?_
      refine lv_goto (tgt := 75) C.1.1 C.1.2.1 dX12_insertNote_32 (by decide) ?_
      exact hB75 xp2 xp3 x16 (some a0) (2 : Int32) _ _ _ _ S (lv_sub hl [1, 3, 4, 0] rfl) w
  · replace w := ql_ifn w c9
    refine lv_iconst (v := (1 : Int32)) C.1.1 C.1.2.1 dX12_insertNote_13 (by decide) ?_
    refine lv_goto (tgt := 75) C.1.1 C.1.2.1 dX12_insertNote_14 (by decide) ?_
    exact hB75 xp2 xp3 x16 (some a0) (1 : Int32) _ _ _ _ S (lv_sub hl [1, 3, 4, 0] rfl) w
