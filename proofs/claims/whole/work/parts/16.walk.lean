def qw_X12_restore_13 (a0 : Nat) (Q : Int32 → ql_H → Prop) (rs0 : Option Nat) (xs1 : Int32) (h : ql_H) : Prop :=
ql_rv h rs0 13 fun b1 => qw_X12_fails b1 xs1 h (fun x1 h =>
if x1 = 0 then (ql_gR h (some a0) 13 2 fun r3 =>
ql_gR h (some a0) 13 0 fun r4 =>
qw_X12_copies r3 (0 : Int32) r4 (0 : Int32) h (fun h =>
ql_pV h (some a0) 13 5 (.int (0 : Int32)) fun h =>
ql_gR h (some a0) 13 0 fun r5 =>
ql_lI h r5 0 (0 : Int32) fun x6 =>
Q x6 h)) else (Q (0 : Int32) h))
def qw_X12_restore (a0 : Nat) (h : ql_H) (Q : Int32 → ql_H → Prop) : Prop :=
ql_gI h (some a0) 13 4 fun x7 =>
if x7 = 0 then (qw_X12_restore_13 a0 Q (some a0) (1 : Int32) h) else (qw_X12_restore_13 a0 Q (some a0) (0 : Int32) h)
set_option maxHeartbeats 4000000 in
set_option maxRecDepth 100000 in
theorem qm_X12_restore (l : Launch) (hl9 : l.stackTraces = false) (D : ql_D) (h0 : ql_H) (a0 : Nat) (Q : Int32 → ql_H → Prop) (X : String → ql_H → Prop) (w : qw_X12_restore a0 h0 Q) : ql_M D l yX12_restore cX12_restore 1 (some .int) ({ frames := 4, cells := 0, slots := 0, locals := 80 } : Room) h0 [.ref a0] (ql_rI Q) X 0 0 := by
  refine ql_ofW (by decide) (Nat.le_of_ble_eq_true rfl) ?_
  intro p e s m below meth c ls C hr hlocks hnm htab S hl
  have hl : lv_has ls 1 [(0, .ref a0)] := hl
  have hB13 : ∀ (rs0 : Option Nat) (xs1 : Int32) (h : ql_H) (H : Heap) (locs : List Loc) (ls : Array Slot), ql_S D h0 s H locs h → lv_has ls 1 [(0, .ref a0)] → qw_X12_restore_13 a0 Q rs0 xs1 h → W p l e ({ frames := 4, cells := 0, slots := 0, locals := 80 } : Room) s m ([.ref a0] : List Value).toArray below meth c H locs 0 0 (vx_MQ below (ql_Q D h0 (ql_rI Q)) (ql_X D h0 X) ([.ref a0] : List Value).toArray s 0 0 (ql_A h0)) (F0 m 13 ls [.int xs1, va_rf rs0]) := by
    intro rs0 xs1 h H locs ls S hl w
    unfold qw_X12_restore_13 at w
    refine ql_VI (As := [.int xs1]) (rest := []) C S htab hlocks hl qy_X12_fails qi_X12_fails qs_X12_fails gw_1749 (ci := 13) rfl w (fun b w => qm_X12_fails l hl9 D _ b xs1 _ _ w) rfl ⟨Nat.le_of_ble_eq_true rfl, Nat.le_of_ble_eq_true rfl⟩ ⟨rfl, rfl⟩ (by exact Nat.le_of_ble_eq_true rfl) (fun b e9 => by cases e9; rfl) dX12_restore_13 ⟨Nat.le_of_ble_eq_true rfl, Nat.le_of_ble_eq_true rfl⟩ ⟨Nat.le_of_ble_eq_true rfl, Nat.le_of_ble_eq_true rfl⟩ (fun x1 h H locs S w => ?_)
    refine W.cs (cells' := 0) (slots' := 0) rfl rfl ?_
    refine lv_if_eq (tgt := 21) C.1.1 C.1.2.1 dX12_restore_16 (by decide) (fun c9 => ?_) (fun c9 => ?_)
    · replace w := ql_if w c9
      refine ql_aload_n (r := (some a0)) C dX12_restore_21 rfl (lv_at hl 0 rfl) ?_
      refine ql_getR C S qf_13_2 gw_1670 dX12_restore_22 w (fun r3 w => ?_)
      refine lv_iconst (v := (0 : Int32)) C.1.1 C.1.2.1 dX12_restore_25 (by decide) ?_
      refine ql_aload_n (r := (some a0)) C dX12_restore_26 rfl (lv_at hl 0 rfl) ?_
      refine ql_getR C S qf_13_0 gw_1668 dX12_restore_27 w (fun r4 w => ?_)
      refine lv_iconst (v := (0 : Int32)) C.1.1 C.1.2.1 dX12_restore_30 (by decide) ?_
      refine ql_SV (As := [va_rf r3, .int (0 : Int32), va_rf r4, .int (0 : Int32)]) (rest := []) C S htab hlocks hl qy_X12_copies qi_X12_copies gw_1757 (qm_X12_copies l hl9 D _ r3 (0 : Int32) r4 (0 : Int32) _ _ w) rfl ⟨Nat.le_of_ble_eq_true rfl, Nat.le_of_ble_eq_true rfl⟩ ⟨rfl, rfl⟩ (by exact Nat.le_of_ble_eq_true rfl) rfl dX12_restore_31 ⟨Nat.le_of_ble_eq_true rfl, Nat.le_of_ble_eq_true rfl⟩ ⟨Nat.le_of_ble_eq_true rfl, Nat.le_of_ble_eq_true rfl⟩ (fun h H locs S w => ?_)
      refine W.cs (cells' := 0) (slots' := 0) rfl rfl ?_
      refine ql_aload_n (r := (some a0)) C dX12_restore_34 rfl (lv_at hl 0 rfl) ?_
      refine lv_iconst (v := (0 : Int32)) C.1.1 C.1.2.1 dX12_restore_35 (by decide) ?_
      refine ql_putV C S qf_13_5 gw_1673 (tyX12) tyX12_ok nmX12 rfl dX12_restore_36 (v := .int (0 : Int32)) rfl rfl w (fun h H locs S w => ?_)
      refine ql_aload_n (r := (some a0)) C dX12_restore_39 rfl (lv_at hl 0 rfl) ?_
      refine ql_getR C S qf_13_0 gw_1668 dX12_restore_40 w (fun r5 w => ?_)
      refine lv_iconst (v := (0 : Int32)) C.1.1 C.1.2.1 dX12_restore_43 (by decide) ?_
      refine ql_iald C S dX12_restore_44 w (fun x6 w => ?_)
      exact ql_iret C S hr hlocks dX12_restore_45 ⟨Nat.le_of_ble_eq_true rfl, Nat.le_of_ble_eq_true rfl⟩ w
    · replace w := ql_ifn w c9
      refine lv_iconst (v := (0 : Int32)) C.1.1 C.1.2.1 dX12_restore_19 (by decide) ?_
      exact ql_iret C S hr hlocks dX12_restore_20 ⟨Nat.le_of_ble_eq_true rfl, Nat.le_of_ble_eq_true rfl⟩ w
  unfold qw_X12_restore at w
  refine ql_aload_n (r := (some a0)) C dX12_restore_0 rfl (lv_at hl 0 rfl) ?_
  refine ql_aload_n (r := (some a0)) C dX12_restore_1 rfl (lv_at hl 0 rfl) ?_
  refine ql_getI C S qf_13_4 gw_1672 dX12_restore_2 w (fun x7 w => ?_)
  refine lv_if_eq (tgt := 12) C.1.1 C.1.2.1 dX12_restore_5 (by decide) (fun c9 => ?_) (fun c9 => ?_)
  · replace w := ql_if w c9
    refine lv_iconst (v := (1 : Int32)) C.1.1 C.1.2.1 dX12_restore_12 (by decide) ?_
    exact hB13 (some a0) (1 : Int32) _ _ _ _ S (lv_sub hl [0] rfl) w
  · replace w := ql_ifn w c9
    refine lv_iconst (v := (0 : Int32)) C.1.1 C.1.2.1 dX12_restore_8 (by decide) ?_
    refine lv_goto (tgt := 13) C.1.1 C.1.2.1 dX12_restore_9 (by decide) ?_
    exact hB13 (some a0) (0 : Int32) _ _ _ _ S (lv_sub hl [0] rfl) w
