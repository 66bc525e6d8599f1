def qw_X11_errorPosition (a0 : Nat) (h : ql_H) (Q : Int32 → ql_H → Prop) (X : String → ql_H → Prop) : Prop :=
ql_gI h (some a0) 12 5 fun x1 =>
if x1 = (-1 : Int32) then (∀ n9 : Nat, h.1 ≤ n9 → X "java/util/NoSuchElementException" (n9, h.2)) else (ql_gI h (some a0) 12 5 fun x2 =>
Q x2 h)
set_option maxHeartbeats 4000000 in
set_option maxRecDepth 100000 in
theorem qm_X11_errorPosition (l : Launch) (hl9 : l.stackTraces = false) (D : ql_D) (h0 : ql_H) (a0 : Nat) (Q : Int32 → ql_H → Prop) (X : String → ql_H → Prop) (w : qw_X11_errorPosition a0 h0 Q X) : ql_M D l yX11_errorPosition cX11_errorPosition 1 (some .int) ({ frames := 8, cells := 1, slots := 6, locals := 101 } : Room) h0 [.ref a0] (ql_rI Q) X 1 6 := by
  refine ql_ofW (by decide) (Nat.le_of_ble_eq_true rfl) ?_
  intro p e s m below meth c ls C hr hlocks hnm htab S hl
  have hl : lv_has ls 1 [(0, .ref a0)] := hl
  unfold qw_X11_errorPosition at w
  refine ql_aload_n (r := (some a0)) C dX11_errorPosition_0 rfl (lv_at hl 0 rfl) ?_
  refine ql_getI C S qf_12_5 gw_353 dX11_errorPosition_1 w (fun x1 w => ?_)
  refine lv_iconst (v := (-1 : Int32)) C.1.1 C.1.2.1 dX11_errorPosition_4 (by decide) ?_
  refine lv_icmp_ne (tgt := 16) C.1.1 C.1.2.1 dX11_errorPosition_5 (by decide) (fun c9 => ?_) (fun c9 => ?_)
  · replace w := ql_ifn w c9
    refine ql_aload_n (r := (some a0)) C dX11_errorPosition_16 rfl (lv_at hl 0 rfl) ?_
    refine ql_getI C S qf_12_5 gw_353 dX11_errorPosition_17 w (fun x2 w => ?_)
    exact ql_iret C S hr hlocks dX11_errorPosition_20 ⟨Nat.le_of_ble_eq_true rfl, Nat.le_of_ble_eq_true rfl⟩ w
  · replace w := ql_if w c9
    exact ql_throw trivial C S qx_RX11_123 gw_488 gw_92 hl htab hlocks hl9 dX11_errorPosition_8 dX11_errorPosition_11 dX11_errorPosition_12 dX11_errorPosition_15 ⟨Nat.le_of_ble_eq_true rfl, Nat.le_of_ble_eq_true rfl, Nat.le_of_ble_eq_true rfl⟩ (by exact Nat.le_of_ble_eq_true rfl) ⟨Nat.le_of_ble_eq_true rfl, Nat.le_of_ble_eq_true rfl⟩ w
def qw_X11_failedCommand (a0 : Nat) (h : ql_H) (Q : Int32 → ql_H → Prop) (X : String → ql_H → Prop) : Prop :=
ql_gI h (some a0) 12 6 fun x1 =>
if x1 = (-1 : Int32) then (∀ n9 : Nat, h.1 ≤ n9 → X "java/util/NoSuchElementException" (n9, h.2)) else (ql_gI h (some a0) 12 6 fun x2 =>
Q x2 h)
set_option maxHeartbeats 4000000 in
set_option maxRecDepth 100000 in
theorem qm_X11_failedCommand (l : Launch) (hl9 : l.stackTraces = false) (D : ql_D) (h0 : ql_H) (a0 : Nat) (Q : Int32 → ql_H → Prop) (X : String → ql_H → Prop) (w : qw_X11_failedCommand a0 h0 Q X) : ql_M D l yX11_failedCommand cX11_failedCommand 1 (some .int) ({ frames := 8, cells := 1, slots := 6, locals := 101 } : Room) h0 [.ref a0] (ql_rI Q) X 1 6 := by
  refine ql_ofW (by decide) (Nat.le_of_ble_eq_true rfl) ?_
  intro p e s m below meth c ls C hr hlocks hnm htab S hl
  have hl : lv_has ls 1 [(0, .ref a0)] := hl
  unfold qw_X11_failedCommand at w
  refine ql_aload_n (r := (some a0)) C dX11_failedCommand_0 rfl (lv_at hl 0 rfl) ?_
  refine ql_getI C S qf_12_6 gw_354 dX11_failedCommand_1 w (fun x1 w => ?_)
  refine lv_iconst (v := (-1 : Int32)) C.1.1 C.1.2.1 dX11_failedCommand_4 (by decide) ?_
  refine lv_icmp_ne (tgt := 16) C.1.1 C.1.2.1 dX11_failedCommand_5 (by decide) (fun c9 => ?_) (fun c9 => ?_)
  · replace w := ql_ifn w c9
    refine ql_aload_n (r := (some a0)) C dX11_failedCommand_16 rfl (lv_at hl 0 rfl) ?_
    refine ql_getI C S qf_12_6 gw_354 dX11_failedCommand_17 w (fun x2 w => ?_)
    exact ql_iret C S hr hlocks dX11_failedCommand_20 ⟨Nat.le_of_ble_eq_true rfl, Nat.le_of_ble_eq_true rfl⟩ w
  · replace w := ql_if w c9
    exact ql_throw trivial C S qx_RX11_123 gw_488 gw_92 hl htab hlocks hl9 dX11_failedCommand_8 dX11_failedCommand_11 dX11_failedCommand_12 dX11_failedCommand_15 ⟨Nat.le_of_ble_eq_true rfl, Nat.le_of_ble_eq_true rfl, Nat.le_of_ble_eq_true rfl⟩ (by exact Nat.le_of_ble_eq_true rfl) ⟨Nat.le_of_ble_eq_true rfl, Nat.le_of_ble_eq_true rfl⟩ w
def qw_X12_thrown (a0 : Nat) (h : ql_H) (Q : Int32 → ql_H → Prop) : Prop :=
ql_gI h (some a0) 13 7 fun x1 =>
Q x1 h
set_option maxHeartbeats 4000000 in
set_option maxRecDepth 100000 in
theorem qm_X12_thrown (l : Launch) (hl9 : l.stackTraces = false) (D : ql_D) (h0 : ql_H) (a0 : Nat) (Q : Int32 → ql_H → Prop) (X : String → ql_H → Prop) (w : qw_X12_thrown a0 h0 Q) : ql_M D l yX12_thrown cX12_thrown 1 (some .int) ({ frames := 2, cells := 0, slots := 0, locals := 48 } : Room) h0 [.ref a0] (ql_rI Q) X 0 0 := by
  refine ql_ofW (by decide) (Nat.le_of_ble_eq_true rfl) ?_
  intro p e s m below meth c ls C hr hlocks hnm htab S hl
  have hl : lv_has ls 1 [(0, .ref a0)] := hl
  unfold qw_X12_thrown at w
  refine ql_aload_n (r := (some a0)) C dX12_thrown_0 rfl (lv_at hl 0 rfl) ?_
  refine ql_getI C S qf_13_7 gw_1675 dX12_thrown_1 w (fun x1 w => ?_)
  exact ql_iret C S hr hlocks dX12_thrown_4 ⟨Nat.le_of_ble_eq_true rfl, Nat.le_of_ble_eq_true rfl⟩ w
def qw_X12_fails (a0 : Nat) (xp1 : Int32) (h : ql_H) (Q : Int32 → ql_H → Prop) : Prop :=
ql_pV h (some a0) 13 7 (.int xp1) fun h =>
if xp1 ≤ 0 then (ql_nz .boolean (0 : Int32) ∧ Q (0 : Int32) h) else (ql_nz .boolean (1 : Int32) ∧ Q (1 : Int32) h)
set_option maxHeartbeats 4000000 in
set_option maxRecDepth 100000 in
theorem qm_X12_fails (l : Launch) (hl9 : l.stackTraces = false) (D : ql_D) (h0 : ql_H) (a0 : Nat) (xp1 : Int32) (Q : Int32 → ql_H → Prop) (X : String → ql_H → Prop) (w : qw_X12_fails a0 xp1 h0 Q) : ql_M D l yX12_fails cX12_fails 2 (some .boolean) ({ frames := 2, cells := 0, slots := 0, locals := 48 } : Room) h0 [.ref a0, .int xp1] (ql_rI Q) X 0 0 := by
  refine ql_ofW (by decide) (Nat.le_of_ble_eq_true rfl) ?_
  intro p e s m below meth c ls C hr hlocks hnm htab S hl
  have hl : lv_has ls 2 [(0, .ref a0), (1, .int xp1)] := hl
  unfold qw_X12_fails at w
  refine ql_aload_n (r := (some a0)) C dX12_fails_0 rfl (lv_at hl 0 rfl) ?_
  refine lv_iload_n C.1.1 C.1.2.1 dX12_fails_1 rfl (lv_at hl 1 rfl) ?_
  refine ql_putV C S qf_13_7 gw_1675 (tyX12) tyX12_ok nmX12 rfl dX12_fails_2 (v := .int xp1) rfl rfl w (fun h H locs S w => ?_)
  refine lv_iload_n C.1.1 C.1.2.1 dX12_fails_5 rfl (lv_at hl 1 rfl) ?_
  refine lv_if_le (tgt := 13) C.1.1 C.1.2.1 dX12_fails_6 (by decide) (fun c9 => ?_) (fun c9 => ?_)
  · replace w := ql_if w c9
    refine lv_iconst (v := (0 : Int32)) C.1.1 C.1.2.1 dX12_fails_13 (by decide) ?_
    exact ql_zret C S hr hlocks dX12_fails_14 ⟨Nat.le_of_ble_eq_true rfl, Nat.le_of_ble_eq_true rfl⟩ w
  · replace w := ql_ifn w c9
    refine lv_iconst (v := (1 : Int32)) C.1.1 C.1.2.1 dX12_fails_9 (by decide) ?_
    refine lv_goto (tgt := 14) C.1.1 C.1.2.1 dX12_fails_10 (by decide) ?_
    exact ql_zret C S hr hlocks dX12_fails_14 ⟨Nat.le_of_ble_eq_true rfl, Nat.le_of_ble_eq_true rfl⟩ w
def qw_X12_in (xp0 : Int32) (xp1 : Int32) (xp2 : Int32) (h : ql_H) (Q : Int32 → ql_H → Prop) : Prop :=
if xp0 < xp1 then (ql_nz .boolean (0 : Int32) ∧ Q (0 : Int32) h) else (if xp2 < xp0 then (ql_nz .boolean (0 : Int32) ∧ Q (0 : Int32) h) else (ql_nz .boolean (1 : Int32) ∧ Q (1 : Int32) h))
set_option maxHeartbeats 4000000 in
set_option maxRecDepth 100000 in
theorem qm_X12_in (l : Launch) (hl9 : l.stackTraces = false) (D : ql_D) (h0 : ql_H) (xp0 : Int32) (xp1 : Int32) (xp2 : Int32) (Q : Int32 → ql_H → Prop) (X : String → ql_H → Prop) (w : qw_X12_in xp0 xp1 xp2 h0 Q) : ql_M D l yX12_in cX12_in 3 (some .boolean) ({ frames := 2, cells := 0, slots := 0, locals := 48 } : Room) h0 [.int xp0, .int xp1, .int xp2] (ql_rI Q) X 0 0 := by
  refine ql_ofW (by decide) (Nat.le_of_ble_eq_true rfl) ?_
  intro p e s m below meth c ls C hr hlocks hnm htab S hl
  have hl : lv_has ls 3 [(0, .int xp0), (1, .int xp1), (2, .int xp2)] := hl
  unfold qw_X12_in at w
  refine lv_iload_n C.1.1 C.1.2.1 dX12_in_0 rfl (lv_at hl 0 rfl) ?_
  refine lv_iload_n C.1.1 C.1.2.1 dX12_in_1 rfl (lv_at hl 1 rfl) ?_
  refine lv_icmp_lt (tgt := 14) C.1.1 C.1.2.1 dX12_in_2 (by decide) (fun c9 => ?_) (fun c9 => ?_)
  · replace w := ql_if w c9
    refine lv_iconst (v := (0 : Int32)) C.1.1 C.1.2.1 dX12_in_14 (by decide) ?_
    exact ql_zret C S hr hlocks dX12_in_15 ⟨Nat.le_of_ble_eq_true rfl, Nat.le_of_ble_eq_true rfl⟩ w
  · replace w := ql_ifn w c9
    refine lv_iload_n C.1.1 C.1.2.1 dX12_in_5 rfl (lv_at hl 0 rfl) ?_
    refine lv_iload_n C.1.1 C.1.2.1 dX12_in_6 rfl (lv_at hl 2 rfl) ?_
    refine lv_icmp_gt (tgt := 14) C.1.1 C.1.2.1 dX12_in_7 (by decide) (fun c9 => ?_) (fun c9 => ?_)
    · replace w := ql_if w c9
      refine lv_iconst (v := (0 : Int32)) C.1.1 C.1.2.1 dX12_in_14 (by decide) ?_
      exact ql_zret C S hr hlocks dX12_in_15 ⟨Nat.le_of_ble_eq_true rfl, Nat.le_of_ble_eq_true rfl⟩ w
    · replace w := ql_ifn w c9
      refine lv_iconst (v := (1 : Int32)) C.1.1 C.1.2.1 dX12_in_10 (by decide) ?_
      refine lv_goto (tgt := 15) C.1.1 C.1.2.1 dX12_in_11 (by decide) ?_
      exact ql_zret C S hr hlocks dX12_in_15 ⟨Nat.le_of_ble_eq_true rfl, Nat.le_of_ble_eq_true rfl⟩ w
def qw_X12_most (xp0 : Int32) (xp1 : Int32) (h : ql_H) (Q : Int32 → ql_H → Prop) : Prop :=
if xp0 ≤ xp1 then (Q xp1 h) else (Q xp0 h)
set_option maxHeartbeats 4000000 in
set_option maxRecDepth 100000 in
theorem qm_X12_most (l : Launch) (hl9 : l.stackTraces = false) (D : ql_D) (h0 : ql_H) (xp0 : Int32) (xp1 : Int32) (Q : Int32 → ql_H → Prop) (X : String → ql_H → Prop) (w : qw_X12_most xp0 xp1 h0 Q) : ql_M D l yX12_most cX12_most 2 (some .int) ({ frames := 2, cells := 0, slots := 0, locals := 48 } : Room) h0 [.int xp0, .int xp1] (ql_rI Q) X 0 0 := by
  refine ql_ofW (by decide) (Nat.le_of_ble_eq_true rfl) ?_
  intro p e s m below meth c ls C hr hlocks hnm htab S hl
  have hl : lv_has ls 2 [(0, .int xp0), (1, .int xp1)] := hl
  unfold qw_X12_most at w
  refine lv_iload_n C.1.1 C.1.2.1 dX12_most_0 rfl (lv_at hl 0 rfl) ?_
  refine lv_iload_n C.1.1 C.1.2.1 dX12_most_1 rfl (lv_at hl 1 rfl) ?_
  refine lv_icmp_le (tgt := 9) C.1.1 C.1.2.1 dX12_most_2 (by decide) (fun c9 => ?_) (fun c9 => ?_)
  · replace w := ql_if w c9
    refine lv_iload_n C.1.1 C.1.2.1 dX12_most_9 rfl (lv_at hl 1 rfl) ?_
    exact ql_iret C S hr hlocks dX12_most_10 ⟨Nat.le_of_ble_eq_true rfl, Nat.le_of_ble_eq_true rfl⟩ w
  · replace w := ql_ifn w c9
    refine lv_iload_n C.1.1 C.1.2.1 dX12_most_5 rfl (lv_at hl 0 rfl) ?_
    refine lv_goto (tgt := 10) C.1.1 C.1.2.1 dX12_most_6 (by decide) ?_
    exact ql_iret C S hr hlocks dX12_most_10 ⟨Nat.le_of_ble_eq_true rfl, Nat.le_of_ble_eq_true rfl⟩ w
def qw_X12_copies_3 (Q : ql_H → Prop) : Nat → Option Nat → Int32 → Option Nat → Int32 → Int32 → ql_H → Prop
  | 0, _, _, _, _, _, _ => False
  | n + 1, rl0, xl1, rl2, xl3, xl4, h =>
    if (685 : Int32) ≤ xl4 then (Q h) else (ql_lI h rl0 0 (xl1 + xl4) fun x1 =>
    ql_sI h rl2 0 (xl3 + xl4) x1 fun h =>
    qw_X12_copies_3 Q n rl0 xl1 rl2 xl3 (xl4 + (1 : Int32)) h)
def qw_X12_copies (rp0 : Option Nat) (xp1 : Int32) (rp2 : Option Nat) (xp3 : Int32) (h : ql_H) (Q : ql_H → Prop) : Prop :=
qw_X12_copies_3 Q ql_FU rp0 xp1 rp2 xp3 (0 : Int32) h
set_option maxHeartbeats 4000000 in
set_option maxRecDepth 100000 in
theorem qm_X12_copies (l : Launch) (hl9 : l.stackTraces = false) (D : ql_D) (h0 : ql_H) (rp0 : Option Nat) (xp1 : Int32) (rp2 : Option Nat) (xp3 : Int32) (Q : ql_H → Prop) (X : String → ql_H → Prop) (w : qw_X12_copies rp0 xp1 rp2 xp3 h0 Q) : ql_M D l yX12_copies cX12_copies 5 none ({ frames := 2, cells := 0, slots := 0, locals := 48 } : Room) h0 [va_rf rp0, .int xp1, va_rf rp2, .int xp3] (ql_rV Q) X 0 0 := by
  refine ql_ofW (by decide) (by cases rp0 <;> cases rp2 <;> exact Nat.le_of_ble_eq_true rfl) ?_
  intro p e s m below meth c ls C hr hlocks hnm htab S hl
  rw [show lv_args 0 [va_rf rp0, .int xp1, va_rf rp2, .int xp3] = [(0, va_rf rp0), (1, .int xp1), (2, va_rf rp2), (3, .int xp3)] from by cases rp0 <;> cases rp2 <;> rfl] at hl
  have hB3 : ∀ n : Nat, ∀ (rl0 : Option Nat) (xl1 : Int32) (rl2 : Option Nat) (xl3 : Int32) (xl4 : Int32) (h : ql_H) (H : Heap) (locs : List Loc) (ls : Array Slot), ql_S D h0 s H locs h → lv_has ls 5 [(0, va_rf rl0), (1, .int xl1), (2, va_rf rl2), (3, .int xl3), (4, .int xl4)] → qw_X12_copies_3 Q n rl0 xl1 rl2 xl3 xl4 h → W p l e ({ frames := 2, cells := 0, slots := 0, locals := 48 } : Room) s m ([va_rf rp0, .int xp1, va_rf rp2, .int xp3] : List Value).toArray below meth c H locs 0 0 (vx_MQ below (ql_Q D h0 (ql_rV Q)) (ql_X D h0 X) ([va_rf rp0, .int xp1, va_rf rp2, .int xp3] : List Value).toArray s 0 0 (ql_A h0)) (F0 m 3 ls []) := by
    intro n
    induction n with
    | zero => intro rl0 xl1 rl2 xl3 xl4 h H locs ls S hl w; rw [qw_X12_copies_3] at w; exact w.elim
    | succ n ih =>
      intro rl0 xl1 rl2 xl3 xl4 h H locs ls S hl w
      rw [qw_X12_copies_3] at w
      refine lv_iload C.1.1 C.1.2.1 dX12_copies_3 (lv_at hl 4 rfl) ?_
      refine lv_sipush (v := (685 : Int32)) C.1.1 C.1.2.1 dX12_copies_5 (by decide) ?_
      refine lv_icmp_ge (tgt := 29) C.1.1 C.1.2.1 dX12_copies_8 (by decide) (fun c9 => ?_) (fun c9 => ?_)
      · replace w := ql_if w c9
        exact ql_vret C S hr hlocks dX12_copies_29 ⟨Nat.le_of_ble_eq_true rfl, Nat.le_of_ble_eq_true rfl⟩ w
      · replace w := ql_ifn w c9
        refine ql_aload_n (r := rl2) C dX12_copies_11 rfl (lv_at hl 2 rfl) ?_
        refine lv_iload_n C.1.1 C.1.2.1 dX12_copies_12 rfl (lv_at hl 3 rfl) ?_
        refine lv_iload C.1.1 C.1.2.1 dX12_copies_13 (lv_at hl 4 rfl) ?_
        refine lv_iadd C.1.1 C.1.2.1 dX12_copies_15 ?_
        refine ql_aload_n (r := rl0) C dX12_copies_16 rfl (lv_at hl 0 rfl) ?_
        refine lv_iload_n C.1.1 C.1.2.1 dX12_copies_17 rfl (lv_at hl 1 rfl) ?_
        refine lv_iload C.1.1 C.1.2.1 dX12_copies_18 (lv_at hl 4 rfl) ?_
        refine lv_iadd C.1.1 C.1.2.1 dX12_copies_20 ?_
        refine ql_iald C S dX12_copies_21 w (fun x1 w => ?_)
        refine ql_iast C S dX12_copies_22 w (fun h H locs S w => ?_)
        refine lv_iinc (v := (xl4 + (1 : Int32))) (lv' := [(4, .int (xl4 + (1 : Int32))), (0, va_rf rl0), (1, .int xl1), (2, va_rf rl2), (3, .int xl3)]) C.1.1 C.1.2.1 dX12_copies_23 hl (k := 4) rfl rfl (by decide) rfl (fun ls hl => ?_)
        refine lv_goto (tgt := 3) C.1.1 C.1.2.1 dX12_copies_26 (by decide) ?_
        exact ih rl0 xl1 rl2 xl3 (xl4 + (1 : Int32)) _ _ _ _ S (lv_sub hl [1, 2, 3, 4, 0] rfl) w
  unfold qw_X12_copies at w
  refine lv_iconst (v := (0 : Int32)) C.1.1 C.1.2.1 dX12_copies_0 (by decide) ?_
  refine lv_istore (lv' := [(4, .int (0 : Int32)), (0, va_rf rp0), (1, .int xp1), (2, va_rf rp2), (3, .int xp3)]) C.1.1 C.1.2.1 dX12_copies_1 hl (by decide) rfl (fun ls hl => ?_)
  exact hB3 ql_FU rp0 xp1 rp2 xp3 (0 : Int32) _ _ _ _ S (lv_sub hl [1, 2, 3, 4, 0] rfl) w
def qw_X12_keeps_63 (a0 : Nat) (Q : ql_H → Prop) (rl1 : Option Nat) (h : ql_H) : Prop :=
ql_gR h (some a0) 13 1 fun r1 =>
ql_gI h (some a0) 13 5 fun x2 =>
qw_X12_copies rl1 (0 : Int32) r1 ((685 : Int32) * x2) h (fun h =>
ql_gI h (some a0) 13 5 fun x3 =>
ql_pV h (some a0) 13 5 (.int (x3 + (1 : Int32))) fun h =>
Q h)
def qw_X12_keeps_24 (a0 : Nat) (Q : ql_H → Prop) : Nat → Option Nat → Int32 → ql_H → Prop
  | 0, _, _, _ => False
  | n + 1, rl1, xl2, h =>
    if (4795 : Int32) ≤ xl2 then (ql_gI h (some a0) 13 5 fun x4 =>
    ql_pV h (some a0) 13 5 (.int (x4 - (1 : Int32))) fun h =>
    qw_X12_keeps_63 a0 Q rl1 h) else (ql_gR h (some a0) 13 1 fun r5 =>
    ql_gR h (some a0) 13 1 fun r6 =>
    ql_lI h r6 0 (xl2 + (685 : Int32)) fun x7 =>
    ql_sI h r5 0 xl2 x7 fun h =>
    qw_X12_keeps_24 a0 Q n rl1 (xl2 + (1 : Int32)) h)
def qw_X12_keeps (a0 : Nat) (rp1 : Option Nat) (h : ql_H) (Q : ql_H → Prop) : Prop :=
ql_pV h (some a0) 13 7 (.int (0 : Int32)) fun h =>
ql_gI h (some a0) 13 6 fun x8 =>
if x8 = 0 then (ql_gI h (some a0) 13 5 fun x9 =>
if x9 = (8 : Int32) then (qw_X12_keeps_24 a0 Q ql_FU rp1 (0 : Int32) h) else (qw_X12_keeps_63 a0 Q rp1 h)) else (Q h)
set_option maxHeartbeats 4000000 in
set_option maxRecDepth 100000 in
theorem qm_X12_keeps (l : Launch) (hl9 : l.stackTraces = false) (D : ql_D) (h0 : ql_H) (a0 : Nat) (rp1 : Option Nat) (Q : ql_H → Prop) (X : String → ql_H → Prop) (w : qw_X12_keeps a0 rp1 h0 Q) : ql_M D l yX12_keeps cX12_keeps 3 none ({ frames := 4, cells := 0, slots := 0, locals := 80 } : Room) h0 [.ref a0, va_rf rp1] (ql_rV Q) X 0 0 := by
  refine ql_ofW (by decide) (by cases rp1 <;> exact Nat.le_of_ble_eq_true rfl) ?_
  intro p e s m below meth c ls C hr hlocks hnm htab S hl
  rw [show lv_args 0 [.ref a0, va_rf rp1] = [(0, .ref a0), (1, va_rf rp1)] from by cases rp1 <;> rfl] at hl
  have hB63 : ∀ (rl1 : Option Nat) (h : ql_H) (H : Heap) (locs : List Loc) (ls : Array Slot), ql_S D h0 s H locs h → lv_has ls 3 [(0, .ref a0), (1, va_rf rl1)] → qw_X12_keeps_63 a0 Q rl1 h → W p l e ({ frames := 4, cells := 0, slots := 0, locals := 80 } : Room) s m ([.ref a0, va_rf rp1] : List Value).toArray below meth c H locs 0 0 (vx_MQ below (ql_Q D h0 (ql_rV Q)) (ql_X D h0 X) ([.ref a0, va_rf rp1] : List Value).toArray s 0 0 (ql_A h0)) (F0 m 63 ls []) := by
    intro rl1 h H locs ls S hl w
    unfold qw_X12_keeps_63 at w
    refine ql_aload_n (r := rl1) C dX12_keeps_63 rfl (lv_at hl 1 rfl) ?_
    refine lv_iconst (v := (0 : Int32)) C.1.1 C.1.2.1 dX12_keeps_64 (by decide) ?_
    refine ql_aload_n (r := (some a0)) C dX12_keeps_65 rfl (lv_at hl 0 rfl) ?_
    refine ql_getR C S qf_13_1 gw_1669 dX12_keeps_66 w (fun r1 w => ?_)
    refine lv_sipush (v := (685 : Int32)) C.1.1 C.1.2.1 dX12_keeps_69 (by decide) ?_
    refine ql_aload_n (r := (some a0)) C dX12_keeps_72 rfl (lv_at hl 0 rfl) ?_
    refine ql_getI C S qf_13_5 gw_1673 dX12_keeps_73 w (fun x2 w => ?_)
    refine lv_imul C.1.1 C.1.2.1 dX12_keeps_76 ?_
    refine ql_SV (As := [va_rf rl1, .int (0 : Int32), va_rf r1, .int ((685 : Int32) * x2)]) (rest := []) C S htab hlocks hl qy_X12_copies qi_X12_copies gw_1757 (qm_X12_copies l hl9 D _ rl1 (0 : Int32) r1 ((685 : Int32) * x2) _ _ w) rfl ⟨Nat.le_of_ble_eq_true rfl, Nat.le_of_ble_eq_true rfl⟩ ⟨rfl, rfl⟩ (by exact Nat.le_of_ble_eq_true rfl) rfl dX12_keeps_77 ⟨Nat.le_of_ble_eq_true rfl, Nat.le_of_ble_eq_true rfl⟩ ⟨Nat.le_of_ble_eq_true rfl, Nat.le_of_ble_eq_true rfl⟩ (fun h H locs S w => ?_)
    refine W.cs (cells' := 0) (slots' := 0) rfl rfl ?_
    refine ql_aload_n (r := (some a0)) C dX12_keeps_80 rfl (lv_at hl 0 rfl) ?_
    refine lv_dup C.1.1 C.1.2.1 dX12_keeps_81 (ql_catR _) ?_
    refine ql_getI C S qf_13_5 gw_1673 dX12_keeps_82 w (fun x3 w => ?_)
    refine lv_iconst (v := (1 : Int32)) C.1.1 C.1.2.1 dX12_keeps_85 (by decide) ?_
    refine lv_iadd C.1.1 C.1.2.1 dX12_keeps_86 ?_
    refine ql_putV C S qf_13_5 gw_1673 (tyX12) tyX12_ok nmX12 rfl dX12_keeps_87 (v := .int (x3 + (1 : Int32))) rfl rfl w (fun h H locs S w => ?_)
    exact ql_vret C S hr hlocks dX12_keeps_90 ⟨Nat.le_of_ble_eq_true rfl, Nat.le_of_ble_eq_true rfl⟩ w
  have hB24 : ∀ n : Nat, ∀ (rl1 : Option Nat) (xl2 : Int32) (h : ql_H) (H : Heap) (locs : List Loc) (ls : Array Slot), ql_S D h0 s H locs h → lv_has ls 3 [(0, .ref a0), (1, va_rf rl1), (2, .int xl2)] → qw_X12_keeps_24 a0 Q n rl1 xl2 h → W p l e ({ frames := 4, cells := 0, slots := 0, locals := 80 } : Room) s m ([.ref a0, va_rf rp1] : List Value).toArray below meth c H locs 0 0 (vx_MQ below (ql_Q D h0 (ql_rV Q)) (ql_X D h0 X) ([.ref a0, va_rf rp1] : List Value).toArray s 0 0 (ql_A h0)) (F0 m 24 ls []) := by
    intro n
    induction n with
    | zero => intro rl1 xl2 h H locs ls S hl w; rw [qw_X12_keeps_24] at w; exact w.elim
    | succ n ih =>
      intro rl1 xl2 h H locs ls S hl w
      rw [qw_X12_keeps_24] at w
      refine lv_iload_n C.1.1 C.1.2.1 dX12_keeps_24 rfl (lv_at hl 2 rfl) ?_
      refine lv_sipush (v := (4795 : Int32)) C.1.1 C.1.2.1 dX12_keeps_25 (by decide) ?_
      refine lv_icmp_ge (tgt := 53) C.1.1 C.1.2.1 dX12_keeps_28 (by decide) (fun c9 => ?_) (fun c9 => ?_)
      · replace w := ql_if w c9
        refine ql_aload_n (r := (some a0)) C dX12_keeps_53 rfl (lv_at hl 0 rfl) ?_
        refine lv_dup C.1.1 C.1.2.1 dX12_keeps_54 (ql_catR _) ?_
        refine ql_getI C S qf_13_5 gw_1673 dX12_keeps_55 w (fun x4 w => ?_)
        refine lv_iconst (v := (1 : Int32)) C.1.1 C.1.2.1 dX12_keeps_58 (by decide) ?_
        refine lv_isub C.1.1 C.1.2.1 dX12_keeps_59 ?_
        refine ql_putV C S qf_13_5 gw_1673 (tyX12) tyX12_ok nmX12 rfl dX12_keeps_60 (v := .int (x4 - (1 : Int32))) rfl rfl w (fun h H locs S w => ?_)
        exact hB63 rl1 _ _ _ _ S (lv_sub hl [0, 1] rfl) w
      · replace w := ql_ifn w c9
        refine ql_aload_n (r := (some a0)) C dX12_keeps_31 rfl (lv_at hl 0 rfl) ?_
        refine ql_getR C S qf_13_1 gw_1669 dX12_keeps_32 w (fun r5 w => ?_)
        refine lv_iload_n C.1.1 C.1.2.1 dX12_keeps_35 rfl (lv_at hl 2 rfl) ?_
        refine ql_aload_n (r := (some a0)) C dX12_keeps_36 rfl (lv_at hl 0 rfl) ?_
        refine ql_getR C S qf_13_1 gw_1669 dX12_keeps_37 w (fun r6 w => ?_)
        refine lv_iload_n C.1.1 C.1.2.1 dX12_keeps_40 rfl (lv_at hl 2 rfl) ?_
        refine lv_sipush (v := (685 : Int32)) C.1.1 C.1.2.1 dX12_keeps_41 (by decide) ?_
        refine lv_iadd C.1.1 C.1.2.1 dX12_keeps_44 ?_
        refine ql_iald C S dX12_keeps_45 w (fun x7 w => ?_)
        refine ql_iast C S dX12_keeps_46 w (fun h H locs S w => ?_)
        refine lv_iinc (v := (xl2 + (1 : Int32))) (lv' := [(2, .int (xl2 + (1 : Int32))), (0, .ref a0), (1, va_rf rl1)]) C.1.1 C.1.2.1 dX12_keeps_47 hl (k := 2) rfl rfl (by decide) (by generalize rl1 = z9; cases z9 <;> rfl) (fun ls hl => ?_)
        refine lv_goto (tgt := 24) C.1.1 C.1.2.1 dX12_keeps_50 (by decide) ?_
        exact ih rl1 (xl2 + (1 : Int32)) _ _ _ _ S (lv_sub hl [1, 2, 0] rfl) w
  unfold qw_X12_keeps at w
  refine ql_aload_n (r := (some a0)) C dX12_keeps_0 rfl (lv_at hl 0 rfl) ?_
  refine lv_iconst (v := (0 : Int32)) C.1.1 C.1.2.1 dX12_keeps_1 (by decide) ?_
  refine ql_putV C S qf_13_7 gw_1675 (tyX12) tyX12_ok nmX12 rfl dX12_keeps_2 (v := .int (0 : Int32)) rfl rfl w (fun h H locs S w => ?_)
  refine ql_aload_n (r := (some a0)) C dX12_keeps_5 rfl (lv_at hl 0 rfl) ?_
  refine ql_getI C S qf_13_6 gw_1674 dX12_keeps_6 w (fun x8 w => ?_)
  refine lv_if_eq (tgt := 13) C.1.1 C.1.2.1 dX12_keeps_9 (by decide) (fun c9 => ?_) (fun c9 => ?_)
  · replace w := ql_if w c9
    refine ql_aload_n (r := (some a0)) C dX12_keeps_13 rfl (lv_at hl 0 rfl) ?_
    refine ql_getI C S qf_13_5 gw_1673 dX12_keeps_14 w (fun x9 w => ?_)
    refine lv_bipush (v := (8 : Int32)) C.1.1 C.1.2.1 dX12_keeps_17 (by decide) ?_
    refine lv_icmp_ne (tgt := 63) C.1.1 C.1.2.1 dX12_keeps_19 (by decide) (fun c9 => ?_) (fun c9 => ?_)
    · replace w := ql_ifn w c9
      exact hB63 rp1 _ _ _ _ S (lv_sub hl [0, 1] rfl) w
    · replace w := ql_if w c9
      refine lv_iconst (v := (0 : Int32)) C.1.1 C.1.2.1 dX12_keeps_22 (by decide) ?_
      refine lv_istore_n (lv' := [(2, .int (0 : Int32)), (0, .ref a0), (1, va_rf rp1)]) C.1.1 C.1.2.1 dX12_keeps_23 rfl hl (by decide) (by generalize rp1 = z9; cases z9 <;> rfl) (fun ls hl => ?_)
      exact hB24 ql_FU rp1 (0 : Int32) _ _ _ _ S (lv_sub hl [1, 2, 0] rfl) w
  · replace w := ql_ifn w c9
    exact ql_vret C S hr hlocks dX12_keeps_12 ⟨Nat.le_of_ble_eq_true rfl, Nat.le_of_ble_eq_true rfl⟩ w
def qw_X12_of (a0 : Nat) (xp1 : Int32) (xp2 : Int32) (h : ql_H) (Q : Int32 → ql_H → Prop) : Prop :=
ql_gR h (some a0) 13 0 fun r1 =>
ql_lI h r1 0 (((13 : Int32) + ((42 : Int32) * xp1)) + xp2) fun x2 =>
Q x2 h
set_option maxHeartbeats 4000000 in
set_option maxRecDepth 100000 in
theorem qm_X12_of (l : Launch) (hl9 : l.stackTraces = false) (D : ql_D) (h0 : ql_H) (a0 : Nat) (xp1 : Int32) (xp2 : Int32) (Q : Int32 → ql_H → Prop) (X : String → ql_H → Prop) (w : qw_X12_of a0 xp1 xp2 h0 Q) : ql_M D l yX12_of cX12_of 3 (some .int) ({ frames := 2, cells := 0, slots := 0, locals := 48 } : Room) h0 [.ref a0, .int xp1, .int xp2] (ql_rI Q) X 0 0 := by
  refine ql_ofW (by decide) (Nat.le_of_ble_eq_true rfl) ?_
  intro p e s m below meth c ls C hr hlocks hnm htab S hl
  have hl : lv_has ls 3 [(0, .ref a0), (1, .int xp1), (2, .int xp2)] := hl
  unfold qw_X12_of at w
  refine ql_aload_n (r := (some a0)) C dX12_of_0 rfl (lv_at hl 0 rfl) ?_
  refine ql_getR C S qf_13_0 gw_1668 dX12_of_1 w (fun r1 w => ?_)
  refine lv_bipush (v := (13 : Int32)) C.1.1 C.1.2.1 dX12_of_4 (by decide) ?_
  refine lv_bipush (v := (42 : Int32)) C.1.1 C.1.2.1 dX12_of_6 (by decide) ?_
  refine lv_iload_n C.1.1 C.1.2.1 dX12_of_8 rfl (lv_at hl 1 rfl) ?_
  refine lv_imul C.1.1 C.1.2.1 dX12_of_9 ?_
  refine lv_iadd C.1.1 C.1.2.1 dX12_of_10 ?_
  refine lv_iload_n C.1.1 C.1.2.1 dX12_of_11 rfl (lv_at hl 2 rfl) ?_
  refine lv_iadd C.1.1 C.1.2.1 dX12_of_12 ?_
  refine ql_iald C S dX12_of_13 w (fun x2 w => ?_)
  exact ql_iret C S hr hlocks dX12_of_14 ⟨Nat.le_of_ble_eq_true rfl, Nat.le_of_ble_eq_true rfl⟩ w
def qw_X12_lays (a0 : Nat) (xp1 : Int32) (xp2 : Int32) (xp3 : Int32) (h : ql_H) (Q : ql_H → Prop) : Prop :=
ql_gR h (some a0) 13 0 fun r1 =>
ql_sI h r1 0 (((13 : Int32) + ((42 : Int32) * xp1)) + xp2) xp3 fun h =>
Q h
set_option maxHeartbeats 4000000 in
set_option maxRecDepth 100000 in
theorem qm_X12_lays (l : Launch) (hl9 : l.stackTraces = false) (D : ql_D) (h0 : ql_H) (a0 : Nat) (xp1 : Int32) (xp2 : Int32) (xp3 : Int32) (Q : ql_H → Prop) (X : String → ql_H → Prop) (w : qw_X12_lays a0 xp1 xp2 xp3 h0 Q) : ql_M D l yX12_lays cX12_lays 4 none ({ frames := 2, cells := 0, slots := 0, locals := 48 } : Room) h0 [.ref a0, .int xp1, .int xp2, .int xp3] (ql_rV Q) X 0 0 := by
  refine ql_ofW (by decide) (Nat.le_of_ble_eq_true rfl) ?_
  intro p e s m below meth c ls C hr hlocks hnm htab S hl
  have hl : lv_has ls 4 [(0, .ref a0), (1, .int xp1), (2, .int xp2), (3, .int xp3)] := hl
  unfold qw_X12_lays at w
  refine ql_aload_n (r := (some a0)) C dX12_lays_0 rfl (lv_at hl 0 rfl) ?_
  refine ql_getR C S qf_13_0 gw_1668 dX12_lays_1 w (fun r1 w => ?_)
  refine lv_bipush (v := (13 : Int32)) C.1.1 C.1.2.1 dX12_lays_4 (by decide) ?_
  refine lv_bipush (v := (42 : Int32)) C.1.1 C.1.2.1 dX12_lays_6 (by decide) ?_
  refine lv_iload_n C.1.1 C.1.2.1 dX12_lays_8 rfl (lv_at hl 1 rfl) ?_
  refine lv_imul C.1.1 C.1.2.1 dX12_lays_9 ?_
  refine lv_iadd C.1.1 C.1.2.1 dX12_lays_10 ?_
  refine lv_iload_n C.1.1 C.1.2.1 dX12_lays_11 rfl (lv_at hl 2 rfl) ?_
  refine lv_iadd C.1.1 C.1.2.1 dX12_lays_12 ?_
  refine lv_iload_n C.1.1 C.1.2.1 dX12_lays_13 rfl (lv_at hl 3 rfl) ?_
  refine ql_iast C S dX12_lays_14 w (fun h H locs S w => ?_)
  exact ql_vret C S hr hlocks dX12_lays_15 ⟨Nat.le_of_ble_eq_true rfl, Nat.le_of_ble_eq_true rfl⟩ w
def qw_X12_placeOf_2 (a0 : Nat) (Q : Int32 → ql_H → Prop) : Nat → Int32 → Int32 → ql_H → Prop
  | 0, _, _, _ => False
  | n + 1, xl1, xl2, h =>
    ql_gR h (some a0) 13 0 fun r1 =>
    ql_lI h r1 0 (0 : Int32) fun x2 =>
    if x2 ≤ xl2 then (Q (-1 : Int32) h) else (ql_rv h (some a0) 13 fun b3 => qw_X12_of b3 xl2 (0 : Int32) h (fun x3 h =>
    if x3 = xl1 then (Q xl2 h) else (qw_X12_placeOf_2 a0 Q n xl1 (xl2 + (1 : Int32)) h)))
def qw_X12_placeOf (a0 : Nat) (xp1 : Int32) (h : ql_H) (Q : Int32 → ql_H → Prop) : Prop :=
qw_X12_placeOf_2 a0 Q ql_FU xp1 (0 : Int32) h
set_option maxHeartbeats 4000000 in
set_option maxRecDepth 100000 in
theorem qm_X12_placeOf (l : Launch) (hl9 : l.stackTraces = false) (D : ql_D) (h0 : ql_H) (a0 : Nat) (xp1 : Int32) (Q : Int32 → ql_H → Prop) (X : String → ql_H → Prop) (w : qw_X12_placeOf a0 xp1 h0 Q) : ql_M D l yX12_placeOf cX12_placeOf 3 (some .int) ({ frames := 4, cells := 0, slots := 0, locals := 78 } : Room) h0 [.ref a0, .int xp1] (ql_rI Q) X 0 0 := by
  refine ql_ofW (by decide) (Nat.le_of_ble_eq_true rfl) ?_
  intro p e s m below meth c ls C hr hlocks hnm htab S hl
  have hl : lv_has ls 3 [(0, .ref a0), (1, .int xp1)] := hl
  have hB2 : ∀ n : Nat, ∀ (xl1 : Int32) (xl2 : Int32) (h : ql_H) (H : Heap) (locs : List Loc) (ls : Array Slot), ql_S D h0 s H locs h → lv_has ls 3 [(0, .ref a0), (1, .int xl1), (2, .int xl2)] → qw_X12_placeOf_2 a0 Q n xl1 xl2 h → W p l e ({ frames := 4, cells := 0, slots := 0, locals := 78 } : Room) s m ([.ref a0, .int xp1] : List Value).toArray below meth c H locs 0 0 (vx_MQ below (ql_Q D h0 (ql_rI Q)) (ql_X D h0 X) ([.ref a0, .int xp1] : List Value).toArray s 0 0 (ql_A h0)) (F0 m 2 ls []) := by
    intro n
    induction n with
    | zero => intro xl1 xl2 h H locs ls S hl w; rw [qw_X12_placeOf_2] at w; exact w.elim
    | succ n ih =>
      intro xl1 xl2 h H locs ls S hl w
      rw [qw_X12_placeOf_2] at w
      refine lv_iload_n C.1.1 C.1.2.1 dX12_placeOf_2 rfl (lv_at hl 2 rfl) ?_
      refine ql_aload_n (r := (some a0)) C dX12_placeOf_3 rfl (lv_at hl 0 rfl) ?_
      refine ql_getR C S qf_13_0 gw_1668 dX12_placeOf_4 w (fun r1 w => ?_)
      refine lv_iconst (v := (0 : Int32)) C.1.1 C.1.2.1 dX12_placeOf_7 (by decide) ?_
      refine ql_iald C S dX12_placeOf_8 w (fun x2 w => ?_)
      refine lv_icmp_ge (tgt := 30) C.1.1 C.1.2.1 dX12_placeOf_9 (by decide) (fun c9 => ?_) (fun c9 => ?_)
      · replace w := ql_if w c9
        refine lv_iconst (v := (-1 : Int32)) C.1.1 C.1.2.1 dX12_placeOf_30 (by decide) ?_
        exact ql_iret C S hr hlocks dX12_placeOf_31 ⟨Nat.le_of_ble_eq_true rfl, Nat.le_of_ble_eq_true rfl⟩ w
      · replace w := ql_ifn w c9
        refine ql_aload_n (r := (some a0)) C dX12_placeOf_12 rfl (lv_at hl 0 rfl) ?_
        refine lv_iload_n C.1.1 C.1.2.1 dX12_placeOf_13 rfl (lv_at hl 2 rfl) ?_
        refine lv_iconst (v := (0 : Int32)) C.1.1 C.1.2.1 dX12_placeOf_14 (by decide) ?_
        refine ql_VI (As := [.int xl2, .int (0 : Int32)]) (rest := []) C S htab hlocks hl qy_X12_of qi_X12_of qs_X12_of gw_1745 (ci := 13) rfl w (fun b w => qm_X12_of l hl9 D _ b xl2 (0 : Int32) _ _ w) rfl ⟨Nat.le_of_ble_eq_true rfl, Nat.le_of_ble_eq_true rfl⟩ ⟨rfl, rfl⟩ (by exact Nat.le_of_ble_eq_true rfl) (fun b e9 => by cases e9; rfl) dX12_placeOf_15 ⟨Nat.le_of_ble_eq_true rfl, Nat.le_of_ble_eq_true rfl⟩ ⟨Nat.le_of_ble_eq_true rfl, Nat.le_of_ble_eq_true rfl⟩ (fun x3 h H locs S w => ?_)
        refine W.cs (cells' := 0) (slots' := 0) rfl rfl ?_
        refine lv_iload_n C.1.1 C.1.2.1 dX12_placeOf_18 rfl (lv_at hl 1 rfl) ?_
        refine lv_icmp_ne (tgt := 24) C.1.1 C.1.2.1 dX12_placeOf_19 (by decide) (fun c9 => ?_) (fun c9 => ?_)
        · replace w := ql_ifn w c9
          refine lv_iinc (v := (xl2 + (1 : Int32))) (lv' := [(2, .int (xl2 + (1 : Int32))), (0, .ref a0), (1, .int xl1)]) C.1.1 C.1.2.1 dX12_placeOf_24 hl (k := 2) rfl rfl (by decide) rfl (fun ls hl => ?_)
          refine lv_goto (tgt := 2) C.1.1 C.1.2.1 dX12_placeOf_27 (by decide) ?_
          exact ih xl1 (xl2 + (1 : Int32)) _ _ _ _ S (lv_sub hl [1, 2, 0] rfl) w
        · replace w := ql_if w c9
          refine lv_iload_n C.1.1 C.1.2.1 dX12_placeOf_22 rfl (lv_at hl 2 rfl) ?_
          exact ql_iret C S hr hlocks dX12_placeOf_23 ⟨Nat.le_of_ble_eq_true rfl, Nat.le_of_ble_eq_true rfl⟩ w
  unfold qw_X12_placeOf at w
  refine lv_iconst (v := (0 : Int32)) C.1.1 C.1.2.1 dX12_placeOf_0 (by decide) ?_
  refine lv_istore_n (lv' := [(2, .int (0 : Int32)), (0, .ref a0), (1, .int xp1)]) C.1.1 C.1.2.1 dX12_placeOf_1 rfl hl (by decide) rfl (fun ls hl => ?_)
  exact hB2 ql_FU xp1 (0 : Int32) _ _ _ _ S (lv_sub hl [1, 2, 0] rfl) w
def qw_X12_isNone_14 (a0 : Nat) (Q : Int32 → ql_H → Prop) (rs0 : Option Nat) (xs1 : Int32) (h : ql_H) : Prop :=
ql_rv h rs0 13 fun b1 => qw_X12_fails b1 xs1 h (fun x1 h =>
ql_nz .boolean x1 ∧ Q x1 h)
def qw_X12_isNone (a0 : Nat) (xp1 : Int32) (h : ql_H) (Q : Int32 → ql_H → Prop) : Prop :=
ql_rv h (some a0) 13 fun b3 => qw_X12_placeOf b3 xp1 h (fun x3 h =>
if 0 ≤ x3 then (qw_X12_isNone_14 a0 Q (some a0) (0 : Int32) h) else (qw_X12_isNone_14 a0 Q (some a0) (1 : Int32) h))
set_option maxHeartbeats 4000000 in
set_option maxRecDepth 100000 in
theorem qm_X12_isNone (l : Launch) (hl9 : l.stackTraces = false) (D : ql_D) (h0 : ql_H) (a0 : Nat) (xp1 : Int32) (Q : Int32 → ql_H → Prop) (X : String → ql_H → Prop) (w : qw_X12_isNone a0 xp1 h0 Q) : ql_M D l yX12_isNone cX12_isNone 2 (some .boolean) ({ frames := 6, cells := 0, slots := 0, locals := 108 } : Room) h0 [.ref a0, .int xp1] (ql_rI Q) X 0 0 := by
  refine ql_ofW (by decide) (Nat.le_of_ble_eq_true rfl) ?_
  intro p e s m below meth c ls C hr hlocks hnm htab S hl
  have hl : lv_has ls 2 [(0, .ref a0), (1, .int xp1)] := hl
  have hB14 : ∀ (rs0 : Option Nat) (xs1 : Int32) (h : ql_H) (H : Heap) (locs : List Loc) (ls : Array Slot), ql_S D h0 s H locs h → lv_has ls 2 [] → qw_X12_isNone_14 a0 Q rs0 xs1 h → W p l e ({ frames := 6, cells := 0, slots := 0, locals := 108 } : Room) s m ([.ref a0, .int xp1] : List Value).toArray below meth c H locs 0 0 (vx_MQ below (ql_Q D h0 (ql_rI Q)) (ql_X D h0 X) ([.ref a0, .int xp1] : List Value).toArray s 0 0 (ql_A h0)) (F0 m 14 ls [.int xs1, va_rf rs0]) := by
    intro rs0 xs1 h H locs ls S hl w
    unfold qw_X12_isNone_14 at w
    refine ql_VI (As := [.int xs1]) (rest := []) C S htab hlocks hl qy_X12_fails qi_X12_fails qs_X12_fails gw_1749 (ci := 13) rfl w (fun b w => qm_X12_fails l hl9 D _ b xs1 _ _ w) rfl ⟨Nat.le_of_ble_eq_true rfl, Nat.le_of_ble_eq_true rfl⟩ ⟨rfl, rfl⟩ (by exact Nat.le_of_ble_eq_true rfl) (fun b e9 => by cases e9; rfl) dX12_isNone_14 ⟨Nat.le_of_ble_eq_true rfl, Nat.le_of_ble_eq_true rfl⟩ ⟨Nat.le_of_ble_eq_true rfl, Nat.le_of_ble_eq_true rfl⟩ (fun x1 h H locs S w => ?_)
    refine W.cs (cells' := 0) (slots' := 0) rfl rfl ?_
    exact ql_zret C S hr hlocks dX12_isNone_17 ⟨Nat.le_of_ble_eq_true rfl, Nat.le_of_ble_eq_true rfl⟩ w
  unfold qw_X12_isNone at w
  refine ql_aload_n (r := (some a0)) C dX12_isNone_0 rfl (lv_at hl 0 rfl) ?_
  refine ql_aload_n (r := (some a0)) C dX12_isNone_1 rfl (lv_at hl 0 rfl) ?_
  refine lv_iload_n C.1.1 C.1.2.1 dX12_isNone_2 rfl (lv_at hl 1 rfl) ?_
  refine ql_VI (As := [.int xp1]) (rest := [.ref a0]) C S htab hlocks hl qy_X12_placeOf qi_X12_placeOf qs_X12_placeOf gw_1772 (ci := 13) rfl w (fun b w => qm_X12_placeOf l hl9 D _ b xp1 _ _ w) rfl ⟨Nat.le_of_ble_eq_true rfl, Nat.le_of_ble_eq_true rfl⟩ ⟨rfl, rfl⟩ (by exact Nat.le_of_ble_eq_true rfl) (fun b e9 => by cases e9; rfl) dX12_isNone_3 ⟨Nat.le_of_ble_eq_true rfl, Nat.le_of_ble_eq_true rfl⟩ ⟨Nat.le_of_ble_eq_true rfl, Nat.le_of_ble_eq_true rfl⟩ (fun x3 h H locs S w => ?_)
  refine W.cs (cells' := 0) (slots' := 0) rfl rfl ?_
  refine lv_if_ge (tgt := 13) C.1.1 C.1.2.1 dX12_isNone_6 (by decide) (fun c9 => ?_) (fun c9 => ?_)
  · replace w := ql_if w c9
    refine lv_iconst (v := (0 : Int32)) C.1.1 C.1.2.1 dX12_isNone_13 (by decide) ?_
    exact hB14 (some a0) (0 : Int32) _ _ _ _ S (lv_sub hl [] rfl) w
  · replace w := ql_ifn w c9
    refine lv_iconst (v := (1 : Int32)) C.1.1 C.1.2.1 dX12_isNone_9 (by decide) ?_
    refine lv_goto (tgt := 14) C.1.1 C.1.2.1 dX12_isNone_10 (by decide) ?_
    exact hB14 (some a0) (1 : Int32) _ _ _ _ S (lv_sub hl [] rfl) w
def qw_X12_withSection_2 (a0 : Nat) (Q : Int32 → ql_H → Prop) : Nat → Int32 → Int32 → ql_H → Prop
  | 0, _, _, _ => False
  | n + 1, xl1, xl2, h =>
    ql_gR h (some a0) 13 0 fun r1 =>
    ql_lI h r1 0 (0 : Int32) fun x2 =>
    if x2 ≤ xl2 then (Q (-1 : Int32) h) else (ql_rv h (some a0) 13 fun b3 => qw_X12_of b3 xl2 (1 : Int32) h (fun x3 h =>
    if x3 = xl1 then (Q xl2 h) else (qw_X12_withSection_2 a0 Q n xl1 (xl2 + (1 : Int32)) h)))
def qw_X12_withSection (a0 : Nat) (xp1 : Int32) (h : ql_H) (Q : Int32 → ql_H → Prop) : Prop :=
qw_X12_withSection_2 a0 Q ql_FU xp1 (0 : Int32) h
set_option maxHeartbeats 4000000 in
set_option maxRecDepth 100000 in
theorem qm_X12_withSection (l : Launch) (hl9 : l.stackTraces = false) (D : ql_D) (h0 : ql_H) (a0 : Nat) (xp1 : Int32) (Q : Int32 → ql_H → Prop) (X : String → ql_H → Prop) (w : qw_X12_withSection a0 xp1 h0 Q) : ql_M D l yX12_withSection cX12_withSection 3 (some .int) ({ frames := 4, cells := 0, slots := 0, locals := 78 } : Room) h0 [.ref a0, .int xp1] (ql_rI Q) X 0 0 := by
  refine ql_ofW (by decide) (Nat.le_of_ble_eq_true rfl) ?_
  intro p e s m below meth c ls C hr hlocks hnm htab S hl
  have hl : lv_has ls 3 [(0, .ref a0), (1, .int xp1)] := hl
  have hB2 : ∀ n : Nat, ∀ (xl1 : Int32) (xl2 : Int32) (h : ql_H) (H : Heap) (locs : List Loc) (ls : Array Slot), ql_S D h0 s H locs h → lv_has ls 3 [(0, .ref a0), (1, .int xl1), (2, .int xl2)] → qw_X12_withSection_2 a0 Q n xl1 xl2 h → W p l e ({ frames := 4, cells := 0, slots := 0, locals := 78 } : Room) s m ([.ref a0, .int xp1] : List Value).toArray below meth c H locs 0 0 (vx_MQ below (ql_Q D h0 (ql_rI Q)) (ql_X D h0 X) ([.ref a0, .int xp1] : List Value).toArray s 0 0 (ql_A h0)) (F0 m 2 ls []) := by
    intro n
    induction n with
    | zero => intro xl1 xl2 h H locs ls S hl w; rw [qw_X12_withSection_2] at w; exact w.elim
    | succ n ih =>
      intro xl1 xl2 h H locs ls S hl w
      rw [qw_X12_withSection_2] at w
      refine lv_iload_n C.1.1 C.1.2.1 dX12_withSection_2 rfl (lv_at hl 2 rfl) ?_
      refine ql_aload_n (r := (some a0)) C dX12_withSection_3 rfl (lv_at hl 0 rfl) ?_
      refine ql_getR C S qf_13_0 gw_1668 dX12_withSection_4 w (fun r1 w => ?_)
      refine lv_iconst (v := (0 : Int32)) C.1.1 C.1.2.1 dX12_withSection_7 (by decide) ?_
      refine ql_iald C S dX12_withSection_8 w (fun x2 w => ?_)
      refine lv_icmp_ge (tgt := 30) C.1.1 C.1.2.1 dX12_withSection_9 (by decide) (fun c9 => ?_) (fun c9 => ?_)
      · replace w := ql_if w c9
        refine lv_iconst (v := (-1 : Int32)) C.1.1 C.1.2.1 dX12_withSection_30 (by decide) ?_
        exact ql_iret C S hr hlocks dX12_withSection_31 ⟨Nat.le_of_ble_eq_true rfl, Nat.le_of_ble_eq_true rfl⟩ w
      · replace w := ql_ifn w c9
        refine ql_aload_n (r := (some a0)) C dX12_withSection_12 rfl (lv_at hl 0 rfl) ?_
        refine lv_iload_n C.1.1 C.1.2.1 dX12_withSection_13 rfl (lv_at hl 2 rfl) ?_
        refine lv_iconst (v := (1 : Int32)) C.1.1 C.1.2.1 dX12_withSection_14 (by decide) ?_
        refine ql_VI (As := [.int xl2, .int (1 : Int32)]) (rest := []) C S htab hlocks hl qy_X12_of qi_X12_of qs_X12_of gw_1745 (ci := 13) rfl w (fun b w => qm_X12_of l hl9 D _ b xl2 (1 : Int32) _ _ w) rfl ⟨Nat.le_of_ble_eq_true rfl, Nat.le_of_ble_eq_true rfl⟩ ⟨rfl, rfl⟩ (by exact Nat.le_of_ble_eq_true rfl) (fun b e9 => by cases e9; rfl) dX12_withSection_15 ⟨Nat.le_of_ble_eq_true rfl, Nat.le_of_ble_eq_true rfl⟩ ⟨Nat.le_of_ble_eq_true rfl, Nat.le_of_ble_eq_true rfl⟩ (fun x3 h H locs S w => ?_)
        refine W.cs (cells' := 0) (slots' := 0) rfl rfl ?_
        refine lv_iload_n C.1.1 C.1.2.1 dX12_withSection_18 rfl (lv_at hl 1 rfl) ?_
        refine lv_icmp_ne (tgt := 24) C.1.1 C.1.2.1 dX12_withSection_19 (by decide) (fun c9 => ?_) (fun c9 => ?_)
        · replace w := ql_ifn w c9
          refine lv_iinc (v := (xl2 + (1 : Int32))) (lv' := [(2, .int (xl2 + (1 : Int32))), (0, .ref a0), (1, .int xl1)]) C.1.1 C.1.2.1 dX12_withSection_24 hl (k := 2) rfl rfl (by decide) rfl (fun ls hl => ?_)
          refine lv_goto (tgt := 2) C.1.1 C.1.2.1 dX12_withSection_27 (by decide) ?_
          exact ih xl1 (xl2 + (1 : Int32)) _ _ _ _ S (lv_sub hl [1, 2, 0] rfl) w
        · replace w := ql_if w c9
          refine lv_iload_n C.1.1 C.1.2.1 dX12_withSection_22 rfl (lv_at hl 2 rfl) ?_
          exact ql_iret C S hr hlocks dX12_withSection_23 ⟨Nat.le_of_ble_eq_true rfl, Nat.le_of_ble_eq_true rfl⟩ w
  unfold qw_X12_withSection at w
  refine lv_iconst (v := (0 : Int32)) C.1.1 C.1.2.1 dX12_withSection_0 (by decide) ?_
  refine lv_istore_n (lv' := [(2, .int (0 : Int32)), (0, .ref a0), (1, .int xp1)]) C.1.1 C.1.2.1 dX12_withSection_1 rfl hl (by decide) rfl (fun ls hl => ?_)
  exact hB2 ql_FU xp1 (0 : Int32) _ _ _ _ S (lv_sub hl [1, 2, 0] rfl) w
def qw_X12_isValid_29 (a0 : Nat) (Q : Int32 → ql_H → Prop) (h : ql_H) : Prop :=
ql_nz .boolean (1 : Int32) ∧ Q (1 : Int32) h
def qw_X12_isValid (a0 : Nat) (xp1 : Int32) (xp2 : Int32) (h : ql_H) (Q : Int32 → ql_H → Prop) : Prop :=
ql_rv h (some a0) 13 fun b1 => qw_X12_of b1 xp1 (2 : Int32) h (fun x1 h =>
if xp2 < x1 then (ql_nz .boolean (0 : Int32) ∧ Q (0 : Int32) h) else (ql_rv h (some a0) 13 fun b3 => qw_X12_of b3 xp1 (3 : Int32) h (fun x3 h =>
if x3 < 0 then (qw_X12_isValid_29 a0 Q  h) else (ql_rv h (some a0) 13 fun b5 => qw_X12_of b5 xp1 (3 : Int32) h (fun x5 h =>
if x5 < xp2 then (ql_nz .boolean (0 : Int32) ∧ Q (0 : Int32) h) else (qw_X12_isValid_29 a0 Q  h))))))
set_option maxHeartbeats 4000000 in
set_option maxRecDepth 100000 in
theorem qm_X12_isValid (l : Launch) (hl9 : l.stackTraces = false) (D : ql_D) (h0 : ql_H) (a0 : Nat) (xp1 : Int32) (xp2 : Int32) (Q : Int32 → ql_H → Prop) (X : String → ql_H → Prop) (w : qw_X12_isValid a0 xp1 xp2 h0 Q) : ql_M D l yX12_isValid cX12_isValid 3 (some .boolean) ({ frames := 4, cells := 0, slots := 0, locals := 78 } : Room) h0 [.ref a0, .int xp1, .int xp2] (ql_rI Q) X 0 0 := by
  refine ql_ofW (by decide) (Nat.le_of_ble_eq_true rfl) ?_
  intro p e s m below meth c ls C hr hlocks hnm htab S hl
  have hl : lv_has ls 3 [(0, .ref a0), (1, .int xp1), (2, .int xp2)] := hl
  have hB29 : ∀ (h : ql_H) (H : Heap) (locs : List Loc) (ls : Array Slot), ql_S D h0 s H locs h → lv_has ls 3 [] → qw_X12_isValid_29 a0 Q h → W p l e ({ frames := 4, cells := 0, slots := 0, locals := 78 } : Room) s m ([.ref a0, .int xp1, .int xp2] : List Value).toArray below meth c H locs 0 0 (vx_MQ below (ql_Q D h0 (ql_rI Q)) (ql_X D h0 X) ([.ref a0, .int xp1, .int xp2] : List Value).toArray s 0 0 (ql_A h0)) (F0 m 29 ls []) := by
    intro h H locs ls S hl w
    unfold qw_X12_isValid_29 at w
    refine lv_iconst (v := (1 : Int32)) C.1.1 C.1.2.1 dX12_isValid_29 (by decide) ?_
    refine lv_goto (tgt := 34) C.1.1 C.1.2.1 dX12_isValid_30 (by decide) ?_
    exact ql_zret C S hr hlocks dX12_isValid_34 ⟨Nat.le_of_ble_eq_true rfl, Nat.le_of_ble_eq_true rfl⟩ w
  unfold qw_X12_isValid at w
  refine lv_iload_n C.1.1 C.1.2.1 dX12_isValid_0 rfl (lv_at hl 2 rfl) ?_
  refine ql_aload_n (r := (some a0)) C dX12_isValid_1 rfl (lv_at hl 0 rfl) ?_
  refine lv_iload_n C.1.1 C.1.2.1 dX12_isValid_2 rfl (lv_at hl 1 rfl) ?_
  refine lv_iconst (v := (2 : Int32)) C.1.1 C.1.2.1 dX12_isValid_3 (by decide) ?_
  refine ql_VI (As := [.int xp1, .int (2 : Int32)]) (rest := [.int xp2]) C S htab hlocks hl qy_X12_of qi_X12_of qs_X12_of gw_1745 (ci := 13) rfl w (fun b w => qm_X12_of l hl9 D _ b xp1 (2 : Int32) _ _ w) rfl ⟨Nat.le_of_ble_eq_true rfl, Nat.le_of_ble_eq_true rfl⟩ ⟨rfl, rfl⟩ (by exact Nat.le_of_ble_eq_true rfl) (fun b e9 => by cases e9; rfl) dX12_isValid_4 ⟨Nat.le_of_ble_eq_true rfl, Nat.le_of_ble_eq_true rfl⟩ ⟨Nat.le_of_ble_eq_true rfl, Nat.le_of_ble_eq_true rfl⟩ (fun x1 h H locs S w => ?_)
  refine W.cs (cells' := 0) (slots' := 0) rfl rfl ?_
  refine lv_icmp_lt (tgt := 33) C.1.1 C.1.2.1 dX12_isValid_7 (by decide) (fun c9 => ?_) (fun c9 => ?_)
  · replace w := ql_if w c9
    refine lv_iconst (v := (0 : Int32)) C.1.1 C.1.2.1 dX12_isValid_33 (by decide) ?_
    exact ql_zret C S hr hlocks dX12_isValid_34 ⟨Nat.le_of_ble_eq_true rfl, Nat.le_of_ble_eq_true rfl⟩ w
  · replace w := ql_ifn w c9
    refine ql_aload_n (r := (some a0)) C dX12_isValid_10 rfl (lv_at hl 0 rfl) ?_
    refine lv_iload_n C.1.1 C.1.2.1 dX12_isValid_11 rfl (lv_at hl 1 rfl) ?_
    refine lv_iconst (v := (3 : Int32)) C.1.1 C.1.2.1 dX12_isValid_12 (by decide) ?_
    refine ql_VI (As := [.int xp1, .int (3 : Int32)]) (rest := []) C S htab hlocks hl qy_X12_of qi_X12_of qs_X12_of gw_1745 (ci := 13) rfl w (fun b w => qm_X12_of l hl9 D _ b xp1 (3 : Int32) _ _ w) rfl ⟨Nat.le_of_ble_eq_true rfl, Nat.le_of_ble_eq_true rfl⟩ ⟨rfl, rfl⟩ (by exact Nat.le_of_ble_eq_true rfl) (fun b e9 => by cases e9; rfl) dX12_isValid_13 ⟨Nat.le_of_ble_eq_true rfl, Nat.le_of_ble_eq_true rfl⟩ ⟨Nat.le_of_ble_eq_true rfl, Nat.le_of_ble_eq_true rfl⟩ (fun x3 h H locs S w => ?_)
    refine W.cs (cells' := 0) (slots' := 0) rfl rfl ?_
    refine lv_if_lt (tgt := 29) C.1.1 C.1.2.1 dX12_isValid_16 (by decide) (fun c9 => ?_) (fun c9 => ?_)
    · replace w := ql_if w c9
      exact hB29  _ _ _ _ S (lv_sub hl [] rfl) w
    · replace w := ql_ifn w c9
      refine lv_iload_n C.1.1 C.1.2.1 dX12_isValid_19 rfl (lv_at hl 2 rfl) ?_
      refine ql_aload_n (r := (some a0)) C dX12_isValid_20 rfl (lv_at hl 0 rfl) ?_
      refine lv_iload_n C.1.1 C.1.2.1 dX12_isValid_21 rfl (lv_at hl 1 rfl) ?_
      refine lv_iconst (v := (3 : Int32)) C.1.1 C.1.2.1 dX12_isValid_22 (by decide) ?_
      refine ql_VI (As := [.int xp1, .int (3 : Int32)]) (rest := [.int xp2]) C S htab hlocks hl qy_X12_of qi_X12_of qs_X12_of gw_1745 (ci := 13) rfl w (fun b w => qm_X12_of l hl9 D _ b xp1 (3 : Int32) _ _ w) rfl ⟨Nat.le_of_ble_eq_true rfl, Nat.le_of_ble_eq_true rfl⟩ ⟨rfl, rfl⟩ (by exact Nat.le_of_ble_eq_true rfl) (fun b e9 => by cases e9; rfl) dX12_isValid_23 ⟨Nat.le_of_ble_eq_true rfl, Nat.le_of_ble_eq_true rfl⟩ ⟨Nat.le_of_ble_eq_true rfl, Nat.le_of_ble_eq_true rfl⟩ (fun x5 h H locs S w => ?_)
      refine W.cs (cells' := 0) (slots' := 0) rfl rfl ?_
      refine lv_icmp_gt (tgt := 33) C.1.1 C.1.2.1 dX12_isValid_26 (by decide) (fun c9 => ?_) (fun c9 => ?_)
      · replace w := ql_if w c9
        refine lv_iconst (v := (0 : Int32)) C.1.1 C.1.2.1 dX12_isValid_33 (by decide) ?_
        exact ql_zret C S hr hlocks dX12_isValid_34 ⟨Nat.le_of_ble_eq_true rfl, Nat.le_of_ble_eq_true rfl⟩ w
      · replace w := ql_ifn w c9
        exact hB29  _ _ _ _ S (lv_sub hl [] rfl) w
def qw_X12_isOver (a0 : Nat) (xp1 : Int32) (h : ql_H) (Q : Int32 → ql_H → Prop) : Prop :=
ql_rv h (some a0) 13 fun b1 => qw_X12_of b1 xp1 (3 : Int32) h (fun x1 h =>
if x1 < 0 then (ql_nz .boolean (0 : Int32) ∧ Q (0 : Int32) h) else (ql_rv h (some a0) 13 fun b3 => qw_X12_of b3 xp1 (3 : Int32) h (fun x3 h =>
ql_gR h (some a0) 13 0 fun r5 =>
ql_lI h r5 0 (2 : Int32) fun x6 =>
if x6 ≤ x3 then (ql_nz .boolean (0 : Int32) ∧ Q (0 : Int32) h) else (ql_nz .boolean (1 : Int32) ∧ Q (1 : Int32) h))))
set_option maxHeartbeats 4000000 in
set_option maxRecDepth 100000 in
theorem qm_X12_isOver (l : Launch) (hl9 : l.stackTraces = false) (D : ql_D) (h0 : ql_H) (a0 : Nat) (xp1 : Int32) (Q : Int32 → ql_H → Prop) (X : String → ql_H → Prop) (w : qw_X12_isOver a0 xp1 h0 Q) : ql_M D l yX12_isOver cX12_isOver 2 (some .boolean) ({ frames := 4, cells := 0, slots := 0, locals := 78 } : Room) h0 [.ref a0, .int xp1] (ql_rI Q) X 0 0 := by
  refine ql_ofW (by decide) (Nat.le_of_ble_eq_true rfl) ?_
  intro p e s m below meth c ls C hr hlocks hnm htab S hl
  have hl : lv_has ls 2 [(0, .ref a0), (1, .int xp1)] := hl
  unfold qw_X12_isOver at w
  refine ql_aload_n (r := (some a0)) C dX12_isOver_0 rfl (lv_at hl 0 rfl) ?_
  refine lv_iload_n C.1.1 C.1.2.1 dX12_isOver_1 rfl (lv_at hl 1 rfl) ?_
  refine lv_iconst (v := (3 : Int32)) C.1.1 C.1.2.1 dX12_isOver_2 (by decide) ?_
  refine ql_VI (As := [.int xp1, .int (3 : Int32)]) (rest := []) C S htab hlocks hl qy_X12_of qi_X12_of qs_X12_of gw_1745 (ci := 13) rfl w (fun b w => qm_X12_of l hl9 D _ b xp1 (3 : Int32) _ _ w) rfl ⟨Nat.le_of_ble_eq_true rfl, Nat.le_of_ble_eq_true rfl⟩ ⟨rfl, rfl⟩ (by exact Nat.le_of_ble_eq_true rfl) (fun b e9 => by cases e9; rfl) dX12_isOver_3 ⟨Nat.le_of_ble_eq_true rfl, Nat.le_of_ble_eq_true rfl⟩ ⟨Nat.le_of_ble_eq_true rfl, Nat.le_of_ble_eq_true rfl⟩ (fun x1 h H locs S w => ?_)
  refine W.cs (cells' := 0) (slots' := 0) rfl rfl ?_
  refine lv_if_lt (tgt := 28) C.1.1 C.1.2.1 dX12_isOver_6 (by decide) (fun c9 => ?_) (fun c9 => ?_)
  · replace w := ql_if w c9
    refine lv_iconst (v := (0 : Int32)) C.1.1 C.1.2.1 dX12_isOver_28 (by decide) ?_
    exact ql_zret C S hr hlocks dX12_isOver_29 ⟨Nat.le_of_ble_eq_true rfl, Nat.le_of_ble_eq_true rfl⟩ w
  · replace w := ql_ifn w c9
    refine ql_aload_n (r := (some a0)) C dX12_isOver_9 rfl (lv_at hl 0 rfl) ?_
    refine lv_iload_n C.1.1 C.1.2.1 dX12_isOver_10 rfl (lv_at hl 1 rfl) ?_
    refine lv_iconst (v := (3 : Int32)) C.1.1 C.1.2.1 dX12_isOver_11 (by decide) ?_
    refine ql_VI (As := [.int xp1, .int (3 : Int32)]) (rest := []) C S htab hlocks hl qy_X12_of qi_X12_of qs_X12_of gw_1745 (ci := 13) rfl w (fun b w => qm_X12_of l hl9 D _ b xp1 (3 : Int32) _ _ w) rfl ⟨Nat.le_of_ble_eq_true rfl, Nat.le_of_ble_eq_true rfl⟩ ⟨rfl, rfl⟩ (by exact Nat.le_of_ble_eq_true rfl) (fun b e9 => by cases e9; rfl) dX12_isOver_12 ⟨Nat.le_of_ble_eq_true rfl, Nat.le_of_ble_eq_true rfl⟩ ⟨Nat.le_of_ble_eq_true rfl, Nat.le_of_ble_eq_true rfl⟩ (fun x3 h H locs S w => ?_)
    refine W.cs (cells' := 0) (slots' := 0) rfl rfl ?_
    refine ql_aload_n (r := (some a0)) C dX12_isOver_15 rfl (lv_at hl 0 rfl) ?_
    refine ql_getR C S qf_13_0 gw_1668 dX12_isOver_16 w (fun r5 w => ?_)
    refine lv_iconst (v := (2 : Int32)) C.1.1 C.1.2.1 dX12_isOver_19 (by decide) ?_
    refine ql_iald C S dX12_isOver_20 w (fun x6 w => ?_)
    refine lv_icmp_ge (tgt := 28) C.1.1 C.1.2.1 dX12_isOver_21 (by decide) (fun c9 => ?_) (fun c9 => ?_)
    · replace w := ql_if w c9
      refine lv_iconst (v := (0 : Int32)) C.1.1 C.1.2.1 dX12_isOver_28 (by decide) ?_
      exact ql_zret C S hr hlocks dX12_isOver_29 ⟨Nat.le_of_ble_eq_true rfl, Nat.le_of_ble_eq_true rfl⟩ w
    · replace w := ql_ifn w c9
      refine lv_iconst (v := (1 : Int32)) C.1.1 C.1.2.1 dX12_isOver_24 (by decide) ?_
      refine lv_goto (tgt := 29) C.1.1 C.1.2.1 dX12_isOver_25 (by decide) ?_
      exact ql_zret C S hr hlocks dX12_isOver_29 ⟨Nat.le_of_ble_eq_true rfl, Nat.le_of_ble_eq_true rfl⟩ w
def qw_X12_isNote (xp0 : Int32) (h : ql_H) (Q : Int32 → ql_H → Prop) : Prop :=
qw_X12_in xp0 (97 : Int32) (103 : Int32) h (fun x1 h =>
ql_nz .boolean x1 ∧ Q x1 h)
set_option maxHeartbeats 4000000 in
set_option maxRecDepth 100000 in
theorem qm_X12_isNote (l : Launch) (hl9 : l.stackTraces = false) (D : ql_D) (h0 : ql_H) (xp0 : Int32) (Q : Int32 → ql_H → Prop) (X : String → ql_H → Prop) (w : qw_X12_isNote xp0 h0 Q) : ql_M D l yX12_isNote cX12_isNote 1 (some .boolean) ({ frames := 4, cells := 0, slots := 0, locals := 78 } : Room) h0 [.int xp0] (ql_rI Q) X 0 0 := by
  refine ql_ofW (by decide) (Nat.le_of_ble_eq_true rfl) ?_
  intro p e s m below meth c ls C hr hlocks hnm htab S hl
  have hl : lv_has ls 1 [(0, .int xp0)] := hl
  unfold qw_X12_isNote at w
  refine lv_iload_n C.1.1 C.1.2.1 dX12_isNote_0 rfl (lv_at hl 0 rfl) ?_
  refine lv_bipush (v := (97 : Int32)) C.1.1 C.1.2.1 dX12_isNote_1 (by decide) ?_
  refine lv_bipush (v := (103 : Int32)) C.1.1 C.1.2.1 dX12_isNote_3 (by decide) ?_
  refine ql_SI (As := [.int xp0, .int (97 : Int32), .int (103 : Int32)]) (rest := []) C S htab hlocks hl qy_X12_in qi_X12_in gw_1735 (qm_X12_in l hl9 D _ xp0 (97 : Int32) (103 : Int32) _ _ w) rfl ⟨Nat.le_of_ble_eq_true rfl, Nat.le_of_ble_eq_true rfl⟩ ⟨rfl, rfl⟩ (by exact Nat.le_of_ble_eq_true rfl) rfl dX12_isNote_5 ⟨Nat.le_of_ble_eq_true rfl, Nat.le_of_ble_eq_true rfl⟩ ⟨Nat.le_of_ble_eq_true rfl, Nat.le_of_ble_eq_true rfl⟩ (fun x1 h H locs S w => ?_)
  refine W.cs (cells' := 0) (slots' := 0) rfl rfl ?_
  exact ql_zret C S hr hlocks dX12_isNote_8 ⟨Nat.le_of_ble_eq_true rfl, Nat.le_of_ble_eq_true rfl⟩ w
def qw_X12_versionOn_38 (a0 : Nat) (Q : Int32 → ql_H → Prop) (k5 : Int32 → Int32 → Int32 → Int32 → ql_H → Prop) (xl1 : Int32) (xl2 : Int32) (xl3 : Int32) (xl4 : Int32) (h : ql_H) : Prop :=
k5 xl1 xl2 xl3 (xl4 + (1 : Int32)) h
def qw_X12_versionOn_5 (a0 : Nat) (Q : Int32 → ql_H → Prop) : Nat → Int32 → Int32 → Int32 → Int32 → ql_H → Prop
  | 0, _, _, _, _, _ => False
  | n + 1, xl1, xl2, xl3, xl4, h =>
    ql_rv h (some a0) 13 fun b1 => qw_X12_of b1 xl1 (4 : Int32) h (fun x1 h =>
    if x1 ≤ xl4 then (Q xl3 h) else (ql_rv h (some a0) 13 fun b3 => qw_X12_of b3 xl1 ((5 : Int32) + ((4 : Int32) * xl4)) h (fun x3 h =>
    if xl2 < x3 then (qw_X12_versionOn_38 a0 Q (qw_X12_versionOn_5 a0 Q n) xl1 xl2 xl3 xl4 h) else (qw_X12_versionOn_38 a0 Q (qw_X12_versionOn_5 a0 Q n) xl1 xl2 ((5 : Int32) + ((4 : Int32) * xl4)) xl4 h))))
def qw_X12_versionOn (a0 : Nat) (xp1 : Int32) (xp2 : Int32) (h : ql_H) (Q : Int32 → ql_H → Prop) : Prop :=
qw_X12_versionOn_5 a0 Q ql_FU xp1 xp2 (-1 : Int32) (0 : Int32) h
set_option maxHeartbeats 4000000 in
set_option maxRecDepth 100000 in
theorem qm_X12_versionOn (l : Launch) (hl9 : l.stackTraces = false) (D : ql_D) (h0 : ql_H) (a0 : Nat) (xp1 : Int32) (xp2 : Int32) (Q : Int32 → ql_H → Prop) (X : String → ql_H → Prop) (w : qw_X12_versionOn a0 xp1 xp2 h0 Q) : ql_M D l yX12_versionOn cX12_versionOn 5 (some .int) ({ frames := 4, cells := 0, slots := 0, locals := 78 } : Room) h0 [.ref a0, .int xp1, .int xp2] (ql_rI Q) X 0 0 := by
  refine ql_ofW (by decide) (Nat.le_of_ble_eq_true rfl) ?_
  intro p e s m below meth c ls C hr hlocks hnm htab S hl
  have hl : lv_has ls 5 [(0, .ref a0), (1, .int xp1), (2, .int xp2)] := hl
  have hB38 : ∀ (k5 : Int32 → Int32 → Int32 → Int32 → ql_H → Prop) (hk5 : ∀ (xl1 : Int32) (xl2 : Int32) (xl3 : Int32) (xl4 : Int32) (h : ql_H) (H : Heap) (locs : List Loc) (ls : Array Slot), ql_S D h0 s H locs h → lv_has ls 5 [(0, .ref a0), (1, .int xl1), (2, .int xl2), (3, .int xl3), (4, .int xl4)] → k5 xl1 xl2 xl3 xl4 h → W p l e ({ frames := 4, cells := 0, slots := 0, locals := 78 } : Room) s m ([.ref a0, .int xp1, .int xp2] : List Value).toArray below meth c H locs 0 0 (vx_MQ below (ql_Q D h0 (ql_rI Q)) (ql_X D h0 X) ([.ref a0, .int xp1, .int xp2] : List Value).toArray s 0 0 (ql_A h0)) (F0 m 5 ls [])) , ∀ (xl1 : Int32) (xl2 : Int32) (xl3 : Int32) (xl4 : Int32) (h : ql_H) (H : Heap) (locs : List Loc) (ls : Array Slot), ql_S D h0 s H locs h → lv_has ls 5 [(0, .ref a0), (1, .int xl1), (2, .int xl2), (3, .int xl3), (4, .int xl4)] → qw_X12_versionOn_38 a0 Q k5 xl1 xl2 xl3 xl4 h → W p l e ({ frames := 4, cells := 0, slots := 0, locals := 78 } : Room) s m ([.ref a0, .int xp1, .int xp2] : List Value).toArray below meth c H locs 0 0 (vx_MQ below (ql_Q D h0 (ql_rI Q)) (ql_X D h0 X) ([.ref a0, .int xp1, .int xp2] : List Value).toArray s 0 0 (ql_A h0)) (F0 m 38 ls []) := by
    intro k5 hk5 xl1 xl2 xl3 xl4 h H locs ls S hl w
    unfold qw_X12_versionOn_38 at w
    refine lv_iinc (v := (xl4 + (1 : Int32))) (lv' := [(4, .int (xl4 + (1 : Int32))), (0, .ref a0), (1, .int xl1), (2, .int xl2), (3, .int xl3)]) C.1.1 C.1.2.1 dX12_versionOn_38 hl (k := 4) rfl rfl (by decide) rfl (fun ls hl => ?_)
    refine lv_goto (tgt := 5) C.1.1 C.1.2.1 dX12_versionOn_41 (by decide) ?_
    exact hk5 xl1 xl2 xl3 (xl4 + (1 : Int32)) _ _ _ _ S (lv_sub hl [1, 2, 3, 4, 0] rfl) w
  have hB5 : ∀ n : Nat, ∀ (xl1 : Int32) (xl2 : Int32) (xl3 : Int32) (xl4 : Int32) (h : ql_H) (H : Heap) (locs : List Loc) (ls : Array Slot), ql_S D h0 s H locs h → lv_has ls 5 [(0, .ref a0), (1, .int xl1), (2, .int xl2), (3, .int xl3), (4, .int xl4)] → qw_X12_versionOn_5 a0 Q n xl1 xl2 xl3 xl4 h → W p l e ({ frames := 4, cells := 0, slots := 0, locals := 78 } : Room) s m ([.ref a0, .int xp1, .int xp2] : List Value).toArray below meth c H locs 0 0 (vx_MQ below (ql_Q D h0 (ql_rI Q)) (ql_X D h0 X) ([.ref a0, .int xp1, .int xp2] : List Value).toArray s 0 0 (ql_A h0)) (F0 m 5 ls []) := by
    intro n
    induction n with
    | zero => intro xl1 xl2 xl3 xl4 h H locs ls S hl w; rw [qw_X12_versionOn_5] at w; exact w.elim
    | succ n ih =>
      intro xl1 xl2 xl3 xl4 h H locs ls S hl w
      rw [qw_X12_versionOn_5] at w
      refine lv_iload C.1.1 C.1.2.1 dX12_versionOn_5 (lv_at hl 4 rfl) ?_
      refine ql_aload_n (r := (some a0)) C dX12_versionOn_7 rfl (lv_at hl 0 rfl) ?_
      refine lv_iload_n C.1.1 C.1.2.1 dX12_versionOn_8 rfl (lv_at hl 1 rfl) ?_
      refine lv_iconst (v := (4 : Int32)) C.1.1 C.1.2.1 dX12_versionOn_9 (by decide) ?_
      refine ql_VI (As := [.int xl1, .int (4 : Int32)]) (rest := [.int xl4]) C S htab hlocks hl qy_X12_of qi_X12_of qs_X12_of gw_1745 (ci := 13) rfl w (fun b w => qm_X12_of l hl9 D _ b xl1 (4 : Int32) _ _ w) rfl ⟨Nat.le_of_ble_eq_true rfl, Nat.le_of_ble_eq_true rfl⟩ ⟨rfl, rfl⟩ (by exact Nat.le_of_ble_eq_true rfl) (fun b e9 => by cases e9; rfl) dX12_versionOn_10 ⟨Nat.le_of_ble_eq_true rfl, Nat.le_of_ble_eq_true rfl⟩ ⟨Nat.le_of_ble_eq_true rfl, Nat.le_of_ble_eq_true rfl⟩ (fun x1 h H locs S w => ?_)
      refine W.cs (cells' := 0) (slots' := 0) rfl rfl ?_
      refine lv_icmp_ge (tgt := 44) C.1.1 C.1.2.1 dX12_versionOn_13 (by decide) (fun c9 => ?_) (fun c9 => ?_)
      · replace w := ql_if w c9
        refine lv_iload_n C.1.1 C.1.2.1 dX12_versionOn_44 rfl (lv_at hl 3 rfl) ?_
        exact ql_iret C S hr hlocks dX12_versionOn_45 ⟨Nat.le_of_ble_eq_true rfl, Nat.le_of_ble_eq_true rfl⟩ w
      · replace w := ql_ifn w c9
        refine ql_aload_n (r := (some a0)) C dX12_versionOn_16 rfl (lv_at hl 0 rfl) ?_
        refine lv_iload_n C.1.1 C.1.2.1 dX12_versionOn_17 rfl (lv_at hl 1 rfl) ?_
        refine lv_iconst (v := (5 : Int32)) C.1.1 C.1.2.1 dX12_versionOn_18 (by decide) ?_
        refine lv_iconst (v := (4 : Int32)) C.1.1 C.1.2.1 dX12_versionOn_19 (by decide) ?_
        refine lv_iload C.1.1 C.1.2.1 dX12_versionOn_20 (lv_at hl 4 rfl) ?_
        refine lv_imul C.1.1 C.1.2.1 dX12_versionOn_22 ?_
        refine lv_iadd C.1.1 C.1.2.1 dX12_versionOn_23 ?_
        refine ql_VI (As := [.int xl1, .int ((5 : Int32) + ((4 : Int32) * xl4))]) (rest := []) C S htab hlocks hl qy_X12_of qi_X12_of qs_X12_of gw_1745 (ci := 13) rfl w (fun b w => qm_X12_of l hl9 D _ b xl1 ((5 : Int32) + ((4 : Int32) * xl4)) _ _ w) rfl ⟨Nat.le_of_ble_eq_true rfl, Nat.le_of_ble_eq_true rfl⟩ ⟨rfl, rfl⟩ (by exact Nat.le_of_ble_eq_true rfl) (fun b e9 => by cases e9; rfl) dX12_versionOn_24 ⟨Nat.le_of_ble_eq_true rfl, Nat.le_of_ble_eq_true rfl⟩ ⟨Nat.le_of_ble_eq_true rfl, Nat.le_of_ble_eq_true rfl⟩ (fun x3 h H locs S w => ?_)
        refine W.cs (cells' := 0) (slots' := 0) rfl rfl ?_
        refine lv_iload_n C.1.1 C.1.2.1 dX12_versionOn_27 rfl (lv_at hl 2 rfl) ?_
        refine lv_icmp_gt (tgt := 38) C.1.1 C.1.2.1 dX12_versionOn_28 (by decide) (fun c9 => ?_) (fun c9 => ?_)
        · replace w := ql_if w c9
          exact hB38 (qw_X12_versionOn_5 a0 Q n) ih xl1 xl2 xl3 xl4 _ _ _ _ S (lv_sub hl [0, 1, 2, 3, 4] rfl) w
        · replace w := ql_ifn w c9
          refine lv_iconst (v := (5 : Int32)) C.1.1 C.1.2.1 dX12_versionOn_31 (by decide) ?_
          refine lv_iconst (v := (4 : Int32)) C.1.1 C.1.2.1 dX12_versionOn_32 (by decide) ?_
          refine lv_iload C.1.1 C.1.2.1 dX12_versionOn_33 (lv_at hl 4 rfl) ?_
          refine lv_imul C.1.1 C.1.2.1 dX12_versionOn_35 ?_
          refine lv_iadd C.1.1 C.1.2.1 dX12_versionOn_36 ?_
          refine lv_istore_n (lv' := [(3, .int ((5 : Int32) + ((4 : Int32) * xl4))), (0, .ref a0), (1, .int xl1), (2, .int xl2), (4, .int xl4)]) C.1.1 C.1.2.1 dX12_versionOn_37 rfl hl (by decide) rfl (fun ls hl => ?_)
          exact hB38 (qw_X12_versionOn_5 a0 Q n) ih xl1 xl2 ((5 : Int32) + ((4 : Int32) * xl4)) xl4 _ _ _ _ S (lv_sub hl [1, 2, 3, 0, 4] rfl) w
  unfold qw_X12_versionOn at w
  refine lv_iconst (v := (-1 : Int32)) C.1.1 C.1.2.1 dX12_versionOn_0 (by decide) ?_
  refine lv_istore_n (lv' := [(3, .int (-1 : Int32)), (0, .ref a0), (1, .int xp1), (2, .int xp2)]) C.1.1 C.1.2.1 dX12_versionOn_1 rfl hl (by decide) rfl (fun ls hl => ?_)
  refine lv_iconst (v := (0 : Int32)) C.1.1 C.1.2.1 dX12_versionOn_2 (by decide) ?_
  refine lv_istore (lv' := [(4, .int (0 : Int32)), (3, .int (-1 : Int32)), (0, .ref a0), (1, .int xp1), (2, .int xp2)]) C.1.1 C.1.2.1 dX12_versionOn_3 hl (by decide) rfl (fun ls hl => ?_)
  exact hB5 ql_FU xp1 xp2 (-1 : Int32) (0 : Int32) _ _ _ _ S (lv_sub hl [2, 3, 4, 1, 0] rfl) w
def qw_X12_lastVersion (a0 : Nat) (xp1 : Int32) (h : ql_H) (Q : Int32 → ql_H → Prop) : Prop :=
ql_rv h (some a0) 13 fun b1 => qw_X12_of b1 xp1 (4 : Int32) h (fun x1 h =>
Q (((5 : Int32) + ((4 : Int32) * x1)) - (4 : Int32)) h)
set_option maxHeartbeats 4000000 in
set_option maxRecDepth 100000 in
theorem qm_X12_lastVersion (l : Launch) (hl9 : l.stackTraces = false) (D : ql_D) (h0 : ql_H) (a0 : Nat) (xp1 : Int32) (Q : Int32 → ql_H → Prop) (X : String → ql_H → Prop) (w : qw_X12_lastVersion a0 xp1 h0 Q) : ql_M D l yX12_lastVersion cX12_lastVersion 2 (some .int) ({ frames := 4, cells := 0, slots := 0, locals := 78 } : Room) h0 [.ref a0, .int xp1] (ql_rI Q) X 0 0 := by
  refine ql_ofW (by decide) (Nat.le_of_ble_eq_true rfl) ?_
  intro p e s m below meth c ls C hr hlocks hnm htab S hl
  have hl : lv_has ls 2 [(0, .ref a0), (1, .int xp1)] := hl
  unfold qw_X12_lastVersion at w
  refine lv_iconst (v := (5 : Int32)) C.1.1 C.1.2.1 dX12_lastVersion_0 (by decide) ?_
  refine lv_iconst (v := (4 : Int32)) C.1.1 C.1.2.1 dX12_lastVersion_1 (by decide) ?_
  refine ql_aload_n (r := (some a0)) C dX12_lastVersion_2 rfl (lv_at hl 0 rfl) ?_
  refine lv_iload_n C.1.1 C.1.2.1 dX12_lastVersion_3 rfl (lv_at hl 1 rfl) ?_
  refine lv_iconst (v := (4 : Int32)) C.1.1 C.1.2.1 dX12_lastVersion_4 (by decide) ?_
  refine ql_VI (As := [.int xp1, .int (4 : Int32)]) (rest := [.int (4 : Int32), .int (5 : Int32)]) C S htab hlocks hl qy_X12_of qi_X12_of qs_X12_of gw_1745 (ci := 13) rfl w (fun b w => qm_X12_of l hl9 D _ b xp1 (4 : Int32) _ _ w) rfl ⟨Nat.le_of_ble_eq_true rfl, Nat.le_of_ble_eq_true rfl⟩ ⟨rfl, rfl⟩ (by exact Nat.le_of_ble_eq_true rfl) (fun b e9 => by cases e9; rfl) dX12_lastVersion_5 ⟨Nat.le_of_ble_eq_true rfl, Nat.le_of_ble_eq_true rfl⟩ ⟨Nat.le_of_ble_eq_true rfl, Nat.le_of_ble_eq_true rfl⟩ (fun x1 h H locs S w => ?_)
  refine W.cs (cells' := 0) (slots' := 0) rfl rfl ?_
  refine lv_imul C.1.1 C.1.2.1 dX12_lastVersion_8 ?_
  refine lv_iadd C.1.1 C.1.2.1 dX12_lastVersion_9 ?_
  refine lv_iconst (v := (4 : Int32)) C.1.1 C.1.2.1 dX12_lastVersion_10 (by decide) ?_
  refine lv_isub C.1.1 C.1.2.1 dX12_lastVersion_11 ?_
  exact ql_iret C S hr hlocks dX12_lastVersion_12 ⟨Nat.le_of_ble_eq_true rfl, Nat.le_of_ble_eq_true rfl⟩ w
def qw_X12_note (a0 : Nat) (xp1 : Int32) (xp2 : Int32) (xp3 : Int32) (h : ql_H) (Q : Int32 → ql_H → Prop) : Prop :=
¬ (6 : Int32) = 0 ∧
ql_rv h (some a0) 13 fun b1 => qw_X12_of b1 xp1 ((xp2 + (2 : Int32)) + (xp3 / (6 : Int32))) h (fun x1 h =>
¬ (6 : Int32) = 0 ∧
Q ((97 : Int32) + ((x1 >>> (((3 : Int32) * (xp3 - xp3 / (6 : Int32) * (6 : Int32))) &&& 31)) &&& (7 : Int32))) h)
set_option maxHeartbeats 4000000 in
set_option maxRecDepth 100000 in
theorem qm_X12_note (l : Launch) (hl9 : l.stackTraces = false) (D : ql_D) (h0 : ql_H) (a0 : Nat) (xp1 : Int32) (xp2 : Int32) (xp3 : Int32) (Q : Int32 → ql_H → Prop) (X : String → ql_H → Prop) (w : qw_X12_note a0 xp1 xp2 xp3 h0 Q) : ql_M D l yX12_note cX12_note 4 (some .int) ({ frames := 4, cells := 0, slots := 0, locals := 78 } : Room) h0 [.ref a0, .int xp1, .int xp2, .int xp3] (ql_rI Q) X 0 0 := by
  refine ql_ofW (by decide) (Nat.le_of_ble_eq_true rfl) ?_
  intro p e s m below meth c ls C hr hlocks hnm htab S hl
  have hl : lv_has ls 4 [(0, .ref a0), (1, .int xp1), (2, .int xp2), (3, .int xp3)] := hl
  unfold qw_X12_note at w
  refine lv_bipush (v := (97 : Int32)) C.1.1 C.1.2.1 dX12_note_0 (by decide) ?_
  refine ql_aload_n (r := (some a0)) C dX12_note_2 rfl (lv_at hl 0 rfl) ?_
  refine lv_iload_n C.1.1 C.1.2.1 dX12_note_3 rfl (lv_at hl 1 rfl) ?_
  refine lv_iload_n C.1.1 C.1.2.1 dX12_note_4 rfl (lv_at hl 2 rfl) ?_
  refine lv_iconst (v := (2 : Int32)) C.1.1 C.1.2.1 dX12_note_5 (by decide) ?_
  refine lv_iadd C.1.1 C.1.2.1 dX12_note_6 ?_
  refine lv_iload_n C.1.1 C.1.2.1 dX12_note_7 rfl (lv_at hl 3 rfl) ?_
  refine lv_bipush (v := (6 : Int32)) C.1.1 C.1.2.1 dX12_note_8 (by decide) ?_
  refine lv_idiv C.1.1 C.1.2.1 dX12_note_10 w.1 ?_
  replace w := w.2
  refine lv_iadd C.1.1 C.1.2.1 dX12_note_11 ?_
  refine ql_VI (As := [.int xp1, .int ((xp2 + (2 : Int32)) + (xp3 / (6 : Int32)))]) (rest := [.int (97 : Int32)]) C S htab hlocks hl qy_X12_of qi_X12_of qs_X12_of gw_1745 (ci := 13) rfl w (fun b w => qm_X12_of l hl9 D _ b xp1 ((xp2 + (2 : Int32)) + (xp3 / (6 : Int32))) _ _ w) rfl ⟨Nat.le_of_ble_eq_true rfl, Nat.le_of_ble_eq_true rfl⟩ ⟨rfl, rfl⟩ (by exact Nat.le_of_ble_eq_true rfl) (fun b e9 => by cases e9; rfl) dX12_note_12 ⟨Nat.le_of_ble_eq_true rfl, Nat.le_of_ble_eq_true rfl⟩ ⟨Nat.le_of_ble_eq_true rfl, Nat.le_of_ble_eq_true rfl⟩ (fun x1 h H locs S w => ?_)
  refine W.cs (cells' := 0) (slots' := 0) rfl rfl ?_
  refine lv_iconst (v := (3 : Int32)) C.1.1 C.1.2.1 dX12_note_15 (by decide) ?_
  refine lv_iload_n C.1.1 C.1.2.1 dX12_note_16 rfl (lv_at hl 3 rfl) ?_
  refine lv_bipush (v := (6 : Int32)) C.1.1 C.1.2.1 dX12_note_17 (by decide) ?_
  refine lv_irem C.1.1 C.1.2.1 dX12_note_19 w.1 ?_
  replace w := w.2
  refine lv_imul C.1.1 C.1.2.1 dX12_note_20 ?_
  refine lv_ishr C.1.1 C.1.2.1 dX12_note_21 ?_
  refine lv_bipush (v := (7 : Int32)) C.1.1 C.1.2.1 dX12_note_22 (by decide) ?_
  refine lv_iand C.1.1 C.1.2.1 dX12_note_24 ?_
  refine lv_iadd C.1.1 C.1.2.1 dX12_note_25 ?_
  exact ql_iret C S hr hlocks dX12_note_26 ⟨Nat.le_of_ble_eq_true rfl, Nat.le_of_ble_eq_true rfl⟩ w
def qw_X12_puts (a0 : Nat) (xp1 : Int32) (xp2 : Int32) (xp3 : Int32) (xp4 : Int32) (h : ql_H) (Q : ql_H → Prop) : Prop :=
¬ (6 : Int32) = 0 ∧
¬ (6 : Int32) = 0 ∧
ql_rv h (some a0) 13 fun b1 => qw_X12_of b1 xp1 ((xp2 + (2 : Int32)) + (xp3 / (6 : Int32))) h (fun x1 h =>
ql_rv h (some a0) 13 fun b2 => qw_X12_lays b2 xp1 ((xp2 + (2 : Int32)) + (xp3 / (6 : Int32))) ((x1 &&& (((7 : Int32) <<< (((3 : Int32) * (xp3 - xp3 / (6 : Int32) * (6 : Int32))) &&& 31)) ^^^ (-1 : Int32))) ||| ((xp4 - (97 : Int32)) <<< (((3 : Int32) * (xp3 - xp3 / (6 : Int32) * (6 : Int32))) &&& 31))) h (fun h =>
Q h))
set_option maxHeartbeats 4000000 in
set_option maxRecDepth 100000 in
theorem qm_X12_puts (l : Launch) (hl9 : l.stackTraces = false) (D : ql_D) (h0 : ql_H) (a0 : Nat) (xp1 : Int32) (xp2 : Int32) (xp3 : Int32) (xp4 : Int32) (Q : ql_H → Prop) (X : String → ql_H → Prop) (w : qw_X12_puts a0 xp1 xp2 xp3 xp4 h0 Q) : ql_M D l yX12_puts cX12_puts 7 none ({ frames := 4, cells := 0, slots := 0, locals := 79 } : Room) h0 [.ref a0, .int xp1, .int xp2, .int xp3, .int xp4] (ql_rV Q) X 0 0 := by
  refine ql_ofW (by decide) (Nat.le_of_ble_eq_true rfl) ?_
  intro p e s m below meth c ls C hr hlocks hnm htab S hl
  have hl : lv_has ls 7 [(0, .ref a0), (1, .int xp1), (2, .int xp2), (3, .int xp3), (4, .int xp4)] := hl
  unfold qw_X12_puts at w
  refine lv_iload_n C.1.1 C.1.2.1 dX12_puts_0 rfl (lv_at hl 2 rfl) ?_
  refine lv_iconst (v := (2 : Int32)) C.1.1 C.1.2.1 dX12_puts_1 (by decide) ?_
  refine lv_iadd C.1.1 C.1.2.1 dX12_puts_2 ?_
  refine lv_iload_n C.1.1 C.1.2.1 dX12_puts_3 rfl (lv_at hl 3 rfl) ?_
  refine lv_bipush (v := (6 : Int32)) C.1.1 C.1.2.1 dX12_puts_4 (by decide) ?_
  refine lv_idiv C.1.1 C.1.2.1 dX12_puts_6 w.1 ?_
  replace w := w.2
  refine lv_iadd C.1.1 C.1.2.1 dX12_puts_7 ?_
  refine lv_istore (lv' := [(5, .int ((xp2 + (2 : Int32)) + (xp3 / (6 : Int32)))), (0, .ref a0), (1, .int xp1), (2, .int xp2), (3, .int xp3), (4, .int xp4)]) C.1.1 C.1.2.1 dX12_puts_8 hl (by decide) rfl (fun ls hl => ?_)
  refine lv_iconst (v := (3 : Int32)) C.1.1 C.1.2.1 dX12_puts_10 (by decide) ?_
  refine lv_iload_n C.1.1 C.1.2.1 dX12_puts_11 rfl (lv_at hl 4 rfl) ?_
  refine lv_bipush (v := (6 : Int32)) C.1.1 C.1.2.1 dX12_puts_12 (by decide) ?_
  refine lv_irem C.1.1 C.1.2.1 dX12_puts_14 w.1 ?_
  replace w := w.2
  refine lv_imul C.1.1 C.1.2.1 dX12_puts_15 ?_
  refine lv_istore (lv' := [(6, .int ((3 : Int32) * (xp3 - xp3 / (6 : Int32) * (6 : Int32)))), (5, .int ((xp2 + (2 : Int32)) + (xp3 / (6 : Int32)))), (0, .ref a0), (1, .int xp1), (2, .int xp2), (3, .int xp3), (4, .int xp4)]) C.1.1 C.1.2.1 dX12_puts_16 hl (by decide) rfl (fun ls hl => ?_)
  refine ql_aload_n (r := (some a0)) C dX12_puts_18 rfl (lv_at hl 2 rfl) ?_
  refine lv_iload_n C.1.1 C.1.2.1 dX12_puts_19 rfl (lv_at hl 3 rfl) ?_
  refine lv_iload C.1.1 C.1.2.1 dX12_puts_20 (lv_at hl 1 rfl) ?_
  refine ql_aload_n (r := (some a0)) C dX12_puts_22 rfl (lv_at hl 2 rfl) ?_
  refine lv_iload_n C.1.1 C.1.2.1 dX12_puts_23 rfl (lv_at hl 3 rfl) ?_
  refine lv_iload C.1.1 C.1.2.1 dX12_puts_24 (lv_at hl 1 rfl) ?_
  refine ql_VI (As := [.int xp1, .int ((xp2 + (2 : Int32)) + (xp3 / (6 : Int32)))]) (rest := [.int ((xp2 + (2 : Int32)) + (xp3 / (6 : Int32))), .int xp1, .ref a0]) C S htab hlocks hl qy_X12_of qi_X12_of qs_X12_of gw_1745 (ci := 13) rfl w (fun b w => qm_X12_of l hl9 D _ b xp1 ((xp2 + (2 : Int32)) + (xp3 / (6 : Int32))) _ _ w) rfl ⟨Nat.le_of_ble_eq_true rfl, Nat.le_of_ble_eq_true rfl⟩ ⟨rfl, rfl⟩ (by exact Nat.le_of_ble_eq_true rfl) (fun b e9 => by cases e9; rfl) dX12_puts_26 ⟨Nat.le_of_ble_eq_true rfl, Nat.le_of_ble_eq_true rfl⟩ ⟨Nat.le_of_ble_eq_true rfl, Nat.le_of_ble_eq_true rfl⟩ (fun x1 h H locs S w => ?_)
  refine W.cs (cells' := 0) (slots' := 0) rfl rfl ?_
  refine lv_bipush (v := (7 : Int32)) C.1.1 C.1.2.1 dX12_puts_29 (by decide) ?_
  refine lv_iload C.1.1 C.1.2.1 dX12_puts_31 (lv_at hl 0 rfl) ?_
  refine lv_ishl C.1.1 C.1.2.1 dX12_puts_33 ?_
  refine lv_iconst (v := (-1 : Int32)) C.1.1 C.1.2.1 dX12_puts_34 (by decide) ?_
  refine lv_ixor C.1.1 C.1.2.1 dX12_puts_35 ?_
  refine lv_iand C.1.1 C.1.2.1 dX12_puts_36 ?_
  refine lv_iload C.1.1 C.1.2.1 dX12_puts_37 (lv_at hl 6 rfl) ?_
  refine lv_bipush (v := (97 : Int32)) C.1.1 C.1.2.1 dX12_puts_39 (by decide) ?_
  refine lv_isub C.1.1 C.1.2.1 dX12_puts_41 ?_
  refine lv_iload C.1.1 C.1.2.1 dX12_puts_42 (lv_at hl 0 rfl) ?_
  refine lv_ishl C.1.1 C.1.2.1 dX12_puts_44 ?_
  refine lv_ior C.1.1 C.1.2.1 dX12_puts_45 ?_
  refine ql_VV (As := [.int xp1, .int ((xp2 + (2 : Int32)) + (xp3 / (6 : Int32))), .int ((x1 &&& (((7 : Int32) <<< (((3 : Int32) * (xp3 - xp3 / (6 : Int32) * (6 : Int32))) &&& 31)) ^^^ (-1 : Int32))) ||| ((xp4 - (97 : Int32)) <<< (((3 : Int32) * (xp3 - xp3 / (6 : Int32) * (6 : Int32))) &&& 31)))]) (rest := []) C S htab hlocks hl qy_X12_lays qi_X12_lays qs_X12_lays gw_1760 (ci := 13) rfl w (fun b w => qm_X12_lays l hl9 D _ b xp1 ((xp2 + (2 : Int32)) + (xp3 / (6 : Int32))) ((x1 &&& (((7 : Int32) <<< (((3 : Int32) * (xp3 - xp3 / (6 : Int32) * (6 : Int32))) &&& 31)) ^^^ (-1 : Int32))) ||| ((xp4 - (97 : Int32)) <<< (((3 : Int32) * (xp3 - xp3 / (6 : Int32) * (6 : Int32))) &&& 31))) _ _ w) rfl ⟨Nat.le_of_ble_eq_true rfl, Nat.le_of_ble_eq_true rfl⟩ ⟨rfl, rfl⟩ (by exact Nat.le_of_ble_eq_true rfl) (fun b e9 => by cases e9; rfl) dX12_puts_46 ⟨Nat.le_of_ble_eq_true rfl, Nat.le_of_ble_eq_true rfl⟩ ⟨Nat.le_of_ble_eq_true rfl, Nat.le_of_ble_eq_true rfl⟩ (fun h H locs S w => ?_)
  refine W.cs (cells' := 0) (slots' := 0) rfl rfl ?_
  exact ql_vret C S hr hlocks dX12_puts_49 ⟨Nat.le_of_ble_eq_true rfl, Nat.le_of_ble_eq_true rfl⟩ w
def qw_X12_addClause_86 (a0 : Nat) (Q : Int32 → ql_H → Prop) : Nat → Int32 → Int32 → Int32 → Int32 → ql_H → Prop
  | 0, _, _, _, _, _ => False
  | n + 1, xl1, xl2, xl3, xl4, h =>
    if (42 : Int32) ≤ xl4 then (ql_gR h (some a0) 13 0 fun r1 =>
    ql_lI h r1 0 (1 : Int32) fun x2 =>
    ql_rv h (some a0) 13 fun b2 => qw_X12_lays b2 xl3 (0 : Int32) x2 h (fun h =>
    ql_rv h (some a0) 13 fun b3 => qw_X12_lays b3 xl3 (1 : Int32) xl1 h (fun h =>
    ql_gR h (some a0) 13 0 fun r5 =>
    ql_lI h r5 0 (2 : Int32) fun x6 =>
    ql_rv h (some a0) 13 fun b6 => qw_X12_lays b6 xl3 (2 : Int32) x6 h (fun h =>
    ql_rv h (some a0) 13 fun b7 => qw_X12_lays b7 xl3 (3 : Int32) (-1 : Int32) h (fun h =>
    ql_rv h (some a0) 13 fun b8 => qw_X12_lays b8 xl3 (4 : Int32) (1 : Int32) h (fun h =>
    ql_gR h (some a0) 13 0 fun r10 =>
    ql_lI h r10 0 (2 : Int32) fun x11 =>
    ql_rv h (some a0) 13 fun b11 => qw_X12_lays b11 xl3 (5 : Int32) x11 h (fun h =>
    ql_rv h (some a0) 13 fun b12 => qw_X12_lays b12 xl3 (6 : Int32) (1 : Int32) h (fun h =>
    ql_rv h (some a0) 13 fun b13 => qw_X12_puts b13 xl3 (5 : Int32) (0 : Int32) xl2 h (fun h =>
    ql_gR h (some a0) 13 0 fun r15 =>
    ql_lI h r15 0 (1 : Int32) fun x16 =>
    ql_sI h r15 0 (1 : Int32) (x16 + (1 : Int32)) fun h =>
    ql_gR h (some a0) 13 0 fun r17 =>
    ql_lI h r17 0 (1 : Int32) fun x18 =>
    Q (x18 - (1 : Int32)) h))))))))) else (ql_rv h (some a0) 13 fun b18 => qw_X12_lays b18 xl3 xl4 (0 : Int32) h (fun h =>
    qw_X12_addClause_86 a0 Q n xl1 xl2 xl3 (xl4 + (1 : Int32)) h))
def qw_X12_addClause_50 (a0 : Nat) (Q : Int32 → ql_H → Prop) (xl1 : Int32) (xl2 : Int32) (rs0 : Option Nat) (xs1 : Int32) (h : ql_H) : Prop :=
ql_rv h rs0 13 fun b20 => qw_X12_fails b20 xs1 h (fun x20 h =>
if x20 = 0 then (ql_gR h (some a0) 13 0 fun r22 =>
ql_rv h (some a0) 13 fun b22 => qw_X12_keeps b22 r22 h (fun h =>
ql_gR h (some a0) 13 0 fun r24 =>
ql_lI h r24 0 (0 : Int32) fun x25 =>
ql_gR h (some a0) 13 0 fun r26 =>
ql_lI h r26 0 (0 : Int32) fun x27 =>
ql_sI h r26 0 (0 : Int32) (x27 + (1 : Int32)) fun h =>
qw_X12_addClause_86 a0 Q ql_FU xl1 xl2 x25 (0 : Int32) h)) else (Q (0 : Int32) h))
def qw_X12_addClause_18 (a0 : Nat) (Q : Int32 → ql_H → Prop) (xl1 : Int32) (xl2 : Int32) (rs0 : Option Nat) (h : ql_H) : Prop :=
qw_X12_addClause_50 a0 Q xl1 xl2 rs0 (1 : Int32) h
def qw_X12_addClause (a0 : Nat) (xp1 : Int32) (xp2 : Int32) (h : ql_H) (Q : Int32 → ql_H → Prop) : Prop :=
qw_X12_in xp1 (1 : Int32) (99 : Int32) h (fun x28 h =>
if x28 = 0 then (qw_X12_addClause_18 a0 Q xp1 xp2 (some a0) h) else (qw_X12_isNote xp2 h (fun x29 h =>
if x29 = 0 then (qw_X12_addClause_18 a0 Q xp1 xp2 (some a0) h) else (ql_gR h (some a0) 13 0 fun r30 =>
ql_lI h r30 0 (0 : Int32) fun x31 =>
if x31 = (16 : Int32) then (qw_X12_addClause_50 a0 Q xp1 xp2 (some a0) (2 : Int32) h) else (ql_rv h (some a0) 13 fun b32 => qw_X12_withSection b32 xp1 h (fun x32 h =>
if x32 < 0 then (qw_X12_addClause_50 a0 Q xp1 xp2 (some a0) (0 : Int32) h) else (qw_X12_addClause_50 a0 Q xp1 xp2 (some a0) (3 : Int32) h)))))))
set_option maxHeartbeats 4000000 in
set_option maxRecDepth 100000 in
theorem qm_X12_addClause (l : Launch) (hl9 : l.stackTraces = false) (D : ql_D) (h0 : ql_H) (a0 : Nat) (xp1 : Int32) (xp2 : Int32) (Q : Int32 → ql_H → Prop) (X : String → ql_H → Prop) (w : qw_X12_addClause a0 xp1 xp2 h0 Q) : ql_M D l yX12_addClause cX12_addClause 5 (some .int) ({ frames := 6, cells := 0, slots := 0, locals := 113 } : Room) h0 [.ref a0, .int xp1, .int xp2] (ql_rI Q) X 0 0 := by
  refine ql_ofW (by decide) (Nat.le_of_ble_eq_true rfl) ?_
  intro p e s m below meth c ls C hr hlocks hnm htab S hl
  have hl : lv_has ls 5 [(0, .ref a0), (1, .int xp1), (2, .int xp2)] := hl
  have hB86 : ∀ n : Nat, ∀ (xl1 : Int32) (xl2 : Int32) (xl3 : Int32) (xl4 : Int32) (h : ql_H) (H : Heap) (locs : List Loc) (ls : Array Slot), ql_S D h0 s H locs h → lv_has ls 5 [(0, .ref a0), (1, .int xl1), (2, .int xl2), (3, .int xl3), (4, .int xl4)] → qw_X12_addClause_86 a0 Q n xl1 xl2 xl3 xl4 h → W p l e ({ frames := 6, cells := 0, slots := 0, locals := 113 } : Room) s m ([.ref a0, .int xp1, .int xp2] : List Value).toArray below meth c H locs 0 0 (vx_MQ below (ql_Q D h0 (ql_rI Q)) (ql_X D h0 X) ([.ref a0, .int xp1, .int xp2] : List Value).toArray s 0 0 (ql_A h0)) (F0 m 86 ls []) := by
    intro n
    induction n with
    | zero => intro xl1 xl2 xl3 xl4 h H locs ls S hl w; rw [qw_X12_addClause_86] at w; exact w.elim
    | succ n ih =>
      intro xl1 xl2 xl3 xl4 h H locs ls S hl w
      rw [qw_X12_addClause_86] at w
      refine lv_iload C.1.1 C.1.2.1 dX12_addClause_86 (lv_at hl 4 rfl) ?_
      refine lv_bipush (v := (42 : Int32)) C.1.1 C.1.2.1 dX12_addClause_88 (by decide) ?_
      refine lv_icmp_ge (tgt := 107) C.1.1 C.1.2.1 dX12_addClause_90 (by decide) (fun c9 => ?_) (fun c9 => ?_)
      · replace w := ql_if w c9
        refine ql_aload_n (r := (some a0)) C dX12_addClause_107 rfl (lv_at hl 0 rfl) ?_
        refine lv_iload_n C.1.1 C.1.2.1 dX12_addClause_108 rfl (lv_at hl 3 rfl) ?_
        refine lv_iconst (v := (0 : Int32)) C.1.1 C.1.2.1 dX12_addClause_109 (by decide) ?_
        refine ql_aload_n (r := (some a0)) C dX12_addClause_110 rfl (lv_at hl 0 rfl) ?_
        refine ql_getR C S qf_13_0 gw_1668 dX12_addClause_111 w (fun r1 w => ?_)
        refine lv_iconst (v := (1 : Int32)) C.1.1 C.1.2.1 dX12_addClause_114 (by decide) ?_
        refine ql_iald C S dX12_addClause_115 w (fun x2 w => ?_)
        refine ql_VV (As := [.int xl3, .int (0 : Int32), .int x2]) (rest := []) C S htab hlocks hl qy_X12_lays qi_X12_lays qs_X12_lays gw_1760 (ci := 13) rfl w (fun b w => qm_X12_lays l hl9 D _ b xl3 (0 : Int32) x2 _ _ w) rfl ⟨Nat.le_of_ble_eq_true rfl, Nat.le_of_ble_eq_true rfl⟩ ⟨rfl, rfl⟩ (by exact Nat.le_of_ble_eq_true rfl) (fun b e9 => by cases e9; rfl) dX12_addClause_116 ⟨Nat.le_of_ble_eq_true rfl, Nat.le_of_ble_eq_true rfl⟩ ⟨Nat.le_of_ble_eq_true rfl, Nat.le_of_ble_eq_true rfl⟩ (fun h H locs S w => ?_)
        refine W.cs (cells' := 0) (slots' := 0) rfl rfl ?_
        refine ql_aload_n (r := (some a0)) C dX12_addClause_119 rfl (lv_at hl 0 rfl) ?_
        refine lv_iload_n C.1.1 C.1.2.1 dX12_addClause_120 rfl (lv_at hl 3 rfl) ?_
        refine lv_iconst (v := (1 : Int32)) C.1.1 C.1.2.1 dX12_addClause_121 (by decide) ?_
        refine lv_iload_n C.1.1 C.1.2.1 dX12_addClause_122 rfl (lv_at hl 1 rfl) ?_
        refine ql_VV (As := [.int xl3, .int (1 : Int32), .int xl1]) (rest := []) C S htab hlocks hl qy_X12_lays qi_X12_lays qs_X12_lays gw_1760 (ci := 13) rfl w (fun b w => qm_X12_lays l hl9 D _ b xl3 (1 : Int32) xl1 _ _ w) rfl ⟨Nat.le_of_ble_eq_true rfl, Nat.le_of_ble_eq_true rfl⟩ ⟨rfl, rfl⟩ (by exact Nat.le_of_ble_eq_true rfl) (fun b e9 => by cases e9; rfl) dX12_addClause_123 ⟨Nat.le_of_ble_eq_true rfl, Nat.le_of_ble_eq_true rfl⟩ ⟨Nat.le_of_ble_eq_true rfl, Nat.le_of_ble_eq_true rfl⟩ (fun h H locs S w => ?_)
        refine W.cs (cells' := 0) (slots' := 0) rfl rfl ?_
        refine ql_aload_n (r := (some a0)) C dX12_addClause_126 rfl (lv_at hl 0 rfl) ?_
        refine lv_iload_n C.1.1 C.1.2.1 dX12_addClause_127 rfl (lv_at hl 3 rfl) ?_
        refine lv_iconst (v := (2 : Int32)) C.1.1 C.1.2.1 dX12_addClause_128 (by decide) ?_
        refine ql_aload_n (r := (some a0)) C dX12_addClause_129 rfl (lv_at hl 0 rfl) ?_
        refine ql_getR C S qf_13_0 gw_1668 dX12_addClause_130 w (fun r5 w => ?_)
        refine lv_iconst (v := (2 : Int32)) C.1.1 C.1.2.1 dX12_addClause_133 (by decide) ?_
        refine ql_iald C S dX12_addClause_134 w (fun x6 w => ?_)
        refine ql_VV (As := [.int xl3, .int (2 : Int32), .int x6]) (rest := []) C S htab hlocks hl qy_X12_lays qi_X12_lays qs_X12_lays gw_1760 (ci := 13) rfl w (fun b w => qm_X12_lays l hl9 D _ b xl3 (2 : Int32) x6 _ _ w) rfl ⟨Nat.le_of_ble_eq_true rfl, Nat.le_of_ble_eq_true rfl⟩ ⟨rfl, rfl⟩ (by exact Nat.le_of_ble_eq_true rfl) (fun b e9 => by cases e9; rfl) dX12_addClause_135 ⟨Nat.le_of_ble_eq_true rfl, Nat.le_of_ble_eq_true rfl⟩ ⟨Nat.le_of_ble_eq_true rfl, Nat.le_of_ble_eq_true rfl⟩ (fun h H locs S w => ?_)
        refine W.cs (cells' := 0) (slots' := 0) rfl rfl ?_
        refine ql_aload_n (r := (some a0)) C dX12_addClause_138 rfl (lv_at hl 0 rfl) ?_
        refine lv_iload_n C.1.1 C.1.2.1 dX12_addClause_139 rfl (lv_at hl 3 rfl) ?_
        refine lv_iconst (v := (3 : Int32)) C.1.1 C.1.2.1 dX12_addClause_140 (by decide) ?_
        refine lv_iconst (v := (-1 : Int32)) C.1.1 C.1.2.1 dX12_addClause_141 (by decide) ?_
        refine ql_VV (As := [.int xl3, .int (3 : Int32), .int (-1 : Int32)]) (rest := []) C S htab hlocks hl qy_X12_lays qi_X12_lays qs_X12_lays gw_1760 (ci := 13) rfl w (fun b w => qm_X12_lays l hl9 D _ b xl3 (3 : Int32) (-1 : Int32) _ _ w) rfl ⟨Nat.le_of_ble_eq_true rfl, Nat.le_of_ble_eq_true rfl⟩ ⟨rfl, rfl⟩ (by exact Nat.le_of_ble_eq_true rfl) (fun b e9 => by cases e9; rfl) dX12_addClause_142 ⟨Nat.le_of_ble_eq_true rfl, Nat.le_of_ble_eq_true rfl⟩ ⟨Nat.le_of_ble_eq_true rfl, Nat.le_of_ble_eq_true rfl⟩ (fun h H locs S w => ?_)
        refine W.cs (cells' := 0) (slots' := 0) rfl rfl ?_
        refine ql_aload_n (r := (some a0)) C dX12_addClause_145 rfl (lv_at hl 0 rfl) ?_
        refine lv_iload_n C.1.1 C.1.2.1 dX12_addClause_146 rfl (lv_at hl 3 rfl) ?_
        refine lv_iconst (v := (4 : Int32)) C.1.1 C.1.2.1 dX12_addClause_147 (by decide) ?_
        refine lv_iconst (v := (1 : Int32)) C.1.1 C.1.2.1 dX12_addClause_148 (by decide) ?_
        refine ql_VV (As := [.int xl3, .int (4 : Int32), .int (1 : Int32)]) (rest := []) C S htab hlocks hl qy_X12_lays qi_X12_lays qs_X12_lays gw_1760 (ci := 13) rfl w (fun b w => qm_X12_lays l hl9 D _ b xl3 (4 : Int32) (1 : Int32) _ _ w) rfl ⟨Nat.le_of_ble_eq_true rfl, Nat.le_of_ble_eq_true rfl⟩ ⟨rfl, rfl⟩ (by exact Nat.le_of_ble_eq_true rfl) (fun b e9 => by cases e9; rfl) dX12_addClause_149 ⟨Nat.le_of_ble_eq_true rfl, Nat.le_of_ble_eq_true rfl⟩ ⟨Nat.le_of_ble_eq_true rfl, Nat.le_of_ble_eq_true rfl⟩ (fun h H locs S w => ?_)
        refine W.cs (cells' := 0) (slots' := 0) rfl rfl ?_
        refine ql_aload_n (r := (some a0)) C dX12_addClause_152 rfl (lv_at hl 0 rfl) ?_
        refine lv_iload_n C.1.1 C.1.2.1 dX12_addClause_153 rfl (lv_at hl 3 rfl) ?_
        refine lv_iconst (v := (5 : Int32)) C.1.1 C.1.2.1 dX12_addClause_154 (by decide) ?_
        refine ql_aload_n (r := (some a0)) C dX12_addClause_155 rfl (lv_at hl 0 rfl) ?_
        refine ql_getR C S qf_13_0 gw_1668 dX12_addClause_156 w (fun r10 w => ?_)
        refine lv_iconst (v := (2 : Int32)) C.1.1 C.1.2.1 dX12_addClause_159 (by decide) ?_
        refine ql_iald C S dX12_addClause_160 w (fun x11 w => ?_)
        refine ql_VV (As := [.int xl3, .int (5 : Int32), .int x11]) (rest := []) C S htab hlocks hl qy_X12_lays qi_X12_lays qs_X12_lays gw_1760 (ci := 13) rfl w (fun b w => qm_X12_lays l hl9 D _ b xl3 (5 : Int32) x11 _ _ w) rfl ⟨Nat.le_of_ble_eq_true rfl, Nat.le_of_ble_eq_true rfl⟩ ⟨rfl, rfl⟩ (by exact Nat.le_of_ble_eq_true rfl) (fun b e9 => by cases e9; rfl) dX12_addClause_161 ⟨Nat.le_of_ble_eq_true rfl, Nat.le_of_ble_eq_true rfl⟩ ⟨Nat.le_of_ble_eq_true rfl, Nat.le_of_ble_eq_true rfl⟩ (fun h H locs S w => ?_)
        refine W.cs (cells' := 0) (slots' := 0) rfl rfl ?_
        refine ql_aload_n (r := (some a0)) C dX12_addClause_164 rfl (lv_at hl 0 rfl) ?_
        refine lv_iload_n C.1.1 C.1.2.1 dX12_addClause_165 rfl (lv_at hl 3 rfl) ?_
        refine lv_bipush (v := (6 : Int32)) C.1.1 C.1.2.1 dX12_addClause_166 (by decide) ?_
        refine lv_iconst (v := (1 : Int32)) C.1.1 C.1.2.1 dX12_addClause_168 (by decide) ?_
        refine ql_VV (As := [.int xl3, .int (6 : Int32), .int (1 : Int32)]) (rest := []) C S htab hlocks hl qy_X12_lays qi_X12_lays qs_X12_lays gw_1760 (ci := 13) rfl w (fun b w => qm_X12_lays l hl9 D _ b xl3 (6 : Int32) (1 : Int32) _ _ w) rfl ⟨Nat.le_of_ble_eq_true rfl, Nat.le_of_ble_eq_true rfl⟩ ⟨rfl, rfl⟩ (by exact Nat.le_of_ble_eq_true rfl) (fun b e9 => by cases e9; rfl) dX12_addClause_169 ⟨Nat.le_of_ble_eq_true rfl, Nat.le_of_ble_eq_true rfl⟩ ⟨Nat.le_of_ble_eq_true rfl, Nat.le_of_ble_eq_true rfl⟩ (fun h H locs S w => ?_)
        refine W.cs (cells' := 0) (slots' := 0) rfl rfl ?_
        refine ql_aload_n (r := (some a0)) C dX12_addClause_172 rfl (lv_at hl 0 rfl) ?_
        refine lv_iload_n C.1.1 C.1.2.1 dX12_addClause_173 rfl (lv_at hl 3 rfl) ?_
        refine lv_iconst (v := (5 : Int32)) C.1.1 C.1.2.1 dX12_addClause_174 (by decide) ?_
        refine lv_iconst (v := (0 : Int32)) C.1.1 C.1.2.1 dX12_addClause_175 (by decide) ?_
        refine lv_iload_n C.1.1 C.1.2.1 dX12_addClause_176 rfl (lv_at hl 2 rfl) ?_
        refine ql_VV (As := [.int xl3, .int (5 : Int32), .int (0 : Int32), .int xl2]) (rest := []) C S htab hlocks hl qy_X12_puts qi_X12_puts qs_X12_puts gw_1764 (ci := 13) rfl w (fun b w => qm_X12_puts l hl9 D _ b xl3 (5 : Int32) (0 : Int32) xl2 _ _ w) rfl ⟨Nat.le_of_ble_eq_true rfl, Nat.le_of_ble_eq_true rfl⟩ ⟨rfl, rfl⟩ (by exact Nat.le_of_ble_eq_true rfl) (fun b e9 => by cases e9; rfl) dX12_addClause_177 ⟨Nat.le_of_ble_eq_true rfl, Nat.le_of_ble_eq_true rfl⟩ ⟨Nat.le_of_ble_eq_true rfl, Nat.le_of_ble_eq_true rfl⟩ (fun h H locs S w => ?_)
        refine W.cs (cells' := 0) (slots' := 0) rfl rfl ?_
        refine ql_aload_n (r := (some a0)) C dX12_addClause_180 rfl (lv_at hl 0 rfl) ?_
        refine ql_getR C S qf_13_0 gw_1668 dX12_addClause_181 w (fun r15 w => ?_)
        refine lv_iconst (v := (1 : Int32)) C.1.1 C.1.2.1 dX12_addClause_184 (by decide) ?_
        refine lv_dup2_11 C.1.1 C.1.2.1 dX12_addClause_185 rfl (ql_catR _) ?_
        refine ql_iald C S dX12_addClause_186 w (fun x16 w => ?_)
        refine lv_iconst (v := (1 : Int32)) C.1.1 C.1.2.1 dX12_addClause_187 (by decide) ?_
        refine lv_iadd C.1.1 C.1.2.1 dX12_addClause_188 ?_
        refine ql_iast C S dX12_addClause_189 w (fun h H locs S w => ?_)
        refine ql_aload_n (r := (some a0)) C dX12_addClause_190 rfl (lv_at hl 0 rfl) ?_
        refine ql_getR C S qf_13_0 gw_1668 dX12_addClause_191 w (fun r17 w => ?_)
        refine lv_iconst (v := (1 : Int32)) C.1.1 C.1.2.1 dX12_addClause_194 (by decide) ?_
        refine ql_iald C S dX12_addClause_195 w (fun x18 w => ?_)
        refine lv_iconst (v := (1 : Int32)) C.1.1 C.1.2.1 dX12_addClause_196 (by decide) ?_
        refine lv_isub C.1.1 C.1.2.1 dX12_addClause_197 ?_
        exact ql_iret C S hr hlocks dX12_addClause_198 ⟨Nat.le_of_ble_eq_true rfl, Nat.le_of_ble_eq_true rfl⟩ w
      · replace w := ql_ifn w c9
        refine ql_aload_n (r := (some a0)) C dX12_addClause_93 rfl (lv_at hl 0 rfl) ?_
        refine lv_iload_n C.1.1 C.1.2.1 dX12_addClause_94 rfl (lv_at hl 3 rfl) ?_
        refine lv_iload C.1.1 C.1.2.1 dX12_addClause_95 (lv_at hl 4 rfl) ?_
        refine lv_iconst (v := (0 : Int32)) C.1.1 C.1.2.1 dX12_addClause_97 (by decide) ?_
        refine ql_VV (As := [.int xl3, .int xl4, .int (0 : Int32)]) (rest := []) C S htab hlocks hl qy_X12_lays qi_X12_lays qs_X12_lays gw_1760 (ci := 13) rfl w (fun b w => qm_X12_lays l hl9 D _ b xl3 xl4 (0 : Int32) _ _ w) rfl ⟨Nat.le_of_ble_eq_true rfl, Nat.le_of_ble_eq_true rfl⟩ ⟨rfl, rfl⟩ (by exact Nat.le_of_ble_eq_true rfl) (fun b e9 => by cases e9; rfl) dX12_addClause_98 ⟨Nat.le_of_ble_eq_true rfl, Nat.le_of_ble_eq_true rfl⟩ ⟨Nat.le_of_ble_eq_true rfl, Nat.le_of_ble_eq_true rfl⟩ (fun h H locs S w => ?_)
        refine W.cs (cells' := 0) (slots' := 0) rfl rfl ?_
        refine lv_iinc (v := (xl4 + (1 : Int32))) (lv' := [(4, .int (xl4 + (1 : Int32))), (0, .ref a0), (1, .int xl1), (2, .int xl2), (3, .int xl3)]) C.1.1 C.1.2.1 dX12_addClause_101 hl (k := 4) rfl rfl (by decide) rfl (fun ls hl => ?_)
        refine lv_goto (tgt := 86) C.1.1 C.1.2.1 dX12_addClause_104 (by decide) ?_
        exact ih xl1 xl2 xl3 (xl4 + (1 : Int32)) _ _ _ _ S (lv_sub hl [1, 2, 3, 4, 0] rfl) w
  have hB50 : ∀ (xl1 : Int32) (xl2 : Int32) (rs0 : Option Nat) (xs1 : Int32) (h : ql_H) (H : Heap) (locs : List Loc) (ls : Array Slot), ql_S D h0 s H locs h → lv_has ls 5 [(0, .ref a0), (1, .int xl1), (2, .int xl2)] → qw_X12_addClause_50 a0 Q xl1 xl2 rs0 xs1 h → W p l e ({ frames := 6, cells := 0, slots := 0, locals := 113 } : Room) s m ([.ref a0, .int xp1, .int xp2] : List Value).toArray below meth c H locs 0 0 (vx_MQ below (ql_Q D h0 (ql_rI Q)) (ql_X D h0 X) ([.ref a0, .int xp1, .int xp2] : List Value).toArray s 0 0 (ql_A h0)) (F0 m 50 ls [.int xs1, va_rf rs0]) := by
    intro xl1 xl2 rs0 xs1 h H locs ls S hl w
    unfold qw_X12_addClause_50 at w
    refine ql_VI (As := [.int xs1]) (rest := []) C S htab hlocks hl qy_X12_fails qi_X12_fails qs_X12_fails gw_1749 (ci := 13) rfl w (fun b w => qm_X12_fails l hl9 D _ b xs1 _ _ w) rfl ⟨Nat.le_of_ble_eq_true rfl, Nat.le_of_ble_eq_true rfl⟩ ⟨rfl, rfl⟩ (by exact Nat.le_of_ble_eq_true rfl) (fun b e9 => by cases e9; rfl) dX12_addClause_50 ⟨Nat.le_of_ble_eq_true rfl, Nat.le_of_ble_eq_true rfl⟩ ⟨Nat.le_of_ble_eq_true rfl, Nat.le_of_ble_eq_true rfl⟩ (fun x20 h H locs S w => ?_)
    refine W.cs (cells' := 0) (slots' := 0) rfl rfl ?_
    refine lv_if_eq (tgt := 58) C.1.1 C.1.2.1 dX12_addClause_53 (by decide) (fun c9 => ?_) (fun c9 => ?_)
    · replace w := ql_if w c9
      refine ql_aload_n (r := (some a0)) C dX12_addClause_58 rfl (lv_at hl 0 rfl) ?_
      refine ql_aload_n (r := (some a0)) C dX12_addClause_59 rfl (lv_at hl 0 rfl) ?_
      refine ql_getR C S qf_13_0 gw_1668 dX12_addClause_60 w (fun r22 w => ?_)
      refine ql_VV (As := [va_rf r22]) (rest := []) C S htab hlocks hl qy_X12_keeps qi_X12_keeps qs_X12_keeps gw_1753 (ci := 13) rfl w (fun b w => qm_X12_keeps l hl9 D _ b r22 _ _ w) rfl ⟨Nat.le_of_ble_eq_true rfl, Nat.le_of_ble_eq_true rfl⟩ ⟨rfl, rfl⟩ (by exact Nat.le_of_ble_eq_true rfl) (fun b e9 => by cases e9; rfl) dX12_addClause_63 ⟨Nat.le_of_ble_eq_true rfl, Nat.le_of_ble_eq_true rfl⟩ ⟨Nat.le_of_ble_eq_true rfl, Nat.le_of_ble_eq_true rfl⟩ (fun h H locs S w => ?_)
      refine W.cs (cells' := 0) (slots' := 0) rfl rfl ?_
      refine ql_aload_n (r := (some a0)) C dX12_addClause_66 rfl (lv_at hl 0 rfl) ?_
      refine ql_getR C S qf_13_0 gw_1668 dX12_addClause_67 w (fun r24 w => ?_)
      refine lv_iconst (v := (0 : Int32)) C.1.1 C.1.2.1 dX12_addClause_70 (by decide) ?_
      refine ql_iald C S dX12_addClause_71 w (fun x25 w => ?_)
      refine lv_istore_n (lv' := [(3, .int x25), (0, .ref a0), (1, .int xl1), (2, .int xl2)]) C.1.1 C.1.2.1 dX12_addClause_72 rfl hl (by decide) rfl (fun ls hl => ?_)
      refine ql_aload_n (r := (some a0)) C dX12_addClause_73 rfl (lv_at hl 1 rfl) ?_
      refine ql_getR C S qf_13_0 gw_1668 dX12_addClause_74 w (fun r26 w => ?_)
      refine lv_iconst (v := (0 : Int32)) C.1.1 C.1.2.1 dX12_addClause_77 (by decide) ?_
      refine lv_dup2_11 C.1.1 C.1.2.1 dX12_addClause_78 rfl (ql_catR _) ?_
      refine ql_iald C S dX12_addClause_79 w (fun x27 w => ?_)
      refine lv_iconst (v := (1 : Int32)) C.1.1 C.1.2.1 dX12_addClause_80 (by decide) ?_
      refine lv_iadd C.1.1 C.1.2.1 dX12_addClause_81 ?_
      refine ql_iast C S dX12_addClause_82 w (fun h H locs S w => ?_)
      refine lv_iconst (v := (0 : Int32)) C.1.1 C.1.2.1 dX12_addClause_83 (by decide) ?_
      refine lv_istore (lv' := [(4, .int (0 : Int32)), (3, .int x25), (0, .ref a0), (1, .int xl1), (2, .int xl2)]) C.1.1 C.1.2.1 dX12_addClause_84 hl (by decide) rfl (fun ls hl => ?_)
      exact hB86 ql_FU xl1 xl2 x25 (0 : Int32) _ _ _ _ S (lv_sub hl [2, 3, 4, 1, 0] rfl) w
    · replace w := ql_ifn w c9
      refine lv_iconst (v := (0 : Int32)) C.1.1 C.1.2.1 dX12_addClause_56 (by decide) ?_
      exact ql_iret C S hr hlocks dX12_addClause_57 ⟨Nat.le_of_ble_eq_true rfl, Nat.le_of_ble_eq_true rfl⟩ w
  have hB18 : ∀ (xl1 : Int32) (xl2 : Int32) (rs0 : Option Nat) (h : ql_H) (H : Heap) (locs : List Loc) (ls : Array Slot), ql_S D h0 s H locs h → lv_has ls 5 [(0, .ref a0), (1, .int xl1), (2, .int xl2)] → qw_X12_addClause_18 a0 Q xl1 xl2 rs0 h → W p l e ({ frames := 6, cells := 0, slots := 0, locals := 113 } : Room) s m ([.ref a0, .int xp1, .int xp2] : List Value).toArray below meth c H locs 0 0 (vx_MQ below (ql_Q D h0 (ql_rI Q)) (ql_X D h0 X) ([.ref a0, .int xp1, .int xp2] : List Value).toArray s 0 0 (ql_A h0)) (F0 m 18 ls [va_rf rs0]) := by
    intro xl1 xl2 rs0 h H locs ls S hl w
    unfold qw_X12_addClause_18 at w
    refine lv_iconst (v := (1 : Int32)) C.1.1 C.1.2.1 dX12_addClause_18 (by decide) ?_
    refine lv_goto (tgt := 50) C.1.1 C.1.2.1 dX12_addClause_19 (by decide) ?_
    exact hB50 xl1 xl2 rs0 (1 : Int32) _ _ _ _ S (lv_sub hl [0, 1, 2] rfl) w
  unfold qw_X12_addClause at w
  refine ql_aload_n (r := (some a0)) C dX12_addClause_0 rfl (lv_at hl 0 rfl) ?_
  refine lv_iload_n C.1.1 C.1.2.1 dX12_addClause_1 rfl (lv_at hl 1 rfl) ?_
  refine lv_iconst (v := (1 : Int32)) C.1.1 C.1.2.1 dX12_addClause_2 (by decide) ?_
  refine lv_bipush (v := (99 : Int32)) C.1.1 C.1.2.1 dX12_addClause_3 (by decide) ?_
  refine ql_SI (As := [.int xp1, .int (1 : Int32), .int (99 : Int32)]) (rest := [.ref a0]) C S htab hlocks hl qy_X12_in qi_X12_in gw_1735 (qm_X12_in l hl9 D _ xp1 (1 : Int32) (99 : Int32) _ _ w) rfl ⟨Nat.le_of_ble_eq_true rfl, Nat.le_of_ble_eq_true rfl⟩ ⟨rfl, rfl⟩ (by exact Nat.le_of_ble_eq_true rfl) rfl dX12_addClause_5 ⟨Nat.le_of_ble_eq_true rfl, Nat.le_of_ble_eq_true rfl⟩ ⟨Nat.le_of_ble_eq_true rfl, Nat.le_of_ble_eq_true rfl⟩ (fun x28 h H locs S w => ?_)
  refine W.cs (cells' := 0) (slots' := 0) rfl rfl ?_
  refine lv_if_eq (tgt := 18) C.1.1 C.1.2.1 dX12_addClause_8 (by decide) (fun c9 => ?_) (fun c9 => ?_)
  · replace w := ql_if w c9
    exact hB18 xp1 xp2 (some a0) _ _ _ _ S (lv_sub hl [0, 1, 2] rfl) w
  · replace w := ql_ifn w c9
    refine lv_iload_n C.1.1 C.1.2.1 dX12_addClause_11 rfl (lv_at hl 2 rfl) ?_
    refine ql_SI (As := [.int xp2]) (rest := [.ref a0]) C S htab hlocks hl qy_X12_isNote qi_X12_isNote gw_1738 (qm_X12_isNote l hl9 D _ xp2 _ _ w) rfl ⟨Nat.le_of_ble_eq_true rfl, Nat.le_of_ble_eq_true rfl⟩ ⟨rfl, rfl⟩ (by exact Nat.le_of_ble_eq_true rfl) rfl dX12_addClause_12 ⟨Nat.le_of_ble_eq_true rfl, Nat.le_of_ble_eq_true rfl⟩ ⟨Nat.le_of_ble_eq_true rfl, Nat.le_of_ble_eq_true rfl⟩ (fun x29 h H locs S w => ?_)
    refine W.cs (cells' := 0) (slots' := 0) rfl rfl ?_
    refine lv_if_ne (tgt := 22) C.1.1 C.1.2.1 dX12_addClause_15 (by decide) (fun c9 => ?_) (fun c9 => ?_)
    · replace w := ql_ifn w c9
      refine ql_aload_n (r := (some a0)) C dX12_addClause_22 rfl (lv_at hl 0 rfl) ?_
      refine ql_getR C S qf_13_0 gw_1668 dX12_addClause_23 w (fun r30 w => ?_)
      refine lv_iconst (v := (0 : Int32)) C.1.1 C.1.2.1 dX12_addClause_26 (by decide) ?_
      refine ql_iald C S dX12_addClause_27 w (fun x31 w => ?_)
      refine lv_bipush (v := (16 : Int32)) C.1.1 C.1.2.1 dX12_addClause_28 (by decide) ?_
      refine lv_icmp_ne (tgt := 37) C.1.1 C.1.2.1 dX12_addClause_30 (by decide) (fun c9 => ?_) (fun c9 => ?_)
      · replace w := ql_ifn w c9
        refine ql_aload_n (r := (some a0)) C dX12_addClause_37 rfl (lv_at hl 0 rfl) ?_
        refine lv_iload_n C.1.1 C.1.2.1 dX12_addClause_38 rfl (lv_at hl 1 rfl) ?_
        refine ql_VI (As := [.int xp1]) (rest := [.ref a0]) C S htab hlocks hl qy_X12_withSection qi_X12_withSection qs_X12_withSection gw_1741 (ci := 13) rfl w (fun b w => qm_X12_withSection l hl9 D _ b xp1 _ _ w) rfl ⟨Nat.le_of_ble_eq_true rfl, Nat.le_of_ble_eq_true rfl⟩ ⟨rfl, rfl⟩ (by exact Nat.le_of_ble_eq_true rfl) (fun b e9 => by cases e9; rfl) dX12_addClause_39 ⟨Nat.le_of_ble_eq_true rfl, Nat.le_of_ble_eq_true rfl⟩ ⟨Nat.le_of_ble_eq_true rfl, Nat.le_of_ble_eq_true rfl⟩ (fun x32 h H locs S w => ?_)
        refine W.cs (cells' := 0) (slots' := 0) rfl rfl ?_
        refine lv_if_lt (tgt := 49) C.1.1 C.1.2.1 dX12_addClause_42 (by decide) (fun c9 => ?_) (fun c9 => ?_)
        · replace w := ql_if w c9
          refine lv_iconst (v := (0 : Int32)) C.1.1 C.1.2.1 dX12_addClause_49 (by decide) ?_
          exact hB50 xp1 xp2 (some a0) (0 : Int32) _ _ _ _ S (lv_sub hl [0, 1, 2] rfl) w
        · replace w := ql_ifn w c9
          refine lv_iconst (v := (3 : Int32)) C.1.1 C.1.2.1 dX12_addClause_45 (by decide) ?_
          refine lv_goto (tgt := 50) C.1.1 C.1.2.1 dX12_addClause_46 (by decide) ?_
          exact hB50 xp1 xp2 (some a0) (3 : Int32) _ _ _ _ S (lv_sub hl [0, 1, 2] rfl) w
      · replace w := ql_if w c9
        refine lv_iconst (v := (2 : Int32)) C.1.1 C.1.2.1 dX12_addClause_33 (by decide) ?_
        refine lv_goto (tgt := 50) C.1.1 C.1.2.1 dX12_addClause_34 (by decide) ?_
        exact hB50 xp1 xp2 (some a0) (2 : Int32) _ _ _ _ S (lv_sub hl [0, 1, 2] rfl) w
    · replace w := ql_if w c9
      exact hB18 xp1 xp2 (some a0) _ _ _ _ S (lv_sub hl [0, 1, 2] rfl) w
def qw_X12_amends_41 (a0 : Nat) (Q : Int32 → ql_H → Prop) : Nat → Int32 → Int32 → Int32 → Int32 → ql_H → Prop
  | 0, _, _, _, _, _ => False
  | n + 1, xl1, xl2, xl3, xl4, h =>
    if (4 : Int32) ≤ xl4 then (ql_gR h (some a0) 13 0 fun r1 =>
    ql_lI h r1 0 (3 : Int32) fun x2 =>
    ql_sI h r1 0 (3 : Int32) (x2 + (1 : Int32)) fun h =>
    Q xl3 h) else (ql_rv h (some a0) 13 fun b3 => qw_X12_of b3 xl1 (xl2 + xl4) h (fun x3 h =>
    ql_rv h (some a0) 13 fun b4 => qw_X12_lays b4 xl1 (xl3 + xl4) x3 h (fun h =>
    qw_X12_amends_41 a0 Q n xl1 xl2 xl3 (xl4 + (1 : Int32)) h)))
def qw_X12_amends (a0 : Nat) (xp1 : Int32) (h : ql_H) (Q : Int32 → ql_H → Prop) : Prop :=
ql_rv h (some a0) 13 fun b6 => qw_X12_lastVersion b6 xp1 h (fun x6 h =>
ql_rv h (some a0) 13 fun b8 => qw_X12_of b8 xp1 (4 : Int32) h (fun x8 h =>
ql_rv h (some a0) 13 fun b9 => qw_X12_lays b9 xp1 (4 : Int32) (x8 + (1 : Int32)) h (fun h =>
ql_rv h (some a0) 13 fun b11 => qw_X12_lastVersion b11 xp1 h (fun x11 h =>
ql_gR h (some a0) 13 0 fun r13 =>
ql_lI h r13 0 (2 : Int32) fun x14 =>
ql_rv h (some a0) 13 fun b14 => qw_X12_lays b14 xp1 x11 x14 h (fun h =>
qw_X12_amends_41 a0 Q ql_FU xp1 x6 x11 (1 : Int32) h)))))
set_option maxHeartbeats 4000000 in
set_option maxRecDepth 100000 in
theorem qm_X12_amends (l : Launch) (hl9 : l.stackTraces = false) (D : ql_D) (h0 : ql_H) (a0 : Nat) (xp1 : Int32) (Q : Int32 → ql_H → Prop) (X : String → ql_H → Prop) (w : qw_X12_amends a0 xp1 h0 Q) : ql_M D l yX12_amends cX12_amends 5 (some .int) ({ frames := 6, cells := 0, slots := 0, locals := 107 } : Room) h0 [.ref a0, .int xp1] (ql_rI Q) X 0 0 := by
  refine ql_ofW (by decide) (Nat.le_of_ble_eq_true rfl) ?_
  intro p e s m below meth c ls C hr hlocks hnm htab S hl
  have hl : lv_has ls 5 [(0, .ref a0), (1, .int xp1)] := hl
  have hB41 : ∀ n : Nat, ∀ (xl1 : Int32) (xl2 : Int32) (xl3 : Int32) (xl4 : Int32) (h : ql_H) (H : Heap) (locs : List Loc) (ls : Array Slot), ql_S D h0 s H locs h → lv_has ls 5 [(0, .ref a0), (1, .int xl1), (2, .int xl2), (3, .int xl3), (4, .int xl4)] → qw_X12_amends_41 a0 Q n xl1 xl2 xl3 xl4 h → W p l e ({ frames := 6, cells := 0, slots := 0, locals := 107 } : Room) s m ([.ref a0, .int xp1] : List Value).toArray below meth c H locs 0 0 (vx_MQ below (ql_Q D h0 (ql_rI Q)) (ql_X D h0 X) ([.ref a0, .int xp1] : List Value).toArray s 0 0 (ql_A h0)) (F0 m 41 ls []) := by
    intro n
    induction n with
    | zero => intro xl1 xl2 xl3 xl4 h H locs ls S hl w; rw [qw_X12_amends_41] at w; exact w.elim
    | succ n ih =>
      intro xl1 xl2 xl3 xl4 h H locs ls S hl w
      rw [qw_X12_amends_41] at w
      refine lv_iload C.1.1 C.1.2.1 dX12_amends_41 (lv_at hl 4 rfl) ?_
      refine lv_iconst (v := (4 : Int32)) C.1.1 C.1.2.1 dX12_amends_43 (by decide) ?_
      refine lv_icmp_ge (tgt := 71) C.1.1 C.1.2.1 dX12_amends_44 (by decide) (fun c9 => ?_) (fun c9 => ?_)
      · replace w := ql_if w c9
        refine ql_aload_n (r := (some a0)) C dX12_amends_71 rfl (lv_at hl 0 rfl) ?_
        refine ql_getR C S qf_13_0 gw_1668 dX12_amends_72 w (fun r1 w => ?_)
        refine lv_iconst (v := (3 : Int32)) C.1.1 C.1.2.1 dX12_amends_75 (by decide) ?_
        refine lv_dup2_11 C.1.1 C.1.2.1 dX12_amends_76 rfl (ql_catR _) ?_
        refine ql_iald C S dX12_amends_77 w (fun x2 w => ?_)
        refine lv_iconst (v := (1 : Int32)) C.1.1 C.1.2.1 dX12_amends_78 (by decide) ?_
        refine lv_iadd C.1.1 C.1.2.1 dX12_amends_79 ?_
        refine ql_iast C S dX12_amends_80 w (fun h H locs S w => ?_)
        refine lv_iload_n C.1.1 C.1.2.1 dX12_amends_81 rfl (lv_at hl 3 rfl) ?_
        exact ql_iret C S hr hlocks dX12_amends_82 ⟨Nat.le_of_ble_eq_true rfl, Nat.le_of_ble_eq_true rfl⟩ w
      · replace w := ql_ifn w c9
        refine ql_aload_n (r := (some a0)) C dX12_amends_47 rfl (lv_at hl 0 rfl) ?_
        refine lv_iload_n C.1.1 C.1.2.1 dX12_amends_48 rfl (lv_at hl 1 rfl) ?_
        refine lv_iload_n C.1.1 C.1.2.1 dX12_amends_49 rfl (lv_at hl 3 rfl) ?_
        refine lv_iload C.1.1 C.1.2.1 dX12_amends_50 (lv_at hl 4 rfl) ?_
        refine lv_iadd C.1.1 C.1.2.1 dX12_amends_52 ?_
        refine ql_aload_n (r := (some a0)) C dX12_amends_53 rfl (lv_at hl 0 rfl) ?_
        refine lv_iload_n C.1.1 C.1.2.1 dX12_amends_54 rfl (lv_at hl 1 rfl) ?_
        refine lv_iload_n C.1.1 C.1.2.1 dX12_amends_55 rfl (lv_at hl 2 rfl) ?_
        refine lv_iload C.1.1 C.1.2.1 dX12_amends_56 (lv_at hl 4 rfl) ?_
        refine lv_iadd C.1.1 C.1.2.1 dX12_amends_58 ?_
        refine ql_VI (As := [.int xl1, .int (xl2 + xl4)]) (rest := [.int (xl3 + xl4), .int xl1, .ref a0]) C S htab hlocks hl qy_X12_of qi_X12_of qs_X12_of gw_1745 (ci := 13) rfl w (fun b w => qm_X12_of l hl9 D _ b xl1 (xl2 + xl4) _ _ w) rfl ⟨Nat.le_of_ble_eq_true rfl, Nat.le_of_ble_eq_true rfl⟩ ⟨rfl, rfl⟩ (by exact Nat.le_of_ble_eq_true rfl) (fun b e9 => by cases e9; rfl) dX12_amends_59 ⟨Nat.le_of_ble_eq_true rfl, Nat.le_of_ble_eq_true rfl⟩ ⟨Nat.le_of_ble_eq_true rfl, Nat.le_of_ble_eq_true rfl⟩ (fun x3 h H locs S w => ?_)
        refine W.cs (cells' := 0) (slots' := 0) rfl rfl ?_
        refine ql_VV (As := [.int xl1, .int (xl3 + xl4), .int x3]) (rest := []) C S htab hlocks hl qy_X12_lays qi_X12_lays qs_X12_lays gw_1760 (ci := 13) rfl w (fun b w => qm_X12_lays l hl9 D _ b xl1 (xl3 + xl4) x3 _ _ w) rfl ⟨Nat.le_of_ble_eq_true rfl, Nat.le_of_ble_eq_true rfl⟩ ⟨rfl, rfl⟩ (by exact Nat.le_of_ble_eq_true rfl) (fun b e9 => by cases e9; rfl) dX12_amends_62 ⟨Nat.le_of_ble_eq_true rfl, Nat.le_of_ble_eq_true rfl⟩ ⟨Nat.le_of_ble_eq_true rfl, Nat.le_of_ble_eq_true rfl⟩ (fun h H locs S w => ?_)
        refine W.cs (cells' := 0) (slots' := 0) rfl rfl ?_
        refine lv_iinc (v := (xl4 + (1 : Int32))) (lv' := [(4, .int (xl4 + (1 : Int32))), (0, .ref a0), (1, .int xl1), (2, .int xl2), (3, .int xl3)]) C.1.1 C.1.2.1 dX12_amends_65 hl (k := 4) rfl rfl (by decide) rfl (fun ls hl => ?_)
        refine lv_goto (tgt := 41) C.1.1 C.1.2.1 dX12_amends_68 (by decide) ?_
        exact ih xl1 xl2 xl3 (xl4 + (1 : Int32)) _ _ _ _ S (lv_sub hl [1, 2, 3, 4, 0] rfl) w
  unfold qw_X12_amends at w
  refine ql_aload_n (r := (some a0)) C dX12_amends_0 rfl (lv_at hl 0 rfl) ?_
  refine lv_iload_n C.1.1 C.1.2.1 dX12_amends_1 rfl (lv_at hl 1 rfl) ?_
  refine ql_VI (As := [.int xp1]) (rest := []) C S htab hlocks hl qy_X12_lastVersion qi_X12_lastVersion qs_X12_lastVersion gw_1780 (ci := 13) rfl w (fun b w => qm_X12_lastVersion l hl9 D _ b xp1 _ _ w) rfl ⟨Nat.le_of_ble_eq_true rfl, Nat.le_of_ble_eq_true rfl⟩ ⟨rfl, rfl⟩ (by exact Nat.le_of_ble_eq_true rfl) (fun b e9 => by cases e9; rfl) dX12_amends_2 ⟨Nat.le_of_ble_eq_true rfl, Nat.le_of_ble_eq_true rfl⟩ ⟨Nat.le_of_ble_eq_true rfl, Nat.le_of_ble_eq_true rfl⟩ (fun x6 h H locs S w => ?_)
  refine W.cs (cells' := 0) (slots' := 0) rfl rfl ?_
  refine lv_istore_n (lv' := [(2, .int x6), (0, .ref a0), (1, .int xp1)]) C.1.1 C.1.2.1 dX12_amends_5 rfl hl (by decide) rfl (fun ls hl => ?_)
  refine ql_aload_n (r := (some a0)) C dX12_amends_6 rfl (lv_at hl 1 rfl) ?_
  refine lv_iload_n C.1.1 C.1.2.1 dX12_amends_7 rfl (lv_at hl 2 rfl) ?_
  refine lv_iconst (v := (4 : Int32)) C.1.1 C.1.2.1 dX12_amends_8 (by decide) ?_
  refine ql_aload_n (r := (some a0)) C dX12_amends_9 rfl (lv_at hl 1 rfl) ?_
  refine lv_iload_n C.1.1 C.1.2.1 dX12_amends_10 rfl (lv_at hl 2 rfl) ?_
  refine lv_iconst (v := (4 : Int32)) C.1.1 C.1.2.1 dX12_amends_11 (by decide) ?_
  refine ql_VI (As := [.int xp1, .int (4 : Int32)]) (rest := [.int (4 : Int32), .int xp1, .ref a0]) C S htab hlocks hl qy_X12_of qi_X12_of qs_X12_of gw_1745 (ci := 13) rfl w (fun b w => qm_X12_of l hl9 D _ b xp1 (4 : Int32) _ _ w) rfl ⟨Nat.le_of_ble_eq_true rfl, Nat.le_of_ble_eq_true rfl⟩ ⟨rfl, rfl⟩ (by exact Nat.le_of_ble_eq_true rfl) (fun b e9 => by cases e9; rfl) dX12_amends_12 ⟨Nat.le_of_ble_eq_true rfl, Nat.le_of_ble_eq_true rfl⟩ ⟨Nat.le_of_ble_eq_true rfl, Nat.le_of_ble_eq_true rfl⟩ (fun x8 h H locs S w => ?_)
  refine W.cs (cells' := 0) (slots' := 0) rfl rfl ?_
  refine lv_iconst (v := (1 : Int32)) C.1.1 C.1.2.1 dX12_amends_15 (by decide) ?_
  refine lv_iadd C.1.1 C.1.2.1 dX12_amends_16 ?_
  refine ql_VV (As := [.int xp1, .int (4 : Int32), .int (x8 + (1 : Int32))]) (rest := []) C S htab hlocks hl qy_X12_lays qi_X12_lays qs_X12_lays gw_1760 (ci := 13) rfl w (fun b w => qm_X12_lays l hl9 D _ b xp1 (4 : Int32) (x8 + (1 : Int32)) _ _ w) rfl ⟨Nat.le_of_ble_eq_true rfl, Nat.le_of_ble_eq_true rfl⟩ ⟨rfl, rfl⟩ (by exact Nat.le_of_ble_eq_true rfl) (fun b e9 => by cases e9; rfl) dX12_amends_17 ⟨Nat.le_of_ble_eq_true rfl, Nat.le_of_ble_eq_true rfl⟩ ⟨Nat.le_of_ble_eq_true rfl, Nat.le_of_ble_eq_true rfl⟩ (fun h H locs S w => ?_)
  refine W.cs (cells' := 0) (slots' := 0) rfl rfl ?_
  refine ql_aload_n (r := (some a0)) C dX12_amends_20 rfl (lv_at hl 1 rfl) ?_
  refine lv_iload_n C.1.1 C.1.2.1 dX12_amends_21 rfl (lv_at hl 2 rfl) ?_
  refine ql_VI (As := [.int xp1]) (rest := []) C S htab hlocks hl qy_X12_lastVersion qi_X12_lastVersion qs_X12_lastVersion gw_1780 (ci := 13) rfl w (fun b w => qm_X12_lastVersion l hl9 D _ b xp1 _ _ w) rfl ⟨Nat.le_of_ble_eq_true rfl, Nat.le_of_ble_eq_true rfl⟩ ⟨rfl, rfl⟩ (by exact Nat.le_of_ble_eq_true rfl) (fun b e9 => by cases e9; rfl) dX12_amends_22 ⟨Nat.le_of_ble_eq_true rfl, Nat.le_of_ble_eq_true rfl⟩ ⟨Nat.le_of_ble_eq_true rfl, Nat.le_of_ble_eq_true rfl⟩ (fun x11 h H locs S w => ?_)
  refine W.cs (cells' := 0) (slots' := 0) rfl rfl ?_
  refine lv_istore_n (lv' := [(3, .int x11), (2, .int x6), (0, .ref a0), (1, .int xp1)]) C.1.1 C.1.2.1 dX12_amends_25 rfl hl (by decide) rfl (fun ls hl => ?_)
  refine ql_aload_n (r := (some a0)) C dX12_amends_26 rfl (lv_at hl 2 rfl) ?_
  refine lv_iload_n C.1.1 C.1.2.1 dX12_amends_27 rfl (lv_at hl 3 rfl) ?_
  refine lv_iload_n C.1.1 C.1.2.1 dX12_amends_28 rfl (lv_at hl 0 rfl) ?_
  refine ql_aload_n (r := (some a0)) C dX12_amends_29 rfl (lv_at hl 2 rfl) ?_
  refine ql_getR C S qf_13_0 gw_1668 dX12_amends_30 w (fun r13 w => ?_)
  refine lv_iconst (v := (2 : Int32)) C.1.1 C.1.2.1 dX12_amends_33 (by decide) ?_
  refine ql_iald C S dX12_amends_34 w (fun x14 w => ?_)
  refine ql_VV (As := [.int xp1, .int x11, .int x14]) (rest := []) C S htab hlocks hl qy_X12_lays qi_X12_lays qs_X12_lays gw_1760 (ci := 13) rfl w (fun b w => qm_X12_lays l hl9 D _ b xp1 x11 x14 _ _ w) rfl ⟨Nat.le_of_ble_eq_true rfl, Nat.le_of_ble_eq_true rfl⟩ ⟨rfl, rfl⟩ (by exact Nat.le_of_ble_eq_true rfl) (fun b e9 => by cases e9; rfl) dX12_amends_35 ⟨Nat.le_of_ble_eq_true rfl, Nat.le_of_ble_eq_true rfl⟩ ⟨Nat.le_of_ble_eq_true rfl, Nat.le_of_ble_eq_true rfl⟩ (fun h H locs S w => ?_)
  refine W.cs (cells' := 0) (slots' := 0) rfl rfl ?_
  refine lv_iconst (v := (1 : Int32)) C.1.1 C.1.2.1 dX12_amends_38 (by decide) ?_
  refine lv_istore (lv' := [(4, .int (1 : Int32)), (3, .int x11), (2, .int x6), (0, .ref a0), (1, .int xp1)]) C.1.1 C.1.2.1 dX12_amends_39 hl (by decide) rfl (fun ls hl => ?_)
  exact hB41 ql_FU xp1 x6 x11 (1 : Int32) _ _ _ _ S (lv_sub hl [3, 4, 2, 1, 0] rfl) w
def qw_X12_isClosed_25 (a0 : Nat) (Q : Int32 → ql_H → Prop) (h : ql_H) : Prop :=
ql_nz .boolean (1 : Int32) ∧ Q (1 : Int32) h
def qw_X12_isClosed (a0 : Nat) (xp1 : Int32) (h : ql_H) (Q : Int32 → ql_H → Prop) : Prop :=
ql_gR h (some a0) 13 0 fun r1 =>
ql_lI h r1 0 (2 : Int32) fun x2 =>
ql_rv h (some a0) 13 fun b3 => qw_X12_isValid b3 xp1 x2 h (fun x3 h =>
if x3 = 0 then (qw_X12_isClosed_25 a0 Q  h) else (ql_rv h (some a0) 13 fun b5 => qw_X12_of b5 xp1 (4 : Int32) h (fun x5 h =>
if x5 = (8 : Int32) then (qw_X12_isClosed_25 a0 Q  h) else (ql_nz .boolean (0 : Int32) ∧ Q (0 : Int32) h))))
set_option maxHeartbeats 4000000 in
set_option maxRecDepth 100000 in
theorem qm_X12_isClosed (l : Launch) (hl9 : l.stackTraces = false) (D : ql_D) (h0 : ql_H) (a0 : Nat) (xp1 : Int32) (Q : Int32 → ql_H → Prop) (X : String → ql_H → Prop) (w : qw_X12_isClosed a0 xp1 h0 Q) : ql_M D l yX12_isClosed cX12_isClosed 2 (some .boolean) ({ frames := 6, cells := 0, slots := 0, locals := 108 } : Room) h0 [.ref a0, .int xp1] (ql_rI Q) X 0 0 := by
  refine ql_ofW (by decide) (Nat.le_of_ble_eq_true rfl) ?_
  intro p e s m below meth c ls C hr hlocks hnm htab S hl
  have hl : lv_has ls 2 [(0, .ref a0), (1, .int xp1)] := hl
  have hB25 : ∀ (h : ql_H) (H : Heap) (locs : List Loc) (ls : Array Slot), ql_S D h0 s H locs h → lv_has ls 2 [] → qw_X12_isClosed_25 a0 Q h → W p l e ({ frames := 6, cells := 0, slots := 0, locals := 108 } : Room) s m ([.ref a0, .int xp1] : List Value).toArray below meth c H locs 0 0 (vx_MQ below (ql_Q D h0 (ql_rI Q)) (ql_X D h0 X) ([.ref a0, .int xp1] : List Value).toArray s 0 0 (ql_A h0)) (F0 m 25 ls []) := by
    intro h H locs ls S hl w
    unfold qw_X12_isClosed_25 at w
    refine lv_iconst (v := (1 : Int32)) C.1.1 C.1.2.1 dX12_isClosed_25 (by decide) ?_
    refine lv_goto (tgt := 30) C.1.1 C.1.2.1 dX12_isClosed_26 (by decide) ?_
    exact ql_zret C S hr hlocks dX12_isClosed_30 ⟨Nat.le_of_ble_eq_true rfl, Nat.le_of_ble_eq_true rfl⟩ w
  unfold qw_X12_isClosed at w
  refine ql_aload_n (r := (some a0)) C dX12_isClosed_0 rfl (lv_at hl 0 rfl) ?_
  refine lv_iload_n C.1.1 C.1.2.1 dX12_isClosed_1 rfl (lv_at hl 1 rfl) ?_
  refine ql_aload_n (r := (some a0)) C dX12_isClosed_2 rfl (lv_at hl 0 rfl) ?_
  refine ql_getR C S qf_13_0 gw_1668 dX12_isClosed_3 w (fun r1 w => ?_)
  refine lv_iconst (v := (2 : Int32)) C.1.1 C.1.2.1 dX12_isClosed_6 (by decide) ?_
  refine ql_iald C S dX12_isClosed_7 w (fun x2 w => ?_)
  refine ql_VI (As := [.int xp1, .int x2]) (rest := []) C S htab hlocks hl qy_X12_isValid qi_X12_isValid qs_X12_isValid gw_1788 (ci := 13) rfl w (fun b w => qm_X12_isValid l hl9 D _ b xp1 x2 _ _ w) rfl ⟨Nat.le_of_ble_eq_true rfl, Nat.le_of_ble_eq_true rfl⟩ ⟨rfl, rfl⟩ (by exact Nat.le_of_ble_eq_true rfl) (fun b e9 => by cases e9; rfl) dX12_isClosed_8 ⟨Nat.le_of_ble_eq_true rfl, Nat.le_of_ble_eq_true rfl⟩ ⟨Nat.le_of_ble_eq_true rfl, Nat.le_of_ble_eq_true rfl⟩ (fun x3 h H locs S w => ?_)
  refine W.cs (cells' := 0) (slots' := 0) rfl rfl ?_
  refine lv_if_eq (tgt := 25) C.1.1 C.1.2.1 dX12_isClosed_11 (by decide) (fun c9 => ?_) (fun c9 => ?_)
  · replace w := ql_if w c9
    exact hB25  _ _ _ _ S (lv_sub hl [] rfl) w
  · replace w := ql_ifn w c9
    refine ql_aload_n (r := (some a0)) C dX12_isClosed_14 rfl (lv_at hl 0 rfl) ?_
    refine lv_iload_n C.1.1 C.1.2.1 dX12_isClosed_15 rfl (lv_at hl 1 rfl) ?_
    refine lv_iconst (v := (4 : Int32)) C.1.1 C.1.2.1 dX12_isClosed_16 (by decide) ?_
    refine ql_VI (As := [.int xp1, .int (4 : Int32)]) (rest := []) C S htab hlocks hl qy_X12_of qi_X12_of qs_X12_of gw_1745 (ci := 13) rfl w (fun b w => qm_X12_of l hl9 D _ b xp1 (4 : Int32) _ _ w) rfl ⟨Nat.le_of_ble_eq_true rfl, Nat.le_of_ble_eq_true rfl⟩ ⟨rfl, rfl⟩ (by exact Nat.le_of_ble_eq_true rfl) (fun b e9 => by cases e9; rfl) dX12_isClosed_17 ⟨Nat.le_of_ble_eq_true rfl, Nat.le_of_ble_eq_true rfl⟩ ⟨Nat.le_of_ble_eq_true rfl, Nat.le_of_ble_eq_true rfl⟩ (fun x5 h H locs S w => ?_)
    refine W.cs (cells' := 0) (slots' := 0) rfl rfl ?_
    refine lv_bipush (v := (8 : Int32)) C.1.1 C.1.2.1 dX12_isClosed_20 (by decide) ?_
    refine lv_icmp_ne (tgt := 29) C.1.1 C.1.2.1 dX12_isClosed_22 (by decide) (fun c9 => ?_) (fun c9 => ?_)
    · replace w := ql_ifn w c9
      refine lv_iconst (v := (0 : Int32)) C.1.1 C.1.2.1 dX12_isClosed_29 (by decide) ?_
      exact ql_zret C S hr hlocks dX12_isClosed_30 ⟨Nat.le_of_ble_eq_true rfl, Nat.le_of_ble_eq_true rfl⟩ w
    · replace w := ql_if w c9
      exact hB25  _ _ _ _ S (lv_sub hl [] rfl) w
def qw_X12_long0 (a0 : Nat) (xp1 : Int32) (h : ql_H) (Q : Int32 → ql_H → Prop) : Prop :=
ql_rv h (some a0) 13 fun b1 => qw_X12_lastVersion b1 xp1 h (fun x1 h =>
ql_rv h (some a0) 13 fun b3 => qw_X12_of b3 xp1 (x1 + (1 : Int32)) h (fun x3 h =>
Q x3 h))
set_option maxHeartbeats 4000000 in
set_option maxRecDepth 100000 in
theorem qm_X12_long0 (l : Launch) (hl9 : l.stackTraces = false) (D : ql_D) (h0 : ql_H) (a0 : Nat) (xp1 : Int32) (Q : Int32 → ql_H → Prop) (X : String → ql_H → Prop) (w : qw_X12_long0 a0 xp1 h0 Q) : ql_M D l yX12_long0 cX12_long0 2 (some .int) ({ frames := 6, cells := 0, slots := 0, locals := 107 } : Room) h0 [.ref a0, .int xp1] (ql_rI Q) X 0 0 := by
  refine ql_ofW (by decide) (Nat.le_of_ble_eq_true rfl) ?_
  intro p e s m below meth c ls C hr hlocks hnm htab S hl
  have hl : lv_has ls 2 [(0, .ref a0), (1, .int xp1)] := hl
  unfold qw_X12_long0 at w
  refine ql_aload_n (r := (some a0)) C dX12_long0_0 rfl (lv_at hl 0 rfl) ?_
  refine lv_iload_n C.1.1 C.1.2.1 dX12_long0_1 rfl (lv_at hl 1 rfl) ?_
  refine ql_aload_n (r := (some a0)) C dX12_long0_2 rfl (lv_at hl 0 rfl) ?_
  refine lv_iload_n C.1.1 C.1.2.1 dX12_long0_3 rfl (lv_at hl 1 rfl) ?_
  refine ql_VI (As := [.int xp1]) (rest := [.int xp1, .ref a0]) C S htab hlocks hl qy_X12_lastVersion qi_X12_lastVersion qs_X12_lastVersion gw_1780 (ci := 13) rfl w (fun b w => qm_X12_lastVersion l hl9 D _ b xp1 _ _ w) rfl ⟨Nat.le_of_ble_eq_true rfl, Nat.le_of_ble_eq_true rfl⟩ ⟨rfl, rfl⟩ (by exact Nat.le_of_ble_eq_true rfl) (fun b e9 => by cases e9; rfl) dX12_long0_4 ⟨Nat.le_of_ble_eq_true rfl, Nat.le_of_ble_eq_true rfl⟩ ⟨Nat.le_of_ble_eq_true rfl, Nat.le_of_ble_eq_true rfl⟩ (fun x1 h H locs S w => ?_)
  refine W.cs (cells' := 0) (slots' := 0) rfl rfl ?_
  refine lv_iconst (v := (1 : Int32)) C.1.1 C.1.2.1 dX12_long0_7 (by decide) ?_
  refine lv_iadd C.1.1 C.1.2.1 dX12_long0_8 ?_
  refine ql_VI (As := [.int xp1, .int (x1 + (1 : Int32))]) (rest := []) C S htab hlocks hl qy_X12_of qi_X12_of qs_X12_of gw_1745 (ci := 13) rfl w (fun b w => qm_X12_of l hl9 D _ b xp1 (x1 + (1 : Int32)) _ _ w) rfl ⟨Nat.le_of_ble_eq_true rfl, Nat.le_of_ble_eq_true rfl⟩ ⟨rfl, rfl⟩ (by exact Nat.le_of_ble_eq_true rfl) (fun b e9 => by cases e9; rfl) dX12_long0_9 ⟨Nat.le_of_ble_eq_true rfl, Nat.le_of_ble_eq_true rfl⟩ ⟨Nat.le_of_ble_eq_true rfl, Nat.le_of_ble_eq_true rfl⟩ (fun x3 h H locs S w => ?_)
  refine W.cs (cells' := 0) (slots' := 0) rfl rfl ?_
  exact ql_iret C S hr hlocks dX12_long0_12 ⟨Nat.le_of_ble_eq_true rfl, Nat.le_of_ble_eq_true rfl⟩ w
def qw_X12_insertNote_115 (a0 : Nat) (Q : Int32 → ql_H → Prop) : Nat → Int32 → Int32 → Int32 → Int32 → Int32 → Int32 → ql_H → Prop
  | 0, _, _, _, _, _, _, _ => False
  | n + 1, xl2, xl3, xl4, xl5, xl6, xl7, h =>
    if xl7 ≤ xl2 then (ql_rv h (some a0) 13 fun b0 => qw_X12_puts b0 xl4 xl5 xl2 xl3 h (fun h =>
    ql_rv h (some a0) 13 fun b1 => qw_X12_lays b1 xl4 (xl5 + (1 : Int32)) (xl6 + (1 : Int32)) h (fun h =>
    ql_rv h (some a0) 13 fun b3 => qw_X12_of b3 xl4 (4 : Int32) h (fun x3 h =>
    Q x3 h)))) else (ql_rv h (some a0) 13 fun b5 => qw_X12_note b5 xl4 xl5 (xl7 - (1 : Int32)) h (fun x5 h =>
    ql_rv h (some a0) 13 fun b6 => qw_X12_puts b6 xl4 xl5 xl7 x5 h (fun h =>
    qw_X12_insertNote_115 a0 Q n xl2 xl3 xl4 xl5 xl6 (xl7 + (-1 : Int32)) h)))
def qw_X12_insertNote_75 (a0 : Nat) (Q : Int32 → ql_H → Prop) (xl2 : Int32) (xl3 : Int32) (xl4 : Int32) (rs0 : Option Nat) (xs1 : Int32) (h : ql_H) : Prop :=
ql_rv h rs0 13 fun b8 => qw_X12_fails b8 xs1 h (fun x8 h =>
if x8 = 0 then (ql_gR h (some a0) 13 0 fun r10 =>
ql_rv h (some a0) 13 fun b10 => qw_X12_keeps b10 r10 h (fun h =>
ql_rv h (some a0) 13 fun b12 => qw_X12_amends b12 xl4 h (fun x12 h =>
ql_rv h (some a0) 13 fun b14 => qw_X12_of b14 xl4 (x12 + (1 : Int32)) h (fun x14 h =>
qw_X12_insertNote_115 a0 Q ql_FU xl2 xl3 xl4 x12 x14 x14 h)))) else (Q (0 : Int32) h))
def qw_X12_insertNote (a0 : Nat) (xp1 : Int32) (xp2 : Int32) (xp3 : Int32) (h : ql_H) (Q : Int32 → ql_H → Prop) : Prop :=
ql_rv h (some a0) 13 fun b16 => qw_X12_placeOf b16 xp1 h (fun x16 h =>
if 0 ≤ x16 then (ql_rv h (some a0) 13 fun b18 => qw_X12_long0 b18 x16 h (fun x18 h =>
qw_X12_in xp2 (0 : Int32) x18 h (fun x20 h =>
if x20 = 0 then (qw_X12_insertNote_75 a0 Q xp2 xp3 x16 (some a0) (2 : Int32) h) else (qw_X12_isNote xp3 h (fun x21 h =>
if x21 = 0 then (qw_X12_insertNote_75 a0 Q xp2 xp3 x16 (some a0) (3 : Int32) h) else (ql_rv h (some a0) 13 fun b22 => qw_X12_isClosed b22 x16 h (fun x22 h =>
if x22 = 0 then (ql_rv h (some a0) 13 fun b24 => qw_X12_long0 b24 x16 h (fun x24 h =>
if x24 = (12 : Int32) then (qw_X12_insertNote_75 a0 Q xp2 xp3 x16 (some a0) (5 : Int32) h) else (qw_X12_insertNote_75 a0 Q xp2 xp3 x16 (some a0) (0 : Int32) h))) else (qw_X12_insertNote_75 a0 Q xp2 xp3 x16 (some a0) (4 : Int32) h)))))))) else (qw_X12_insertNote_75 a0 Q xp2 xp3 x16 (some a0) (1 : Int32) h))
set_option maxHeartbeats 4000000 in
set_option maxRecDepth 100000 in
theorem qm_X12_insertNote (l : Launch) (hl9 : l.stackTraces = false) (D : ql_D) (h0 : ql_H) (a0 : Nat) (xp1 : Int32) (xp2 : Int32) (xp3 : Int32) (Q : Int32 → ql_H → Prop) (X : String → ql_H → Prop) (w : qw_X12_insertNote a0 xp1 xp2 xp3 h0 Q) : ql_M D l yX12_insertNote cX12_insertNote 8 (some .int) ({ frames := 8, cells := 0, slots := 0, locals := 139 } : Room) h0 [.ref a0, .int xp1, .int xp2, .int xp3] (ql_rI Q) X 0 0 := by
  refine ql_ofW (by decide) (Nat.le_of_ble_eq_true rfl) ?_
  intro p e s m below meth c ls C hr hlocks hnm htab S hl
  have hl : lv_has ls 8 [(0, .ref a0), (1, .int xp1), (2, .int xp2), (3, .int xp3)] := hl
  have hB115 : ∀ n : Nat, ∀ (xl2 : Int32) (xl3 : Int32) (xl4 : Int32) (xl5 : Int32) (xl6 : Int32) (xl7 : Int32) (h : ql_H) (H : Heap) (locs : List Loc) (ls : Array Slot), ql_S D h0 s H locs h → lv_has ls 8 [(0, .ref a0), (2, .int xl2), (3, .int xl3), (4, .int xl4), (5, .int xl5), (6, .int xl6), (7, .int xl7)] → qw_X12_insertNote_115 a0 Q n xl2 xl3 xl4 xl5 xl6 xl7 h → W p l e ({ frames := 8, cells := 0, slots := 0, locals := 139 } : Room) s m ([.ref a0, .int xp1, .int xp2, .int xp3] : List Value).toArray below meth c H locs 0 0 (vx_MQ below (ql_Q D h0 (ql_rI Q)) (ql_X D h0 X) ([.ref a0, .int xp1, .int xp2, .int xp3] : List Value).toArray s 0 0 (ql_A h0)) (F0 m 115 ls []) := by
    intro n
    induction n with
    | zero => intro xl2 xl3 xl4 xl5 xl6 xl7 h H locs ls S hl w; rw [qw_X12_insertNote_115] at w; exact w.elim
    | succ n ih =>
      intro xl2 xl3 xl4 xl5 xl6 xl7 h H locs ls S hl w
      rw [qw_X12_insertNote_115] at w
      refine lv_iload C.1.1 C.1.2.1 dX12_insertNote_115 (lv_at hl 6 rfl) ?_
      refine lv_iload_n C.1.1 C.1.2.1 dX12_insertNote_117 rfl (lv_at hl 1 rfl) ?_
      refine lv_icmp_le (tgt := 149) C.1.1 C.1.2.1 dX12_insertNote_118 (by decide) (fun c9 => ?_) (fun c9 => ?_)
      · replace w := ql_if w c9
        refine ql_aload_n (r := (some a0)) C dX12_insertNote_149 rfl (lv_at hl 0 rfl) ?_
        refine lv_iload C.1.1 C.1.2.1 dX12_insertNote_150 (lv_at hl 3 rfl) ?_
        refine lv_iload C.1.1 C.1.2.1 dX12_insertNote_152 (lv_at hl 4 rfl) ?_
        refine lv_iload_n C.1.1 C.1.2.1 dX12_insertNote_154 rfl (lv_at hl 1 rfl) ?_
        refine lv_iload_n C.1.1 C.1.2.1 dX12_insertNote_155 rfl (lv_at hl 2 rfl) ?_
        refine ql_VV (As := [.int xl4, .int xl5, .int xl2, .int xl3]) (rest := []) C S htab hlocks hl qy_X12_puts qi_X12_puts qs_X12_puts gw_1764 (ci := 13) rfl w (fun b w => qm_X12_puts l hl9 D _ b xl4 xl5 xl2 xl3 _ _ w) rfl ⟨Nat.le_of_ble_eq_true rfl, Nat.le_of_ble_eq_true rfl⟩ ⟨rfl, rfl⟩ (by exact Nat.le_of_ble_eq_true rfl) (fun b e9 => by cases e9; rfl) dX12_insertNote_156 ⟨Nat.le_of_ble_eq_true rfl, Nat.le_of_ble_eq_true rfl⟩ ⟨Nat.le_of_ble_eq_true rfl, Nat.le_of_ble_eq_true rfl⟩ (fun h H locs S w => ?_)
        refine W.cs (cells' := 0) (slots' := 0) rfl rfl ?_
        refine ql_aload_n (r := (some a0)) C dX12_insertNote_159 rfl (lv_at hl 0 rfl) ?_
        refine lv_iload C.1.1 C.1.2.1 dX12_insertNote_160 (lv_at hl 3 rfl) ?_
        refine lv_iload C.1.1 C.1.2.1 dX12_insertNote_162 (lv_at hl 4 rfl) ?_
        refine lv_iconst (v := (1 : Int32)) C.1.1 C.1.2.1 dX12_insertNote_164 (by decide) ?_
        refine lv_iadd C.1.1 C.1.2.1 dX12_insertNote_165 ?_
        refine lv_iload C.1.1 C.1.2.1 dX12_insertNote_166 (lv_at hl 5 rfl) ?_
        refine lv_iconst (v := (1 : Int32)) C.1.1 C.1.2.1 dX12_insertNote_168 (by decide) ?_
        refine lv_iadd C.1.1 C.1.2.1 dX12_insertNote_169 ?_
        refine ql_VV (As := [.int xl4, .int (xl5 + (1 : Int32)), .int (xl6 + (1 : Int32))]) (rest := []) C S htab hlocks hl qy_X12_lays qi_X12_lays qs_X12_lays gw_1760 (ci := 13) rfl w (fun b w => qm_X12_lays l hl9 D _ b xl4 (xl5 + (1 : Int32)) (xl6 + (1 : Int32)) _ _ w) rfl ⟨Nat.le_of_ble_eq_true rfl, Nat.le_of_ble_eq_true rfl⟩ ⟨rfl, rfl⟩ (by exact Nat.le_of_ble_eq_true rfl) (fun b e9 => by cases e9; rfl) dX12_insertNote_170 ⟨Nat.le_of_ble_eq_true rfl, Nat.le_of_ble_eq_true rfl⟩ ⟨Nat.le_of_ble_eq_true rfl, Nat.le_of_ble_eq_true rfl⟩ (fun h H locs S w => ?_)
        refine W.cs (cells' := 0) (slots' := 0) rfl rfl ?_
        refine ql_aload_n (r := (some a0)) C dX12_insertNote_173 rfl (lv_at hl 0 rfl) ?_
        refine lv_iload C.1.1 C.1.2.1 dX12_insertNote_174 (lv_at hl 3 rfl) ?_
        refine lv_iconst (v := (4 : Int32)) C.1.1 C.1.2.1 dX12_insertNote_176 (by decide) ?_
        refine ql_VI (As := [.int xl4, .int (4 : Int32)]) (rest := []) C S htab hlocks hl qy_X12_of qi_X12_of qs_X12_of gw_1745 (ci := 13) rfl w (fun b w => qm_X12_of l hl9 D _ b xl4 (4 : Int32) _ _ w) rfl ⟨Nat.le_of_ble_eq_true rfl, Nat.le_of_ble_eq_true rfl⟩ ⟨rfl, rfl⟩ (by exact Nat.le_of_ble_eq_true rfl) (fun b e9 => by cases e9; rfl) dX12_insertNote_177 ⟨Nat.le_of_ble_eq_true rfl, Nat.le_of_ble_eq_true rfl⟩ ⟨Nat.le_of_ble_eq_true rfl, Nat.le_of_ble_eq_true rfl⟩ (fun x3 h H locs S w => ?_)
        refine W.cs (cells' := 0) (slots' := 0) rfl rfl ?_
        exact ql_iret C S hr hlocks dX12_insertNote_180 ⟨Nat.le_of_ble_eq_true rfl, Nat.le_of_ble_eq_true rfl⟩ w
      · replace w := ql_ifn w c9
        refine ql_aload_n (r := (some a0)) C dX12_insertNote_121 rfl (lv_at hl 0 rfl) ?_
        refine lv_iload C.1.1 C.1.2.1 dX12_insertNote_122 (lv_at hl 3 rfl) ?_
        refine lv_iload C.1.1 C.1.2.1 dX12_insertNote_124 (lv_at hl 4 rfl) ?_
        refine lv_iload C.1.1 C.1.2.1 dX12_insertNote_126 (lv_at hl 6 rfl) ?_
        refine ql_aload_n (r := (some a0)) C dX12_insertNote_128 rfl (lv_at hl 0 rfl) ?_
        refine lv_iload C.1.1 C.1.2.1 dX12_insertNote_129 (lv_at hl 3 rfl) ?_
        refine lv_iload C.1.1 C.1.2.1 dX12_insertNote_131 (lv_at hl 4 rfl) ?_
        refine lv_iload C.1.1 C.1.2.1 dX12_insertNote_133 (lv_at hl 6 rfl) ?_
        refine lv_iconst (v := (1 : Int32)) C.1.1 C.1.2.1 dX12_insertNote_135 (by decide) ?_
        refine lv_isub C.1.1 C.1.2.1 dX12_insertNote_136 ?_
        refine ql_VI (As := [.int xl4, .int xl5, .int (xl7 - (1 : Int32))]) (rest := [.int xl7, .int xl5, .int xl4, .ref a0]) C S htab hlocks hl qy_X12_note qi_X12_note qs_X12_note gw_1796 (ci := 13) rfl w (fun b w => qm_X12_note l hl9 D _ b xl4 xl5 (xl7 - (1 : Int32)) _ _ w) rfl ⟨Nat.le_of_ble_eq_true rfl, Nat.le_of_ble_eq_true rfl⟩ ⟨rfl, rfl⟩ (by exact Nat.le_of_ble_eq_true rfl) (fun b e9 => by cases e9; rfl) dX12_insertNote_137 ⟨Nat.le_of_ble_eq_true rfl, Nat.le_of_ble_eq_true rfl⟩ ⟨Nat.le_of_ble_eq_true rfl, Nat.le_of_ble_eq_true rfl⟩ (fun x5 h H locs S w => ?_)
        refine W.cs (cells' := 0) (slots' := 0) rfl rfl ?_
        refine ql_VV (As := [.int xl4, .int xl5, .int xl7, .int x5]) (rest := []) C S htab hlocks hl qy_X12_puts qi_X12_puts qs_X12_puts gw_1764 (ci := 13) rfl w (fun b w => qm_X12_puts l hl9 D _ b xl4 xl5 xl7 x5 _ _ w) rfl ⟨Nat.le_of_ble_eq_true rfl, Nat.le_of_ble_eq_true rfl⟩ ⟨rfl, rfl⟩ (by exact Nat.le_of_ble_eq_true rfl) (fun b e9 => by cases e9; rfl) dX12_insertNote_140 ⟨Nat.le_of_ble_eq_true rfl, Nat.le_of_ble_eq_true rfl⟩ ⟨Nat.le_of_ble_eq_true rfl, Nat.le_of_ble_eq_true rfl⟩ (fun h H locs S w => ?_)
        refine W.cs (cells' := 0) (slots' := 0) rfl rfl ?_
        refine lv_iinc (v := (xl7 + (-1 : Int32))) (lv' := [(7, .int (xl7 + (-1 : Int32))), (0, .ref a0), (2, .int xl2), (3, .int xl3), (4, .int xl4), (5, .int xl5), (6, .int xl6)]) C.1.1 C.1.2.1 dX12_insertNote_143 hl (k := 6) rfl rfl (by decide) rfl (fun ls hl => ?_)
        refine lv_goto (tgt := 115) C.1.1 C.1.2.1 dX12_insertNote_146 (by decide) ?_
        exact ih xl2 xl3 xl4 xl5 xl6 (xl7 + (-1 : Int32)) _ _ _ _ S (lv_sub hl [1, 2, 3, 4, 5, 6, 0] rfl) w
  have hB75 : ∀ (xl2 : Int32) (xl3 : Int32) (xl4 : Int32) (rs0 : Option Nat) (xs1 : Int32) (h : ql_H) (H : Heap) (locs : List Loc) (ls : Array Slot), ql_S D h0 s H locs h → lv_has ls 8 [(0, .ref a0), (2, .int xl2), (3, .int xl3), (4, .int xl4)] → qw_X12_insertNote_75 a0 Q xl2 xl3 xl4 rs0 xs1 h → W p l e ({ frames := 8, cells := 0, slots := 0, locals := 139 } : Room) s m ([.ref a0, .int xp1, .int xp2, .int xp3] : List Value).toArray below meth c H locs 0 0 (vx_MQ below (ql_Q D h0 (ql_rI Q)) (ql_X D h0 X) ([.ref a0, .int xp1, .int xp2, .int xp3] : List Value).toArray s 0 0 (ql_A h0)) (F0 m 75 ls [.int xs1, va_rf rs0]) := by
    intro xl2 xl3 xl4 rs0 xs1 h H locs ls S hl w
    unfold qw_X12_insertNote_75 at w
    refine ql_VI (As := [.int xs1]) (rest := []) C S htab hlocks hl qy_X12_fails qi_X12_fails qs_X12_fails gw_1749 (ci := 13) rfl w (fun b w => qm_X12_fails l hl9 D _ b xs1 _ _ w) rfl ⟨Nat.le_of_ble_eq_true rfl, Nat.le_of_ble_eq_true rfl⟩ ⟨rfl, rfl⟩ (by exact Nat.le_of_ble_eq_true rfl) (fun b e9 => by cases e9; rfl) dX12_insertNote_75 ⟨Nat.le_of_ble_eq_true rfl, Nat.le_of_ble_eq_true rfl⟩ ⟨Nat.le_of_ble_eq_true rfl, Nat.le_of_ble_eq_true rfl⟩ (fun x8 h H locs S w => ?_)
    refine W.cs (cells' := 0) (slots' := 0) rfl rfl ?_
    refine lv_if_eq (tgt := 83) C.1.1 C.1.2.1 dX12_insertNote_78 (by decide) (fun c9 => ?_) (fun c9 => ?_)
    · replace w := ql_if w c9
      refine ql_aload_n (r := (some a0)) C dX12_insertNote_83 rfl (lv_at hl 0 rfl) ?_
      refine ql_aload_n (r := (some a0)) C dX12_insertNote_84 rfl (lv_at hl 0 rfl) ?_
      refine ql_getR C S qf_13_0 gw_1668 dX12_insertNote_85 w (fun r10 w => ?_)
      refine ql_VV (As := [va_rf r10]) (rest := []) C S htab hlocks hl qy_X12_keeps qi_X12_keeps qs_X12_keeps gw_1753 (ci := 13) rfl w (fun b w => qm_X12_keeps l hl9 D _ b r10 _ _ w) rfl ⟨Nat.le_of_ble_eq_true rfl, Nat.le_of_ble_eq_true rfl⟩ ⟨rfl, rfl⟩ (by exact Nat.le_of_ble_eq_true rfl) (fun b e9 => by cases e9; rfl) dX12_insertNote_88 ⟨Nat.le_of_ble_eq_true rfl, Nat.le_of_ble_eq_true rfl⟩ ⟨Nat.le_of_ble_eq_true rfl, Nat.le_of_ble_eq_true rfl⟩ (fun h H locs S w => ?_)
      refine W.cs (cells' := 0) (slots' := 0) rfl rfl ?_
      refine ql_aload_n (r := (some a0)) C dX12_insertNote_91 rfl (lv_at hl 0 rfl) ?_
      refine lv_iload C.1.1 C.1.2.1 dX12_insertNote_92 (lv_at hl 3 rfl) ?_
      refine ql_VI (As := [.int xl4]) (rest := []) C S htab hlocks hl qy_X12_amends qi_X12_amends qs_X12_amends gw_1792 (ci := 13) rfl w (fun b w => qm_X12_amends l hl9 D _ b xl4 _ _ w) rfl ⟨Nat.le_of_ble_eq_true rfl, Nat.le_of_ble_eq_true rfl⟩ ⟨rfl, rfl⟩ (by exact Nat.le_of_ble_eq_true rfl) (fun b e9 => by cases e9; rfl) dX12_insertNote_94 ⟨Nat.le_of_ble_eq_true rfl, Nat.le_of_ble_eq_true rfl⟩ ⟨Nat.le_of_ble_eq_true rfl, Nat.le_of_ble_eq_true rfl⟩ (fun x12 h H locs S w => ?_)
      refine W.cs (cells' := 0) (slots' := 0) rfl rfl ?_
      refine lv_istore (lv' := [(5, .int x12), (0, .ref a0), (2, .int xl2), (3, .int xl3), (4, .int xl4)]) C.1.1 C.1.2.1 dX12_insertNote_97 hl (by decide) rfl (fun ls hl => ?_)
      refine ql_aload_n (r := (some a0)) C dX12_insertNote_99 rfl (lv_at hl 1 rfl) ?_
      refine lv_iload C.1.1 C.1.2.1 dX12_insertNote_100 (lv_at hl 4 rfl) ?_
      refine lv_iload C.1.1 C.1.2.1 dX12_insertNote_102 (lv_at hl 0 rfl) ?_
      refine lv_iconst (v := (1 : Int32)) C.1.1 C.1.2.1 dX12_insertNote_104 (by decide) ?_
      refine lv_iadd C.1.1 C.1.2.1 dX12_insertNote_105 ?_
      refine ql_VI (As := [.int xl4, .int (x12 + (1 : Int32))]) (rest := []) C S htab hlocks hl qy_X12_of qi_X12_of qs_X12_of gw_1745 (ci := 13) rfl w (fun b w => qm_X12_of l hl9 D _ b xl4 (x12 + (1 : Int32)) _ _ w) rfl ⟨Nat.le_of_ble_eq_true rfl, Nat.le_of_ble_eq_true rfl⟩ ⟨rfl, rfl⟩ (by exact Nat.le_of_ble_eq_true rfl) (fun b e9 => by cases e9; rfl) dX12_insertNote_106 ⟨Nat.le_of_ble_eq_true rfl, Nat.le_of_ble_eq_true rfl⟩ ⟨Nat.le_of_ble_eq_true rfl, Nat.le_of_ble_eq_true rfl⟩ (fun x14 h H locs S w => ?_)
      refine W.cs (cells' := 0) (slots' := 0) rfl rfl ?_
      refine lv_istore (lv' := [(6, .int x14), (5, .int x12), (0, .ref a0), (2, .int xl2), (3, .int xl3), (4, .int xl4)]) C.1.1 C.1.2.1 dX12_insertNote_109 hl (by decide) rfl (fun ls hl => ?_)
      refine lv_iload C.1.1 C.1.2.1 dX12_insertNote_111 (lv_at hl 0 rfl) ?_
      refine lv_istore (lv' := [(7, .int x14), (6, .int x14), (5, .int x12), (0, .ref a0), (2, .int xl2), (3, .int xl3), (4, .int xl4)]) C.1.1 C.1.2.1 dX12_insertNote_113 hl (by decide) rfl (fun ls hl => ?_)
      exact hB115 ql_FU xl2 xl3 xl4 x12 x14 x14 _ _ _ _ S (lv_sub hl [3, 4, 5, 6, 2, 1, 0] rfl) w
    · replace w := ql_ifn w c9
      refine lv_iconst (v := (0 : Int32)) C.1.1 C.1.2.1 dX12_insertNote_81 (by decide) ?_
      exact ql_iret C S hr hlocks dX12_insertNote_82 ⟨Nat.le_of_ble_eq_true rfl, Nat.le_of_ble_eq_true rfl⟩ w
  unfold qw_X12_insertNote at w
  refine ql_aload_n (r := (some a0)) C dX12_insertNote_0 rfl (lv_at hl 0 rfl) ?_
  refine lv_iload_n C.1.1 C.1.2.1 dX12_insertNote_1 rfl (lv_at hl 1 rfl) ?_
  refine ql_VI (As := [.int xp1]) (rest := []) C S htab hlocks hl qy_X12_placeOf qi_X12_placeOf qs_X12_placeOf gw_1772 (ci := 13) rfl w (fun b w => qm_X12_placeOf l hl9 D _ b xp1 _ _ w) rfl ⟨Nat.le_of_ble_eq_true rfl, Nat.le_of_ble_eq_true rfl⟩ ⟨rfl, rfl⟩ (by exact Nat.le_of_ble_eq_true rfl) (fun b e9 => by cases e9; rfl) dX12_insertNote_2 ⟨Nat.le_of_ble_eq_true rfl, Nat.le_of_ble_eq_true rfl⟩ ⟨Nat.le_of_ble_eq_true rfl, Nat.le_of_ble_eq_true rfl⟩ (fun x16 h H locs S w => ?_)
  refine W.cs (cells' := 0) (slots' := 0) rfl rfl ?_
  refine lv_istore (lv' := [(4, .int x16), (0, .ref a0), (1, .int xp1), (2, .int xp2), (3, .int xp3)]) C.1.1 C.1.2.1 dX12_insertNote_5 hl (by decide) rfl (fun ls hl => ?_)
  refine ql_aload_n (r := (some a0)) C dX12_insertNote_7 rfl (lv_at hl 1 rfl) ?_
  refine lv_iload C.1.1 C.1.2.1 dX12_insertNote_8 (lv_at hl 0 rfl) ?_
  refine lv_if_ge (tgt := 17) C.1.1 C.1.2.1 dX12_insertNote_10 (by decide) (fun c9 => ?_) (fun c9 => ?_)
  · replace w := ql_if w c9
    refine lv_iload_n C.1.1 C.1.2.1 dX12_insertNote_17 rfl (lv_at hl 3 rfl) ?_
    refine lv_iconst (v := (0 : Int32)) C.1.1 C.1.2.1 dX12_insertNote_18 (by decide) ?_
    refine ql_aload_n (r := (some a0)) C dX12_insertNote_19 rfl (lv_at hl 1 rfl) ?_
    refine lv_iload C.1.1 C.1.2.1 dX12_insertNote_20 (lv_at hl 0 rfl) ?_
    refine ql_VI (As := [.int x16]) (rest := [.int (0 : Int32), .int xp2, .ref a0]) C S htab hlocks hl qy_X12_long0 qi_X12_long0 qs_X12_long0 gw_1776 (ci := 13) rfl w (fun b w => qm_X12_long0 l hl9 D _ b x16 _ _ w) rfl ⟨Nat.le_of_ble_eq_true rfl, Nat.le_of_ble_eq_true rfl⟩ ⟨rfl, rfl⟩ (by exact Nat.le_of_ble_eq_true rfl) (fun b e9 => by cases e9; rfl) dX12_insertNote_22 ⟨Nat.le_of_ble_eq_true rfl, Nat.le_of_ble_eq_true rfl⟩ ⟨Nat.le_of_ble_eq_true rfl, Nat.le_of_ble_eq_true rfl⟩ (fun x18 h H locs S w => ?_)
    refine W.cs (cells' := 0) (slots' := 0) rfl rfl ?_
    refine ql_SI (As := [.int xp2, .int (0 : Int32), .int x18]) (rest := [.ref a0]) C S htab hlocks hl qy_X12_in qi_X12_in gw_1735 (qm_X12_in l hl9 D _ xp2 (0 : Int32) x18 _ _ w) rfl ⟨Nat.le_of_ble_eq_true rfl, Nat.le_of_ble_eq_true rfl⟩ ⟨rfl, rfl⟩ (by exact Nat.le_of_ble_eq_true rfl) rfl dX12_insertNote_25 ⟨Nat.le_of_ble_eq_true rfl, Nat.le_of_ble_eq_true rfl⟩ ⟨Nat.le_of_ble_eq_true rfl, Nat.le_of_ble_eq_true rfl⟩ (fun x20 h H locs S w => ?_)
    refine W.cs (cells' := 0) (slots' := 0) rfl rfl ?_
    refine lv_if_ne (tgt := 35) C.1.1 C.1.2.1 dX12_insertNote_28 (by decide) (fun c9 => ?_) (fun c9 => ?_)
    · replace w := ql_ifn w c9
      refine lv_iload_n C.1.1 C.1.2.1 dX12_insertNote_35 rfl (lv_at hl 4 rfl) ?_
      refine ql_SI (As := [.int xp3]) (rest := [.ref a0]) C S htab hlocks hl qy_X12_isNote qi_X12_isNote gw_1738 (qm_X12_isNote l hl9 D _ xp3 _ _ w) rfl ⟨Nat.le_of_ble_eq_true rfl, Nat.le_of_ble_eq_true rfl⟩ ⟨rfl, rfl⟩ (by exact Nat.le_of_ble_eq_true rfl) rfl dX12_insertNote_36 ⟨Nat.le_of_ble_eq_true rfl, Nat.le_of_ble_eq_true rfl⟩ ⟨Nat.le_of_ble_eq_true rfl, Nat.le_of_ble_eq_true rfl⟩ (fun x21 h H locs S w => ?_)
      refine W.cs (cells' := 0) (slots' := 0) rfl rfl ?_
      refine lv_if_ne (tgt := 46) C.1.1 C.1.2.1 dX12_insertNote_39 (by decide) (fun c9 => ?_) (fun c9 => ?_)
      · replace w := ql_ifn w c9
        refine ql_aload_n (r := (some a0)) C dX12_insertNote_46 rfl (lv_at hl 1 rfl) ?_
        refine lv_iload C.1.1 C.1.2.1 dX12_insertNote_47 (lv_at hl 0 rfl) ?_
        refine ql_VI (As := [.int x16]) (rest := [.ref a0]) C S htab hlocks hl qy_X12_isClosed qi_X12_isClosed qs_X12_isClosed gw_1784 (ci := 13) rfl w (fun b w => qm_X12_isClosed l hl9 D _ b x16 _ _ w) rfl ⟨Nat.le_of_ble_eq_true rfl, Nat.le_of_ble_eq_true rfl⟩ ⟨rfl, rfl⟩ (by exact Nat.le_of_ble_eq_true rfl) (fun b e9 => by cases e9; rfl) dX12_insertNote_49 ⟨Nat.le_of_ble_eq_true rfl, Nat.le_of_ble_eq_true rfl⟩ ⟨Nat.le_of_ble_eq_true rfl, Nat.le_of_ble_eq_true rfl⟩ (fun x22 h H locs S w => ?_)
        refine W.cs (cells' := 0) (slots' := 0) rfl rfl ?_
        refine lv_if_eq (tgt := 59) C.1.1 C.1.2.1 dX12_insertNote_52 (by decide) (fun c9 => ?_) (fun c9 => ?_)
        · replace w := ql_if w c9
          refine ql_aload_n (r := (some a0)) C dX12_insertNote_59 rfl (lv_at hl 1 rfl) ?_
          refine lv_iload C.1.1 C.1.2.1 dX12_insertNote_60 (lv_at hl 0 rfl) ?_
          refine ql_VI (As := [.int x16]) (rest := [.ref a0]) C S htab hlocks hl qy_X12_long0 qi_X12_long0 qs_X12_long0 gw_1776 (ci := 13) rfl w (fun b w => qm_X12_long0 l hl9 D _ b x16 _ _ w) rfl ⟨Nat.le_of_ble_eq_true rfl, Nat.le_of_ble_eq_true rfl⟩ ⟨rfl, rfl⟩ (by exact Nat.le_of_ble_eq_true rfl) (fun b e9 => by cases e9; rfl) dX12_insertNote_62 ⟨Nat.le_of_ble_eq_true rfl, Nat.le_of_ble_eq_true rfl⟩ ⟨Nat.le_of_ble_eq_true rfl, Nat.le_of_ble_eq_true rfl⟩ (fun x24 h H locs S w => ?_)
          refine W.cs (cells' := 0) (slots' := 0) rfl rfl ?_
          refine lv_bipush (v := (12 : Int32)) C.1.1 C.1.2.1 dX12_insertNote_65 (by decide) ?_
          refine lv_icmp_ne (tgt := 74) C.1.1 C.1.2.1 dX12_insertNote_67 (by decide) (fun c9 => ?_) (fun c9 => ?_)
          · replace w := ql_ifn w c9
            refine lv_iconst (v := (0 : Int32)) C.1.1 C.1.2.1 dX12_insertNote_74 (by decide) ?_
            exact hB75 xp2 xp3 x16 (some a0) (0 : Int32) _ _ _ _ S (lv_sub hl [1, 3, 4, 0] rfl) w
          · replace w := ql_if w c9
            refine lv_iconst (v := (5 : Int32)) C.1.1 C.1.2.1 dX12_insertNote_70 (by decide) ?_
            refine lv_goto (tgt := 75) C.1.1 C.1.2.1 dX12_insertNote_71 (by decide) ?_
            exact hB75 xp2 xp3 x16 (some a0) (5 : Int32) _ _ _ _ S (lv_sub hl [1, 3, 4, 0] rfl) w
        · replace w := ql_ifn w c9
          refine lv_iconst (v := (4 : Int32)) C.1.1 C.1.2.1 dX12_insertNote_55 (by decide) ?_
          refine lv_goto (tgt := 75) C.1.1 C.1.2.1 dX12_insertNote_56 (by decide) ?_
          exact hB75 xp2 xp3 x16 (some a0) (4 : Int32) _ _ _ _ S (lv_sub hl [1, 3, 4, 0] rfl) w
      · replace w := ql_if w c9
        refine lv_iconst (v := (3 : Int32)) C.1.1 C.1.2.1 dX12_insertNote_42 (by decide) ?_
        refine lv_goto (tgt := 75) C.1.1 C.1.2.1 dX12_insertNote_43 (by decide) ?_
        exact hB75 xp2 xp3 x16 (some a0) (3 : Int32) _ _ _ _ S (lv_sub hl [1, 3, 4, 0] rfl) w
    · replace w := ql_if w c9
      refine lv_iconst (v := (2 : Int32)) C.1.1 C.1.2.1 dX12_insertNote_31 (by decide) ?_
      refine lv_goto (tgt := 75) C.1.1 C.1.2.1 dX12_insertNote_32 (by decide) ?_
      exact hB75 xp2 xp3 x16 (some a0) (2 : Int32) _ _ _ _ S (lv_sub hl [1, 3, 4, 0] rfl) w
  · replace w := ql_ifn w c9
    refine lv_iconst (v := (1 : Int32)) C.1.1 C.1.2.1 dX12_insertNote_13 (by decide) ?_
    refine lv_goto (tgt := 75) C.1.1 C.1.2.1 dX12_insertNote_14 (by decide) ?_
    exact hB75 xp2 xp3 x16 (some a0) (1 : Int32) _ _ _ _ S (lv_sub hl [1, 3, 4, 0] rfl) w
def qw_X12_replaceNote_62 (a0 : Nat) (Q : Int32 → ql_H → Prop) (xl2 : Int32) (xl3 : Int32) (xl4 : Int32) (rs0 : Option Nat) (xs1 : Int32) (h : ql_H) : Prop :=
ql_rv h rs0 13 fun b1 => qw_X12_fails b1 xs1 h (fun x1 h =>
if x1 = 0 then (ql_gR h (some a0) 13 0 fun r3 =>
ql_rv h (some a0) 13 fun b3 => qw_X12_keeps b3 r3 h (fun h =>
ql_rv h (some a0) 13 fun b5 => qw_X12_amends b5 xl4 h (fun x5 h =>
ql_rv h (some a0) 13 fun b6 => qw_X12_puts b6 xl4 x5 xl2 xl3 h (fun h =>
ql_rv h (some a0) 13 fun b8 => qw_X12_of b8 xl4 (4 : Int32) h (fun x8 h =>
Q x8 h))))) else (Q (0 : Int32) h))
def qw_X12_replaceNote (a0 : Nat) (xp1 : Int32) (xp2 : Int32) (xp3 : Int32) (h : ql_H) (Q : Int32 → ql_H → Prop) : Prop :=
ql_rv h (some a0) 13 fun b10 => qw_X12_placeOf b10 xp1 h (fun x10 h =>
if 0 ≤ x10 then (ql_rv h (some a0) 13 fun b12 => qw_X12_long0 b12 x10 h (fun x12 h =>
qw_X12_in xp2 (0 : Int32) (x12 - (1 : Int32)) h (fun x14 h =>
if x14 = 0 then (qw_X12_replaceNote_62 a0 Q xp2 xp3 x10 (some a0) (2 : Int32) h) else (qw_X12_isNote xp3 h (fun x15 h =>
if x15 = 0 then (qw_X12_replaceNote_62 a0 Q xp2 xp3 x10 (some a0) (3 : Int32) h) else (ql_rv h (some a0) 13 fun b16 => qw_X12_isClosed b16 x10 h (fun x16 h =>
if x16 = 0 then (qw_X12_replaceNote_62 a0 Q xp2 xp3 x10 (some a0) (0 : Int32) h) else (qw_X12_replaceNote_62 a0 Q xp2 xp3 x10 (some a0) (4 : Int32) h)))))))) else (qw_X12_replaceNote_62 a0 Q xp2 xp3 x10 (some a0) (1 : Int32) h))
set_option maxHeartbeats 4000000 in
set_option maxRecDepth 100000 in
theorem qm_X12_replaceNote (l : Launch) (hl9 : l.stackTraces = false) (D : ql_D) (h0 : ql_H) (a0 : Nat) (xp1 : Int32) (xp2 : Int32) (xp3 : Int32) (Q : Int32 → ql_H → Prop) (X : String → ql_H → Prop) (w : qw_X12_replaceNote a0 xp1 xp2 xp3 h0 Q) : ql_M D l yX12_replaceNote cX12_replaceNote 5 (some .int) ({ frames := 8, cells := 0, slots := 0, locals := 139 } : Room) h0 [.ref a0, .int xp1, .int xp2, .int xp3] (ql_rI Q) X 0 0 := by
  refine ql_ofW (by decide) (Nat.le_of_ble_eq_true rfl) ?_
  intro p e s m below meth c ls C hr hlocks hnm htab S hl
  have hl : lv_has ls 5 [(0, .ref a0), (1, .int xp1), (2, .int xp2), (3, .int xp3)] := hl
  have hB62 : ∀ (xl2 : Int32) (xl3 : Int32) (xl4 : Int32) (rs0 : Option Nat) (xs1 : Int32) (h : ql_H) (H : Heap) (locs : List Loc) (ls : Array Slot), ql_S D h0 s H locs h → lv_has ls 5 [(0, .ref a0), (2, .int xl2), (3, .int xl3), (4, .int xl4)] → qw_X12_replaceNote_62 a0 Q xl2 xl3 xl4 rs0 xs1 h → W p l e ({ frames := 8, cells := 0, slots := 0, locals := 139 } : Room) s m ([.ref a0, .int xp1, .int xp2, .int xp3] : List Value).toArray below meth c H locs 0 0 (vx_MQ below (ql_Q D h0 (ql_rI Q)) (ql_X D h0 X) ([.ref a0, .int xp1, .int xp2, .int xp3] : List Value).toArray s 0 0 (ql_A h0)) (F0 m 62 ls [.int xs1, va_rf rs0]) := by
    intro xl2 xl3 xl4 rs0 xs1 h H locs ls S hl w
    unfold qw_X12_replaceNote_62 at w
    refine ql_VI (As := [.int xs1]) (rest := []) C S htab hlocks hl qy_X12_fails qi_X12_fails qs_X12_fails gw_1749 (ci := 13) rfl w (fun b w => qm_X12_fails l hl9 D _ b xs1 _ _ w) rfl ⟨Nat.le_of_ble_eq_true rfl, Nat.le_of_ble_eq_true rfl⟩ ⟨rfl, rfl⟩ (by exact Nat.le_of_ble_eq_true rfl) (fun b e9 => by cases e9; rfl) dX12_replaceNote_62 ⟨Nat.le_of_ble_eq_true rfl, Nat.le_of_ble_eq_true rfl⟩ ⟨Nat.le_of_ble_eq_true rfl, Nat.le_of_ble_eq_true rfl⟩ (fun x1 h H locs S w => ?_)
    refine W.cs (cells' := 0) (slots' := 0) rfl rfl ?_
    refine lv_if_eq (tgt := 70) C.1.1 C.1.2.1 dX12_replaceNote_65 (by decide) (fun c9 => ?_) (fun c9 => ?_)
    · replace w := ql_if w c9
      refine ql_aload_n (r := (some a0)) C dX12_replaceNote_70 rfl (lv_at hl 0 rfl) ?_
      refine ql_aload_n (r := (some a0)) C dX12_replaceNote_71 rfl (lv_at hl 0 rfl) ?_
      refine ql_getR C S qf_13_0 gw_1668 dX12_replaceNote_72 w (fun r3 w => ?_)
      refine ql_VV (As := [va_rf r3]) (rest := []) C S htab hlocks hl qy_X12_keeps qi_X12_keeps qs_X12_keeps gw_1753 (ci := 13) rfl w (fun b w => qm_X12_keeps l hl9 D _ b r3 _ _ w) rfl ⟨Nat.le_of_ble_eq_true rfl, Nat.le_of_ble_eq_true rfl⟩ ⟨rfl, rfl⟩ (by exact Nat.le_of_ble_eq_true rfl) (fun b e9 => by cases e9; rfl) dX12_replaceNote_75 ⟨Nat.le_of_ble_eq_true rfl, Nat.le_of_ble_eq_true rfl⟩ ⟨Nat.le_of_ble_eq_true rfl, Nat.le_of_ble_eq_true rfl⟩ (fun h H locs S w => ?_)
      refine W.cs (cells' := 0) (slots' := 0) rfl rfl ?_
      refine ql_aload_n (r := (some a0)) C dX12_replaceNote_78 rfl (lv_at hl 0 rfl) ?_
      refine lv_iload C.1.1 C.1.2.1 dX12_replaceNote_79 (lv_at hl 3 rfl) ?_
      refine ql_aload_n (r := (some a0)) C dX12_replaceNote_81 rfl (lv_at hl 0 rfl) ?_
      refine lv_iload C.1.1 C.1.2.1 dX12_replaceNote_82 (lv_at hl 3 rfl) ?_
      refine ql_VI (As := [.int xl4]) (rest := [.int xl4, .ref a0]) C S htab hlocks hl qy_X12_amends qi_X12_amends qs_X12_amends gw_1792 (ci := 13) rfl w (fun b w => qm_X12_amends l hl9 D _ b xl4 _ _ w) rfl ⟨Nat.le_of_ble_eq_true rfl, Nat.le_of_ble_eq_true rfl⟩ ⟨rfl, rfl⟩ (by exact Nat.le_of_ble_eq_true rfl) (fun b e9 => by cases e9; rfl) dX12_replaceNote_84 ⟨Nat.le_of_ble_eq_true rfl, Nat.le_of_ble_eq_true rfl⟩ ⟨Nat.le_of_ble_eq_true rfl, Nat.le_of_ble_eq_true rfl⟩ (fun x5 h H locs S w => ?_)
      refine W.cs (cells' := 0) (slots' := 0) rfl rfl ?_
      refine lv_iload_n C.1.1 C.1.2.1 dX12_replaceNote_87 rfl (lv_at hl 1 rfl) ?_
      refine lv_iload_n C.1.1 C.1.2.1 dX12_replaceNote_88 rfl (lv_at hl 2 rfl) ?_
      refine ql_VV (As := [.int xl4, .int x5, .int xl2, .int xl3]) (rest := []) C S htab hlocks hl qy_X12_puts qi_X12_puts qs_X12_puts gw_1764 (ci := 13) rfl w (fun b w => qm_X12_puts l hl9 D _ b xl4 x5 xl2 xl3 _ _ w) rfl ⟨Nat.le_of_ble_eq_true rfl, Nat.le_of_ble_eq_true rfl⟩ ⟨rfl, rfl⟩ (by exact Nat.le_of_ble_eq_true rfl) (fun b e9 => by cases e9; rfl) dX12_replaceNote_89 ⟨Nat.le_of_ble_eq_true rfl, Nat.le_of_ble_eq_true rfl⟩ ⟨Nat.le_of_ble_eq_true rfl, Nat.le_of_ble_eq_true rfl⟩ (fun h H locs S w => ?_)
      refine W.cs (cells' := 0) (slots' := 0) rfl rfl ?_
      refine ql_aload_n (r := (some a0)) C dX12_replaceNote_92 rfl (lv_at hl 0 rfl) ?_
      refine lv_iload C.1.1 C.1.2.1 dX12_replaceNote_93 (lv_at hl 3 rfl) ?_
      refine lv_iconst (v := (4 : Int32)) C.1.1 C.1.2.1 dX12_replaceNote_95 (by decide) ?_
      refine ql_VI (As := [.int xl4, .int (4 : Int32)]) (rest := []) C S htab hlocks hl qy_X12_of qi_X12_of qs_X12_of gw_1745 (ci := 13) rfl w (fun b w => qm_X12_of l hl9 D _ b xl4 (4 : Int32) _ _ w) rfl ⟨Nat.le_of_ble_eq_true rfl, Nat.le_of_ble_eq_true rfl⟩ ⟨rfl, rfl⟩ (by exact Nat.le_of_ble_eq_true rfl) (fun b e9 => by cases e9; rfl) dX12_replaceNote_96 ⟨Nat.le_of_ble_eq_true rfl, Nat.le_of_ble_eq_true rfl⟩ ⟨Nat.le_of_ble_eq_true rfl, Nat.le_of_ble_eq_true rfl⟩ (fun x8 h H locs S w => ?_)
      refine W.cs (cells' := 0) (slots' := 0) rfl rfl ?_
      exact ql_iret C S hr hlocks dX12_replaceNote_99 ⟨Nat.le_of_ble_eq_true rfl, Nat.le_of_ble_eq_true rfl⟩ w
    · replace w := ql_ifn w c9
      refine lv_iconst (v := (0 : Int32)) C.1.1 C.1.2.1 dX12_replaceNote_68 (by decide) ?_
      exact ql_iret C S hr hlocks dX12_replaceNote_69 ⟨Nat.le_of_ble_eq_true rfl, Nat.le_of_ble_eq_true rfl⟩ w
  unfold qw_X12_replaceNote at w
  refine ql_aload_n (r := (some a0)) C dX12_replaceNote_0 rfl (lv_at hl 0 rfl) ?_
  refine lv_iload_n C.1.1 C.1.2.1 dX12_replaceNote_1 rfl (lv_at hl 1 rfl) ?_
  refine ql_VI (As := [.int xp1]) (rest := []) C S htab hlocks hl qy_X12_placeOf qi_X12_placeOf qs_X12_placeOf gw_1772 (ci := 13) rfl w (fun b w => qm_X12_placeOf l hl9 D _ b xp1 _ _ w) rfl ⟨Nat.le_of_ble_eq_true rfl, Nat.le_of_ble_eq_true rfl⟩ ⟨rfl, rfl⟩ (by exact Nat.le_of_ble_eq_true rfl) (fun b e9 => by cases e9; rfl) dX12_replaceNote_2 ⟨Nat.le_of_ble_eq_true rfl, Nat.le_of_ble_eq_true rfl⟩ ⟨Nat.le_of_ble_eq_true rfl, Nat.le_of_ble_eq_true rfl⟩ (fun x10 h H locs S w => ?_)
  refine W.cs (cells' := 0) (slots' := 0) rfl rfl ?_
  refine lv_istore (lv' := [(4, .int x10), (0, .ref a0), (1, .int xp1), (2, .int xp2), (3, .int xp3)]) C.1.1 C.1.2.1 dX12_replaceNote_5 hl (by decide) rfl (fun ls hl => ?_)
  refine ql_aload_n (r := (some a0)) C dX12_replaceNote_7 rfl (lv_at hl 1 rfl) ?_
  refine lv_iload C.1.1 C.1.2.1 dX12_replaceNote_8 (lv_at hl 0 rfl) ?_
  refine lv_if_ge (tgt := 17) C.1.1 C.1.2.1 dX12_replaceNote_10 (by decide) (fun c9 => ?_) (fun c9 => ?_)
  · replace w := ql_if w c9
    refine lv_iload_n C.1.1 C.1.2.1 dX12_replaceNote_17 rfl (lv_at hl 3 rfl) ?_
    refine lv_iconst (v := (0 : Int32)) C.1.1 C.1.2.1 dX12_replaceNote_18 (by decide) ?_
    refine ql_aload_n (r := (some a0)) C dX12_replaceNote_19 rfl (lv_at hl 1 rfl) ?_
    refine lv_iload C.1.1 C.1.2.1 dX12_replaceNote_20 (lv_at hl 0 rfl) ?_
    refine ql_VI (As := [.int x10]) (rest := [.int (0 : Int32), .int xp2, .ref a0]) C S htab hlocks hl qy_X12_long0 qi_X12_long0 qs_X12_long0 gw_1776 (ci := 13) rfl w (fun b w => qm_X12_long0 l hl9 D _ b x10 _ _ w) rfl ⟨Nat.le_of_ble_eq_true rfl, Nat.le_of_ble_eq_true rfl⟩ ⟨rfl, rfl⟩ (by exact Nat.le_of_ble_eq_true rfl) (fun b e9 => by cases e9; rfl) dX12_replaceNote_22 ⟨Nat.le_of_ble_eq_true rfl, Nat.le_of_ble_eq_true rfl⟩ ⟨Nat.le_of_ble_eq_true rfl, Nat.le_of_ble_eq_true rfl⟩ (fun x12 h H locs S w => ?_)
    refine W.cs (cells' := 0) (slots' := 0) rfl rfl ?_
    refine lv_iconst (v := (1 : Int32)) C.1.1 C.1.2.1 dX12_replaceNote_25 (by decide) ?_
    refine lv_isub C.1.1 C.1.2.1 dX12_replaceNote_26 ?_
    refine ql_SI (As := [.int xp2, .int (0 : Int32), .int (x12 - (1 : Int32))]) (rest := [.ref a0]) C S htab hlocks hl qy_X12_in qi_X12_in gw_1735 (qm_X12_in l hl9 D _ xp2 (0 : Int32) (x12 - (1 : Int32)) _ _ w) rfl ⟨Nat.le_of_ble_eq_true rfl, Nat.le_of_ble_eq_true rfl⟩ ⟨rfl, rfl⟩ (by exact Nat.le_of_ble_eq_true rfl) rfl dX12_replaceNote_27 ⟨Nat.le_of_ble_eq_true rfl, Nat.le_of_ble_eq_true rfl⟩ ⟨Nat.le_of_ble_eq_true rfl, Nat.le_of_ble_eq_true rfl⟩ (fun x14 h H locs S w => ?_)
    refine W.cs (cells' := 0) (slots' := 0) rfl rfl ?_
    refine lv_if_ne (tgt := 37) C.1.1 C.1.2.1 dX12_replaceNote_30 (by decide) (fun c9 => ?_) (fun c9 => ?_)
    · replace w := ql_ifn w c9
      refine lv_iload_n C.1.1 C.1.2.1 dX12_replaceNote_37 rfl (lv_at hl 4 rfl) ?_
      refine ql_SI (As := [.int xp3]) (rest := [.ref a0]) C S htab hlocks hl qy_X12_isNote qi_X12_isNote gw_1738 (qm_X12_isNote l hl9 D _ xp3 _ _ w) rfl ⟨Nat.le_of_ble_eq_true rfl, Nat.le_of_ble_eq_true rfl⟩ ⟨rfl, rfl⟩ (by exact Nat.le_of_ble_eq_true rfl) rfl dX12_replaceNote_38 ⟨Nat.le_of_ble_eq_true rfl, Nat.le_of_ble_eq_true rfl⟩ ⟨Nat.le_of_ble_eq_true rfl, Nat.le_of_ble_eq_true rfl⟩ (fun x15 h H locs S w => ?_)
      refine W.cs (cells' := 0) (slots' := 0) rfl rfl ?_
      refine lv_if_ne (tgt := 48) C.1.1 C.1.2.1 dX12_replaceNote_41 (by decide) (fun c9 => ?_) (fun c9 => ?_)
      · replace w := ql_ifn w c9
        refine ql_aload_n (r := (some a0)) C dX12_replaceNote_48 rfl (lv_at hl 1 rfl) ?_
        refine lv_iload C.1.1 C.1.2.1 dX12_replaceNote_49 (lv_at hl 0 rfl) ?_
        refine ql_VI (As := [.int x10]) (rest := [.ref a0]) C S htab hlocks hl qy_X12_isClosed qi_X12_isClosed qs_X12_isClosed gw_1784 (ci := 13) rfl w (fun b w => qm_X12_isClosed l hl9 D _ b x10 _ _ w) rfl ⟨Nat.le_of_ble_eq_true rfl, Nat.le_of_ble_eq_true rfl⟩ ⟨rfl, rfl⟩ (by exact Nat.le_of_ble_eq_true rfl) (fun b e9 => by cases e9; rfl) dX12_replaceNote_51 ⟨Nat.le_of_ble_eq_true rfl, Nat.le_of_ble_eq_true rfl⟩ ⟨Nat.le_of_ble_eq_true rfl, Nat.le_of_ble_eq_true rfl⟩ (fun x16 h H locs S w => ?_)
        refine W.cs (cells' := 0) (slots' := 0) rfl rfl ?_
        refine lv_if_eq (tgt := 61) C.1.1 C.1.2.1 dX12_replaceNote_54 (by decide) (fun c9 => ?_) (fun c9 => ?_)
        · replace w := ql_if w c9
          refine lv_iconst (v := (0 : Int32)) C.1.1 C.1.2.1 dX12_replaceNote_61 (by decide) ?_
          exact hB62 xp2 xp3 x10 (some a0) (0 : Int32) _ _ _ _ S (lv_sub hl [1, 3, 4, 0] rfl) w
        · replace w := ql_ifn w c9
          refine lv_iconst (v := (4 : Int32)) C.1.1 C.1.2.1 dX12_replaceNote_57 (by decide) ?_
          refine lv_goto (tgt := 62) C.1.1 C.1.2.1 dX12_replaceNote_58 (by decide) ?_
          exact hB62 xp2 xp3 x10 (some a0) (4 : Int32) _ _ _ _ S (lv_sub hl [1, 3, 4, 0] rfl) w
      · replace w := ql_if w c9
        refine lv_iconst (v := (3 : Int32)) C.1.1 C.1.2.1 dX12_replaceNote_44 (by decide) ?_
        refine lv_goto (tgt := 62) C.1.1 C.1.2.1 dX12_replaceNote_45 (by decide) ?_
        exact hB62 xp2 xp3 x10 (some a0) (3 : Int32) _ _ _ _ S (lv_sub hl [1, 3, 4, 0] rfl) w
    · replace w := ql_if w c9
      refine lv_iconst (v := (2 : Int32)) C.1.1 C.1.2.1 dX12_replaceNote_33 (by decide) ?_
      refine lv_goto (tgt := 62) C.1.1 C.1.2.1 dX12_replaceNote_34 (by decide) ?_
      exact hB62 xp2 xp3 x10 (some a0) (2 : Int32) _ _ _ _ S (lv_sub hl [1, 3, 4, 0] rfl) w
  · replace w := ql_ifn w c9
    refine lv_iconst (v := (1 : Int32)) C.1.1 C.1.2.1 dX12_replaceNote_13 (by decide) ?_
    refine lv_goto (tgt := 62) C.1.1 C.1.2.1 dX12_replaceNote_14 (by decide) ?_
    exact hB62 xp2 xp3 x10 (some a0) (1 : Int32) _ _ _ _ S (lv_sub hl [1, 3, 4, 0] rfl) w
def qw_X12_deleteNote_97 (a0 : Nat) (Q : Int32 → ql_H → Prop) : Nat → Int32 → Int32 → Int32 → Int32 → ql_H → Prop
  | 0, _, _, _, _, _ => False
  | n + 1, xl3, xl4, xl5, xl6, h =>
    if xl5 ≤ (xl6 + (1 : Int32)) then (ql_rv h (some a0) 13 fun b0 => qw_X12_puts b0 xl3 xl4 (xl5 - (1 : Int32)) (97 : Int32) h (fun h =>
    ql_rv h (some a0) 13 fun b1 => qw_X12_lays b1 xl3 (xl4 + (1 : Int32)) (xl5 - (1 : Int32)) h (fun h =>
    ql_rv h (some a0) 13 fun b3 => qw_X12_of b3 xl3 (4 : Int32) h (fun x3 h =>
    Q x3 h)))) else (ql_rv h (some a0) 13 fun b5 => qw_X12_note b5 xl3 xl4 (xl6 + (1 : Int32)) h (fun x5 h =>
    ql_rv h (some a0) 13 fun b6 => qw_X12_puts b6 xl3 xl4 xl6 x5 h (fun h =>
    qw_X12_deleteNote_97 a0 Q n xl3 xl4 xl5 (xl6 + (1 : Int32)) h)))
def qw_X12_deleteNote_60 (a0 : Nat) (Q : Int32 → ql_H → Prop) (xl2 : Int32) (xl3 : Int32) (rs0 : Option Nat) (xs1 : Int32) (h : ql_H) : Prop :=
ql_rv h rs0 13 fun b8 => qw_X12_fails b8 xs1 h (fun x8 h =>
if x8 = 0 then (ql_gR h (some a0) 13 0 fun r10 =>
ql_rv h (some a0) 13 fun b10 => qw_X12_keeps b10 r10 h (fun h =>
ql_rv h (some a0) 13 fun b12 => qw_X12_amends b12 xl3 h (fun x12 h =>
ql_rv h (some a0) 13 fun b14 => qw_X12_of b14 xl3 (x12 + (1 : Int32)) h (fun x14 h =>
qw_X12_deleteNote_97 a0 Q ql_FU xl3 x12 x14 xl2 h)))) else (Q (0 : Int32) h))
def qw_X12_deleteNote (a0 : Nat) (xp1 : Int32) (xp2 : Int32) (h : ql_H) (Q : Int32 → ql_H → Prop) : Prop :=
ql_rv h (some a0) 13 fun b16 => qw_X12_placeOf b16 xp1 h (fun x16 h =>
if 0 ≤ x16 then (ql_rv h (some a0) 13 fun b18 => qw_X12_long0 b18 x16 h (fun x18 h =>
qw_X12_in xp2 (0 : Int32) (x18 - (1 : Int32)) h (fun x20 h =>
if x20 = 0 then (qw_X12_deleteNote_60 a0 Q xp2 x16 (some a0) (2 : Int32) h) else (ql_rv h (some a0) 13 fun b21 => qw_X12_isClosed b21 x16 h (fun x21 h =>
if x21 = 0 then (ql_rv h (some a0) 13 fun b23 => qw_X12_long0 b23 x16 h (fun x23 h =>
if x23 = (1 : Int32) then (qw_X12_deleteNote_60 a0 Q xp2 x16 (some a0) (4 : Int32) h) else (qw_X12_deleteNote_60 a0 Q xp2 x16 (some a0) (0 : Int32) h))) else (qw_X12_deleteNote_60 a0 Q xp2 x16 (some a0) (3 : Int32) h)))))) else (qw_X12_deleteNote_60 a0 Q xp2 x16 (some a0) (1 : Int32) h))
set_option maxHeartbeats 4000000 in
set_option maxRecDepth 100000 in
theorem qm_X12_deleteNote (l : Launch) (hl9 : l.stackTraces = false) (D : ql_D) (h0 : ql_H) (a0 : Nat) (xp1 : Int32) (xp2 : Int32) (Q : Int32 → ql_H → Prop) (X : String → ql_H → Prop) (w : qw_X12_deleteNote a0 xp1 xp2 h0 Q) : ql_M D l yX12_deleteNote cX12_deleteNote 7 (some .int) ({ frames := 8, cells := 0, slots := 0, locals := 139 } : Room) h0 [.ref a0, .int xp1, .int xp2] (ql_rI Q) X 0 0 := by
  refine ql_ofW (by decide) (Nat.le_of_ble_eq_true rfl) ?_
  intro p e s m below meth c ls C hr hlocks hnm htab S hl
  have hl : lv_has ls 7 [(0, .ref a0), (1, .int xp1), (2, .int xp2)] := hl
  have hB97 : ∀ n : Nat, ∀ (xl3 : Int32) (xl4 : Int32) (xl5 : Int32) (xl6 : Int32) (h : ql_H) (H : Heap) (locs : List Loc) (ls : Array Slot), ql_S D h0 s H locs h → lv_has ls 7 [(0, .ref a0), (3, .int xl3), (4, .int xl4), (5, .int xl5), (6, .int xl6)] → qw_X12_deleteNote_97 a0 Q n xl3 xl4 xl5 xl6 h → W p l e ({ frames := 8, cells := 0, slots := 0, locals := 139 } : Room) s m ([.ref a0, .int xp1, .int xp2] : List Value).toArray below meth c H locs 0 0 (vx_MQ below (ql_Q D h0 (ql_rI Q)) (ql_X D h0 X) ([.ref a0, .int xp1, .int xp2] : List Value).toArray s 0 0 (ql_A h0)) (F0 m 97 ls []) := by
    intro n
    induction n with
    | zero => intro xl3 xl4 xl5 xl6 h H locs ls S hl w; rw [qw_X12_deleteNote_97] at w; exact w.elim
    | succ n ih =>
      intro xl3 xl4 xl5 xl6 h H locs ls S hl w
      rw [qw_X12_deleteNote_97] at w
      refine lv_iload C.1.1 C.1.2.1 dX12_deleteNote_97 (lv_at hl 4 rfl) ?_
      refine lv_iconst (v := (1 : Int32)) C.1.1 C.1.2.1 dX12_deleteNote_99 (by decide) ?_
      refine lv_iadd C.1.1 C.1.2.1 dX12_deleteNote_100 ?_
      refine lv_iload C.1.1 C.1.2.1 dX12_deleteNote_101 (lv_at hl 3 rfl) ?_
      refine lv_icmp_ge (tgt := 132) C.1.1 C.1.2.1 dX12_deleteNote_103 (by decide) (fun c9 => ?_) (fun c9 => ?_)
      · replace w := ql_if w c9
        refine ql_aload_n (r := (some a0)) C dX12_deleteNote_132 rfl (lv_at hl 0 rfl) ?_
        refine lv_iload_n C.1.1 C.1.2.1 dX12_deleteNote_133 rfl (lv_at hl 1 rfl) ?_
        refine lv_iload C.1.1 C.1.2.1 dX12_deleteNote_134 (lv_at hl 2 rfl) ?_
        refine lv_iload C.1.1 C.1.2.1 dX12_deleteNote_136 (lv_at hl 3 rfl) ?_
        refine lv_iconst (v := (1 : Int32)) C.1.1 C.1.2.1 dX12_deleteNote_138 (by decide) ?_
        refine lv_isub C.1.1 C.1.2.1 dX12_deleteNote_139 ?_
        refine lv_bipush (v := (97 : Int32)) C.1.1 C.1.2.1 dX12_deleteNote_140 (by decide) ?_
        refine ql_VV (As := [.int xl3, .int xl4, .int (xl5 - (1 : Int32)), .int (97 : Int32)]) (rest := []) C S htab hlocks hl qy_X12_puts qi_X12_puts qs_X12_puts gw_1764 (ci := 13) rfl w (fun b w => qm_X12_puts l hl9 D _ b xl3 xl4 (xl5 - (1 : Int32)) (97 : Int32) _ _ w) rfl ⟨Nat.le_of_ble_eq_true rfl, Nat.le_of_ble_eq_true rfl⟩ ⟨rfl, rfl⟩ (by exact Nat.le_of_ble_eq_true rfl) (fun b e9 => by cases e9; rfl) dX12_deleteNote_142 ⟨Nat.le_of_ble_eq_true rfl, Nat.le_of_ble_eq_true rfl⟩ ⟨Nat.le_of_ble_eq_true rfl, Nat.le_of_ble_eq_true rfl⟩ (fun h H locs S w => ?_)
        refine W.cs (cells' := 0) (slots' := 0) rfl rfl ?_
        refine ql_aload_n (r := (some a0)) C dX12_deleteNote_145 rfl (lv_at hl 0 rfl) ?_
        refine lv_iload_n C.1.1 C.1.2.1 dX12_deleteNote_146 rfl (lv_at hl 1 rfl) ?_
        refine lv_iload C.1.1 C.1.2.1 dX12_deleteNote_147 (lv_at hl 2 rfl) ?_
        refine lv_iconst (v := (1 : Int32)) C.1.1 C.1.2.1 dX12_deleteNote_149 (by decide) ?_
        refine lv_iadd C.1.1 C.1.2.1 dX12_deleteNote_150 ?_
        refine lv_iload C.1.1 C.1.2.1 dX12_deleteNote_151 (lv_at hl 3 rfl) ?_
        refine lv_iconst (v := (1 : Int32)) C.1.1 C.1.2.1 dX12_deleteNote_153 (by decide) ?_
        refine lv_isub C.1.1 C.1.2.1 dX12_deleteNote_154 ?_
        refine ql_VV (As := [.int xl3, .int (xl4 + (1 : Int32)), .int (xl5 - (1 : Int32))]) (rest := []) C S htab hlocks hl qy_X12_lays qi_X12_lays qs_X12_lays gw_1760 (ci := 13) rfl w (fun b w => qm_X12_lays l hl9 D _ b xl3 (xl4 + (1 : Int32)) (xl5 - (1 : Int32)) _ _ w) rfl ⟨Nat.le_of_ble_eq_true rfl, Nat.le_of_ble_eq_true rfl⟩ ⟨rfl, rfl⟩ (by exact Nat.le_of_ble_eq_true rfl) (fun b e9 => by cases e9; rfl) dX12_deleteNote_155 ⟨Nat.le_of_ble_eq_true rfl, Nat.le_of_ble_eq_true rfl⟩ ⟨Nat.le_of_ble_eq_true rfl, Nat.le_of_ble_eq_true rfl⟩ (fun h H locs S w => ?_)
        refine W.cs (cells' := 0) (slots' := 0) rfl rfl ?_
        refine ql_aload_n (r := (some a0)) C dX12_deleteNote_158 rfl (lv_at hl 0 rfl) ?_
        refine lv_iload_n C.1.1 C.1.2.1 dX12_deleteNote_159 rfl (lv_at hl 1 rfl) ?_
        refine lv_iconst (v := (4 : Int32)) C.1.1 C.1.2.1 dX12_deleteNote_160 (by decide) ?_
        refine ql_VI (As := [.int xl3, .int (4 : Int32)]) (rest := []) C S htab hlocks hl qy_X12_of qi_X12_of qs_X12_of gw_1745 (ci := 13) rfl w (fun b w => qm_X12_of l hl9 D _ b xl3 (4 : Int32) _ _ w) rfl ⟨Nat.le_of_ble_eq_true rfl, Nat.le_of_ble_eq_true rfl⟩ ⟨rfl, rfl⟩ (by exact Nat.le_of_ble_eq_true rfl) (fun b e9 => by cases e9; rfl) dX12_deleteNote_161 ⟨Nat.le_of_ble_eq_true rfl, Nat.le_of_ble_eq_true rfl⟩ ⟨Nat.le_of_ble_eq_true rfl, Nat.le_of_ble_eq_true rfl⟩ (fun x3 h H locs S w => ?_)
        refine W.cs (cells' := 0) (slots' := 0) rfl rfl ?_
        exact ql_iret C S hr hlocks dX12_deleteNote_164 ⟨Nat.le_of_ble_eq_true rfl, Nat.le_of_ble_eq_true rfl⟩ w
      · replace w := ql_ifn w c9
        refine ql_aload_n (r := (some a0)) C dX12_deleteNote_106 rfl (lv_at hl 0 rfl) ?_
        refine lv_iload_n C.1.1 C.1.2.1 dX12_deleteNote_107 rfl (lv_at hl 1 rfl) ?_
        refine lv_iload C.1.1 C.1.2.1 dX12_deleteNote_108 (lv_at hl 2 rfl) ?_
        refine lv_iload C.1.1 C.1.2.1 dX12_deleteNote_110 (lv_at hl 4 rfl) ?_
        refine ql_aload_n (r := (some a0)) C dX12_deleteNote_112 rfl (lv_at hl 0 rfl) ?_
        refine lv_iload_n C.1.1 C.1.2.1 dX12_deleteNote_113 rfl (lv_at hl 1 rfl) ?_
        refine lv_iload C.1.1 C.1.2.1 dX12_deleteNote_114 (lv_at hl 2 rfl) ?_
        refine lv_iload C.1.1 C.1.2.1 dX12_deleteNote_116 (lv_at hl 4 rfl) ?_
        refine lv_iconst (v := (1 : Int32)) C.1.1 C.1.2.1 dX12_deleteNote_118 (by decide) ?_
        refine lv_iadd C.1.1 C.1.2.1 dX12_deleteNote_119 ?_
        refine ql_VI (As := [.int xl3, .int xl4, .int (xl6 + (1 : Int32))]) (rest := [.int xl6, .int xl4, .int xl3, .ref a0]) C S htab hlocks hl qy_X12_note qi_X12_note qs_X12_note gw_1796 (ci := 13) rfl w (fun b w => qm_X12_note l hl9 D _ b xl3 xl4 (xl6 + (1 : Int32)) _ _ w) rfl ⟨Nat.le_of_ble_eq_true rfl, Nat.le_of_ble_eq_true rfl⟩ ⟨rfl, rfl⟩ (by exact Nat.le_of_ble_eq_true rfl) (fun b e9 => by cases e9; rfl) dX12_deleteNote_120 ⟨Nat.le_of_ble_eq_true rfl, Nat.le_of_ble_eq_true rfl⟩ ⟨Nat.le_of_ble_eq_true rfl, Nat.le_of_ble_eq_true rfl⟩ (fun x5 h H locs S w => ?_)
        refine W.cs (cells' := 0) (slots' := 0) rfl rfl ?_
        refine ql_VV (As := [.int xl3, .int xl4, .int xl6, .int x5]) (rest := []) C S htab hlocks hl qy_X12_puts qi_X12_puts qs_X12_puts gw_1764 (ci := 13) rfl w (fun b w => qm_X12_puts l hl9 D _ b xl3 xl4 xl6 x5 _ _ w) rfl ⟨Nat.le_of_ble_eq_true rfl, Nat.le_of_ble_eq_true rfl⟩ ⟨rfl, rfl⟩ (by exact Nat.le_of_ble_eq_true rfl) (fun b e9 => by cases e9; rfl) dX12_deleteNote_123 ⟨Nat.le_of_ble_eq_true rfl, Nat.le_of_ble_eq_true rfl⟩ ⟨Nat.le_of_ble_eq_true rfl, Nat.le_of_ble_eq_true rfl⟩ (fun h H locs S w => ?_)
        refine W.cs (cells' := 0) (slots' := 0) rfl rfl ?_
        refine lv_iinc (v := (xl6 + (1 : Int32))) (lv' := [(6, .int (xl6 + (1 : Int32))), (0, .ref a0), (3, .int xl3), (4, .int xl4), (5, .int xl5)]) C.1.1 C.1.2.1 dX12_deleteNote_126 hl (k := 4) rfl rfl (by decide) rfl (fun ls hl => ?_)
        refine lv_goto (tgt := 97) C.1.1 C.1.2.1 dX12_deleteNote_129 (by decide) ?_
        exact ih xl3 xl4 xl5 (xl6 + (1 : Int32)) _ _ _ _ S (lv_sub hl [1, 2, 3, 4, 0] rfl) w
  have hB60 : ∀ (xl2 : Int32) (xl3 : Int32) (rs0 : Option Nat) (xs1 : Int32) (h : ql_H) (H : Heap) (locs : List Loc) (ls : Array Slot), ql_S D h0 s H locs h → lv_has ls 7 [(0, .ref a0), (2, .int xl2), (3, .int xl3)] → qw_X12_deleteNote_60 a0 Q xl2 xl3 rs0 xs1 h → W p l e ({ frames := 8, cells := 0, slots := 0, locals := 139 } : Room) s m ([.ref a0, .int xp1, .int xp2] : List Value).toArray below meth c H locs 0 0 (vx_MQ below (ql_Q D h0 (ql_rI Q)) (ql_X D h0 X) ([.ref a0, .int xp1, .int xp2] : List Value).toArray s 0 0 (ql_A h0)) (F0 m 60 ls [.int xs1, va_rf rs0]) := by
    intro xl2 xl3 rs0 xs1 h H locs ls S hl w
    unfold qw_X12_deleteNote_60 at w
    refine ql_VI (As := [.int xs1]) (rest := []) C S htab hlocks hl qy_X12_fails qi_X12_fails qs_X12_fails gw_1749 (ci := 13) rfl w (fun b w => qm_X12_fails l hl9 D _ b xs1 _ _ w) rfl ⟨Nat.le_of_ble_eq_true rfl, Nat.le_of_ble_eq_true rfl⟩ ⟨rfl, rfl⟩ (by exact Nat.le_of_ble_eq_true rfl) (fun b e9 => by cases e9; rfl) dX12_deleteNote_60 ⟨Nat.le_of_ble_eq_true rfl, Nat.le_of_ble_eq_true rfl⟩ ⟨Nat.le_of_ble_eq_true rfl, Nat.le_of_ble_eq_true rfl⟩ (fun x8 h H locs S w => ?_)
    refine W.cs (cells' := 0) (slots' := 0) rfl rfl ?_
    refine lv_if_eq (tgt := 68) C.1.1 C.1.2.1 dX12_deleteNote_63 (by decide) (fun c9 => ?_) (fun c9 => ?_)
    · replace w := ql_if w c9
      refine ql_aload_n (r := (some a0)) C dX12_deleteNote_68 rfl (lv_at hl 0 rfl) ?_
      refine ql_aload_n (r := (some a0)) C dX12_deleteNote_69 rfl (lv_at hl 0 rfl) ?_
      refine ql_getR C S qf_13_0 gw_1668 dX12_deleteNote_70 w (fun r10 w => ?_)
      refine ql_VV (As := [va_rf r10]) (rest := []) C S htab hlocks hl qy_X12_keeps qi_X12_keeps qs_X12_keeps gw_1753 (ci := 13) rfl w (fun b w => qm_X12_keeps l hl9 D _ b r10 _ _ w) rfl ⟨Nat.le_of_ble_eq_true rfl, Nat.le_of_ble_eq_true rfl⟩ ⟨rfl, rfl⟩ (by exact Nat.le_of_ble_eq_true rfl) (fun b e9 => by cases e9; rfl) dX12_deleteNote_73 ⟨Nat.le_of_ble_eq_true rfl, Nat.le_of_ble_eq_true rfl⟩ ⟨Nat.le_of_ble_eq_true rfl, Nat.le_of_ble_eq_true rfl⟩ (fun h H locs S w => ?_)
      refine W.cs (cells' := 0) (slots' := 0) rfl rfl ?_
      refine ql_aload_n (r := (some a0)) C dX12_deleteNote_76 rfl (lv_at hl 0 rfl) ?_
      refine lv_iload_n C.1.1 C.1.2.1 dX12_deleteNote_77 rfl (lv_at hl 2 rfl) ?_
      refine ql_VI (As := [.int xl3]) (rest := []) C S htab hlocks hl qy_X12_amends qi_X12_amends qs_X12_amends gw_1792 (ci := 13) rfl w (fun b w => qm_X12_amends l hl9 D _ b xl3 _ _ w) rfl ⟨Nat.le_of_ble_eq_true rfl, Nat.le_of_ble_eq_true rfl⟩ ⟨rfl, rfl⟩ (by exact Nat.le_of_ble_eq_true rfl) (fun b e9 => by cases e9; rfl) dX12_deleteNote_78 ⟨Nat.le_of_ble_eq_true rfl, Nat.le_of_ble_eq_true rfl⟩ ⟨Nat.le_of_ble_eq_true rfl, Nat.le_of_ble_eq_true rfl⟩ (fun x12 h H locs S w => ?_)
      refine W.cs (cells' := 0) (slots' := 0) rfl rfl ?_
      refine lv_istore (lv' := [(4, .int x12), (0, .ref a0), (2, .int xl2), (3, .int xl3)]) C.1.1 C.1.2.1 dX12_deleteNote_81 hl (by decide) rfl (fun ls hl => ?_)
      refine ql_aload_n (r := (some a0)) C dX12_deleteNote_83 rfl (lv_at hl 1 rfl) ?_
      refine lv_iload_n C.1.1 C.1.2.1 dX12_deleteNote_84 rfl (lv_at hl 3 rfl) ?_
      refine lv_iload C.1.1 C.1.2.1 dX12_deleteNote_85 (lv_at hl 0 rfl) ?_
      refine lv_iconst (v := (1 : Int32)) C.1.1 C.1.2.1 dX12_deleteNote_87 (by decide) ?_
      refine lv_iadd C.1.1 C.1.2.1 dX12_deleteNote_88 ?_
      refine ql_VI (As := [.int xl3, .int (x12 + (1 : Int32))]) (rest := []) C S htab hlocks hl qy_X12_of qi_X12_of qs_X12_of gw_1745 (ci := 13) rfl w (fun b w => qm_X12_of l hl9 D _ b xl3 (x12 + (1 : Int32)) _ _ w) rfl ⟨Nat.le_of_ble_eq_true rfl, Nat.le_of_ble_eq_true rfl⟩ ⟨rfl, rfl⟩ (by exact Nat.le_of_ble_eq_true rfl) (fun b e9 => by cases e9; rfl) dX12_deleteNote_89 ⟨Nat.le_of_ble_eq_true rfl, Nat.le_of_ble_eq_true rfl⟩ ⟨Nat.le_of_ble_eq_true rfl, Nat.le_of_ble_eq_true rfl⟩ (fun x14 h H locs S w => ?_)
      refine W.cs (cells' := 0) (slots' := 0) rfl rfl ?_
      refine lv_istore (lv' := [(5, .int x14), (4, .int x12), (0, .ref a0), (2, .int xl2), (3, .int xl3)]) C.1.1 C.1.2.1 dX12_deleteNote_92 hl (by decide) rfl (fun ls hl => ?_)
      refine lv_iload_n C.1.1 C.1.2.1 dX12_deleteNote_94 rfl (lv_at hl 3 rfl) ?_
      refine lv_istore (lv' := [(6, .int xl2), (5, .int x14), (4, .int x12), (0, .ref a0), (2, .int xl2), (3, .int xl3)]) C.1.1 C.1.2.1 dX12_deleteNote_95 hl (by decide) rfl (fun ls hl => ?_)
      exact hB97 ql_FU xl3 x12 x14 xl2 _ _ _ _ S (lv_sub hl [3, 5, 2, 1, 0] rfl) w
    · replace w := ql_ifn w c9
      refine lv_iconst (v := (0 : Int32)) C.1.1 C.1.2.1 dX12_deleteNote_66 (by decide) ?_
      exact ql_iret C S hr hlocks dX12_deleteNote_67 ⟨Nat.le_of_ble_eq_true rfl, Nat.le_of_ble_eq_true rfl⟩ w
  unfold qw_X12_deleteNote at w
  refine ql_aload_n (r := (some a0)) C dX12_deleteNote_0 rfl (lv_at hl 0 rfl) ?_
  refine lv_iload_n C.1.1 C.1.2.1 dX12_deleteNote_1 rfl (lv_at hl 1 rfl) ?_
  refine ql_VI (As := [.int xp1]) (rest := []) C S htab hlocks hl qy_X12_placeOf qi_X12_placeOf qs_X12_placeOf gw_1772 (ci := 13) rfl w (fun b w => qm_X12_placeOf l hl9 D _ b xp1 _ _ w) rfl ⟨Nat.le_of_ble_eq_true rfl, Nat.le_of_ble_eq_true rfl⟩ ⟨rfl, rfl⟩ (by exact Nat.le_of_ble_eq_true rfl) (fun b e9 => by cases e9; rfl) dX12_deleteNote_2 ⟨Nat.le_of_ble_eq_true rfl, Nat.le_of_ble_eq_true rfl⟩ ⟨Nat.le_of_ble_eq_true rfl, Nat.le_of_ble_eq_true rfl⟩ (fun x16 h H locs S w => ?_)
  refine W.cs (cells' := 0) (slots' := 0) rfl rfl ?_
  refine lv_istore_n (lv' := [(3, .int x16), (0, .ref a0), (1, .int xp1), (2, .int xp2)]) C.1.1 C.1.2.1 dX12_deleteNote_5 rfl hl (by decide) rfl (fun ls hl => ?_)
  refine ql_aload_n (r := (some a0)) C dX12_deleteNote_6 rfl (lv_at hl 1 rfl) ?_
  refine lv_iload_n C.1.1 C.1.2.1 dX12_deleteNote_7 rfl (lv_at hl 0 rfl) ?_
  refine lv_if_ge (tgt := 15) C.1.1 C.1.2.1 dX12_deleteNote_8 (by decide) (fun c9 => ?_) (fun c9 => ?_)
  · replace w := ql_if w c9
    refine lv_iload_n C.1.1 C.1.2.1 dX12_deleteNote_15 rfl (lv_at hl 3 rfl) ?_
    refine lv_iconst (v := (0 : Int32)) C.1.1 C.1.2.1 dX12_deleteNote_16 (by decide) ?_
    refine ql_aload_n (r := (some a0)) C dX12_deleteNote_17 rfl (lv_at hl 1 rfl) ?_
    refine lv_iload_n C.1.1 C.1.2.1 dX12_deleteNote_18 rfl (lv_at hl 0 rfl) ?_
    refine ql_VI (As := [.int x16]) (rest := [.int (0 : Int32), .int xp2, .ref a0]) C S htab hlocks hl qy_X12_long0 qi_X12_long0 qs_X12_long0 gw_1776 (ci := 13) rfl w (fun b w => qm_X12_long0 l hl9 D _ b x16 _ _ w) rfl ⟨Nat.le_of_ble_eq_true rfl, Nat.le_of_ble_eq_true rfl⟩ ⟨rfl, rfl⟩ (by exact Nat.le_of_ble_eq_true rfl) (fun b e9 => by cases e9; rfl) dX12_deleteNote_19 ⟨Nat.le_of_ble_eq_true rfl, Nat.le_of_ble_eq_true rfl⟩ ⟨Nat.le_of_ble_eq_true rfl, Nat.le_of_ble_eq_true rfl⟩ (fun x18 h H locs S w => ?_)
    refine W.cs (cells' := 0) (slots' := 0) rfl rfl ?_
    refine lv_iconst (v := (1 : Int32)) C.1.1 C.1.2.1 dX12_deleteNote_22 (by decide) ?_
    refine lv_isub C.1.1 C.1.2.1 dX12_deleteNote_23 ?_
    refine ql_SI (As := [.int xp2, .int (0 : Int32), .int (x18 - (1 : Int32))]) (rest := [.ref a0]) C S htab hlocks hl qy_X12_in qi_X12_in gw_1735 (qm_X12_in l hl9 D _ xp2 (0 : Int32) (x18 - (1 : Int32)) _ _ w) rfl ⟨Nat.le_of_ble_eq_true rfl, Nat.le_of_ble_eq_true rfl⟩ ⟨rfl, rfl⟩ (by exact Nat.le_of_ble_eq_true rfl) rfl dX12_deleteNote_24 ⟨Nat.le_of_ble_eq_true rfl, Nat.le_of_ble_eq_true rfl⟩ ⟨Nat.le_of_ble_eq_true rfl, Nat.le_of_ble_eq_true rfl⟩ (fun x20 h H locs S w => ?_)
    refine W.cs (cells' := 0) (slots' := 0) rfl rfl ?_
    refine lv_if_ne (tgt := 34) C.1.1 C.1.2.1 dX12_deleteNote_27 (by decide) (fun c9 => ?_) (fun c9 => ?_)
    · replace w := ql_ifn w c9
      refine ql_aload_n (r := (some a0)) C dX12_deleteNote_34 rfl (lv_at hl 1 rfl) ?_
      refine lv_iload_n C.1.1 C.1.2.1 dX12_deleteNote_35 rfl (lv_at hl 0 rfl) ?_
      refine ql_VI (As := [.int x16]) (rest := [.ref a0]) C S htab hlocks hl qy_X12_isClosed qi_X12_isClosed qs_X12_isClosed gw_1784 (ci := 13) rfl w (fun b w => qm_X12_isClosed l hl9 D _ b x16 _ _ w) rfl ⟨Nat.le_of_ble_eq_true rfl, Nat.le_of_ble_eq_true rfl⟩ ⟨rfl, rfl⟩ (by exact Nat.le_of_ble_eq_true rfl) (fun b e9 => by cases e9; rfl) dX12_deleteNote_36 ⟨Nat.le_of_ble_eq_true rfl, Nat.le_of_ble_eq_true rfl⟩ ⟨Nat.le_of_ble_eq_true rfl, Nat.le_of_ble_eq_true rfl⟩ (fun x21 h H locs S w => ?_)
      refine W.cs (cells' := 0) (slots' := 0) rfl rfl ?_
      refine lv_if_eq (tgt := 46) C.1.1 C.1.2.1 dX12_deleteNote_39 (by decide) (fun c9 => ?_) (fun c9 => ?_)
      · replace w := ql_if w c9
        refine ql_aload_n (r := (some a0)) C dX12_deleteNote_46 rfl (lv_at hl 1 rfl) ?_
        refine lv_iload_n C.1.1 C.1.2.1 dX12_deleteNote_47 rfl (lv_at hl 0 rfl) ?_
        refine ql_VI (As := [.int x16]) (rest := [.ref a0]) C S htab hlocks hl qy_X12_long0 qi_X12_long0 qs_X12_long0 gw_1776 (ci := 13) rfl w (fun b w => qm_X12_long0 l hl9 D _ b x16 _ _ w) rfl ⟨Nat.le_of_ble_eq_true rfl, Nat.le_of_ble_eq_true rfl⟩ ⟨rfl, rfl⟩ (by exact Nat.le_of_ble_eq_true rfl) (fun b e9 => by cases e9; rfl) dX12_deleteNote_48 ⟨Nat.le_of_ble_eq_true rfl, Nat.le_of_ble_eq_true rfl⟩ ⟨Nat.le_of_ble_eq_true rfl, Nat.le_of_ble_eq_true rfl⟩ (fun x23 h H locs S w => ?_)
        refine W.cs (cells' := 0) (slots' := 0) rfl rfl ?_
        refine lv_iconst (v := (1 : Int32)) C.1.1 C.1.2.1 dX12_deleteNote_51 (by decide) ?_
        refine lv_icmp_ne (tgt := 59) C.1.1 C.1.2.1 dX12_deleteNote_52 (by decide) (fun c9 => ?_) (fun c9 => ?_)
        · replace w := ql_ifn w c9
          refine lv_iconst (v := (0 : Int32)) C.1.1 C.1.2.1 dX12_deleteNote_59 (by decide) ?_
          exact hB60 xp2 x16 (some a0) (0 : Int32) _ _ _ _ S (lv_sub hl [1, 3, 0] rfl) w
        · replace w := ql_if w c9
          refine lv_iconst (v := (4 : Int32)) C.1.1 C.1.2.1 dX12_deleteNote_55 (by decide) ?_
          refine lv_goto (tgt := 60) C.1.1 C.1.2.1 dX12_deleteNote_56 (by decide) ?_
          exact hB60 xp2 x16 (some a0) (4 : Int32) _ _ _ _ S (lv_sub hl [1, 3, 0] rfl) w
      · replace w := ql_ifn w c9
        refine lv_iconst (v := (3 : Int32)) C.1.1 C.1.2.1 dX12_deleteNote_42 (by decide) ?_
        refine lv_goto (tgt := 60) C.1.1 C.1.2.1 dX12_deleteNote_43 (by decide) ?_
        exact hB60 xp2 x16 (some a0) (3 : Int32) _ _ _ _ S (lv_sub hl [1, 3, 0] rfl) w
    · replace w := ql_if w c9
      refine lv_iconst (v := (2 : Int32)) C.1.1 C.1.2.1 dX12_deleteNote_30 (by decide) ?_
      refine lv_goto (tgt := 60) C.1.1 C.1.2.1 dX12_deleteNote_31 (by decide) ?_
      exact hB60 xp2 x16 (some a0) (2 : Int32) _ _ _ _ S (lv_sub hl [1, 3, 0] rfl) w
  · replace w := ql_ifn w c9
    refine lv_iconst (v := (1 : Int32)) C.1.1 C.1.2.1 dX12_deleteNote_11 (by decide) ?_
    refine lv_goto (tgt := 60) C.1.1 C.1.2.1 dX12_deleteNote_12 (by decide) ?_
    exact hB60 xp2 x16 (some a0) (1 : Int32) _ _ _ _ S (lv_sub hl [1, 3, 0] rfl) w
def qw_X12_setSunset_56 (a0 : Nat) (Q : Int32 → ql_H → Prop) (xl2 : Int32) (xl3 : Int32) (rs0 : Option Nat) (xs1 : Int32) (h : ql_H) : Prop :=
ql_rv h rs0 13 fun b1 => qw_X12_fails b1 xs1 h (fun x1 h =>
if x1 = 0 then (ql_gR h (some a0) 13 0 fun r3 =>
ql_rv h (some a0) 13 fun b3 => qw_X12_keeps b3 r3 h (fun h =>
ql_rv h (some a0) 13 fun b4 => qw_X12_lays b4 xl3 (3 : Int32) xl2 h (fun h =>
ql_gR h (some a0) 13 0 fun r6 =>
ql_lI h r6 0 (2 : Int32) fun x7 =>
Q (xl2 - x7) h))) else (Q (0 : Int32) h))
def qw_X12_setSunset_39 (a0 : Nat) (Q : Int32 → ql_H → Prop) (xl2 : Int32) (xl3 : Int32) (rs0 : Option Nat) (h : ql_H) : Prop :=
qw_X12_setSunset_56 a0 Q xl2 xl3 rs0 (2 : Int32) h
def qw_X12_setSunset (a0 : Nat) (xp1 : Int32) (xp2 : Int32) (h : ql_H) (Q : Int32 → ql_H → Prop) : Prop :=
ql_rv h (some a0) 13 fun b8 => qw_X12_placeOf b8 xp1 h (fun x8 h =>
if 0 ≤ x8 then (ql_gR h (some a0) 13 0 fun r10 =>
ql_lI h r10 0 (2 : Int32) fun x11 =>
if xp2 < x11 then (qw_X12_setSunset_39 a0 Q xp2 x8 (some a0) h) else (ql_gR h (some a0) 13 0 fun r12 =>
ql_lI h r12 0 (2 : Int32) fun x13 =>
if (xp2 - x13) ≤ (9999 : Int32) then (ql_rv h (some a0) 13 fun b14 => qw_X12_isOver b14 x8 h (fun x14 h =>
if x14 = 0 then (qw_X12_setSunset_56 a0 Q xp2 x8 (some a0) (0 : Int32) h) else (qw_X12_setSunset_56 a0 Q xp2 x8 (some a0) (3 : Int32) h))) else (qw_X12_setSunset_39 a0 Q xp2 x8 (some a0) h))) else (qw_X12_setSunset_56 a0 Q xp2 x8 (some a0) (1 : Int32) h))
set_option maxHeartbeats 4000000 in
set_option maxRecDepth 100000 in
theorem qm_X12_setSunset (l : Launch) (hl9 : l.stackTraces = false) (D : ql_D) (h0 : ql_H) (a0 : Nat) (xp1 : Int32) (xp2 : Int32) (Q : Int32 → ql_H → Prop) (X : String → ql_H → Prop) (w : qw_X12_setSunset a0 xp1 xp2 h0 Q) : ql_M D l yX12_setSunset cX12_setSunset 4 (some .int) ({ frames := 6, cells := 0, slots := 0, locals := 110 } : Room) h0 [.ref a0, .int xp1, .int xp2] (ql_rI Q) X 0 0 := by
  refine ql_ofW (by decide) (Nat.le_of_ble_eq_true rfl) ?_
  intro p e s m below meth c ls C hr hlocks hnm htab S hl
  have hl : lv_has ls 4 [(0, .ref a0), (1, .int xp1), (2, .int xp2)] := hl
  have hB56 : ∀ (xl2 : Int32) (xl3 : Int32) (rs0 : Option Nat) (xs1 : Int32) (h : ql_H) (H : Heap) (locs : List Loc) (ls : Array Slot), ql_S D h0 s H locs h → lv_has ls 4 [(0, .ref a0), (2, .int xl2), (3, .int xl3)] → qw_X12_setSunset_56 a0 Q xl2 xl3 rs0 xs1 h → W p l e ({ frames := 6, cells := 0, slots := 0, locals := 110 } : Room) s m ([.ref a0, .int xp1, .int xp2] : List Value).toArray below meth c H locs 0 0 (vx_MQ below (ql_Q D h0 (ql_rI Q)) (ql_X D h0 X) ([.ref a0, .int xp1, .int xp2] : List Value).toArray s 0 0 (ql_A h0)) (F0 m 56 ls [.int xs1, va_rf rs0]) := by
    intro xl2 xl3 rs0 xs1 h H locs ls S hl w
    unfold qw_X12_setSunset_56 at w
    refine ql_VI (As := [.int xs1]) (rest := []) C S htab hlocks hl qy_X12_fails qi_X12_fails qs_X12_fails gw_1749 (ci := 13) rfl w (fun b w => qm_X12_fails l hl9 D _ b xs1 _ _ w) rfl ⟨Nat.le_of_ble_eq_true rfl, Nat.le_of_ble_eq_true rfl⟩ ⟨rfl, rfl⟩ (by exact Nat.le_of_ble_eq_true rfl) (fun b e9 => by cases e9; rfl) dX12_setSunset_56 ⟨Nat.le_of_ble_eq_true rfl, Nat.le_of_ble_eq_true rfl⟩ ⟨Nat.le_of_ble_eq_true rfl, Nat.le_of_ble_eq_true rfl⟩ (fun x1 h H locs S w => ?_)
    refine W.cs (cells' := 0) (slots' := 0) rfl rfl ?_
    refine lv_if_eq (tgt := 64) C.1.1 C.1.2.1 dX12_setSunset_59 (by decide) (fun c9 => ?_) (fun c9 => ?_)
    · replace w := ql_if w c9
      refine ql_aload_n (r := (some a0)) C dX12_setSunset_64 rfl (lv_at hl 0 rfl) ?_
      refine ql_aload_n (r := (some a0)) C dX12_setSunset_65 rfl (lv_at hl 0 rfl) ?_
      refine ql_getR C S qf_13_0 gw_1668 dX12_setSunset_66 w (fun r3 w => ?_)
      refine ql_VV (As := [va_rf r3]) (rest := []) C S htab hlocks hl qy_X12_keeps qi_X12_keeps qs_X12_keeps gw_1753 (ci := 13) rfl w (fun b w => qm_X12_keeps l hl9 D _ b r3 _ _ w) rfl ⟨Nat.le_of_ble_eq_true rfl, Nat.le_of_ble_eq_true rfl⟩ ⟨rfl, rfl⟩ (by exact Nat.le_of_ble_eq_true rfl) (fun b e9 => by cases e9; rfl) dX12_setSunset_69 ⟨Nat.le_of_ble_eq_true rfl, Nat.le_of_ble_eq_true rfl⟩ ⟨Nat.le_of_ble_eq_true rfl, Nat.le_of_ble_eq_true rfl⟩ (fun h H locs S w => ?_)
      refine W.cs (cells' := 0) (slots' := 0) rfl rfl ?_
      refine ql_aload_n (r := (some a0)) C dX12_setSunset_72 rfl (lv_at hl 0 rfl) ?_
      refine lv_iload_n C.1.1 C.1.2.1 dX12_setSunset_73 rfl (lv_at hl 2 rfl) ?_
      refine lv_iconst (v := (3 : Int32)) C.1.1 C.1.2.1 dX12_setSunset_74 (by decide) ?_
      refine lv_iload_n C.1.1 C.1.2.1 dX12_setSunset_75 rfl (lv_at hl 1 rfl) ?_
      refine ql_VV (As := [.int xl3, .int (3 : Int32), .int xl2]) (rest := []) C S htab hlocks hl qy_X12_lays qi_X12_lays qs_X12_lays gw_1760 (ci := 13) rfl w (fun b w => qm_X12_lays l hl9 D _ b xl3 (3 : Int32) xl2 _ _ w) rfl ⟨Nat.le_of_ble_eq_true rfl, Nat.le_of_ble_eq_true rfl⟩ ⟨rfl, rfl⟩ (by exact Nat.le_of_ble_eq_true rfl) (fun b e9 => by cases e9; rfl) dX12_setSunset_76 ⟨Nat.le_of_ble_eq_true rfl, Nat.le_of_ble_eq_true rfl⟩ ⟨Nat.le_of_ble_eq_true rfl, Nat.le_of_ble_eq_true rfl⟩ (fun h H locs S w => ?_)
      refine W.cs (cells' := 0) (slots' := 0) rfl rfl ?_
      refine lv_iload_n C.1.1 C.1.2.1 dX12_setSunset_79 rfl (lv_at hl 1 rfl) ?_
      refine ql_aload_n (r := (some a0)) C dX12_setSunset_80 rfl (lv_at hl 0 rfl) ?_
      refine ql_getR C S qf_13_0 gw_1668 dX12_setSunset_81 w (fun r6 w => ?_)
      refine lv_iconst (v := (2 : Int32)) C.1.1 C.1.2.1 dX12_setSunset_84 (by decide) ?_
      refine ql_iald C S dX12_setSunset_85 w (fun x7 w => ?_)
      refine lv_isub C.1.1 C.1.2.1 dX12_setSunset_86 ?_
      exact ql_iret C S hr hlocks dX12_setSunset_87 ⟨Nat.le_of_ble_eq_true rfl, Nat.le_of_ble_eq_true rfl⟩ w
    · replace w := ql_ifn w c9
      refine lv_iconst (v := (0 : Int32)) C.1.1 C.1.2.1 dX12_setSunset_62 (by decide) ?_
      exact ql_iret C S hr hlocks dX12_setSunset_63 ⟨Nat.le_of_ble_eq_true rfl, Nat.le_of_ble_eq_true rfl⟩ w
  have hB39 : ∀ (xl2 : Int32) (xl3 : Int32) (rs0 : Option Nat) (h : ql_H) (H : Heap) (locs : List Loc) (ls : Array Slot), ql_S D h0 s H locs h → lv_has ls 4 [(0, .ref a0), (2, .int xl2), (3, .int xl3)] → qw_X12_setSunset_39 a0 Q xl2 xl3 rs0 h → W p l e ({ frames := 6, cells := 0, slots := 0, locals := 110 } : Room) s m ([.ref a0, .int xp1, .int xp2] : List Value).toArray below meth c H locs 0 0 (vx_MQ below (ql_Q D h0 (ql_rI Q)) (ql_X D h0 X) ([.ref a0, .int xp1, .int xp2] : List Value).toArray s 0 0 (ql_A h0)) (F0 m 39 ls [va_rf rs0]) := by
    intro xl2 xl3 rs0 h H locs ls S hl w
    unfold qw_X12_setSunset_39 at w
    refine lv_iconst (v := (2 : Int32)) C.1.1 C.1.2.1 dX12_setSunset_39 (by decide) ?_
    refine lv_goto (tgt := 56) C.1.1 C.1.2.1 dX12_setSunset_40 (by decide) ?_
    exact hB56 xl2 xl3 rs0 (2 : Int32) _ _ _ _ S (lv_sub hl [0, 1, 2] rfl) w
  unfold qw_X12_setSunset at w
  refine ql_aload_n (r := (some a0)) C dX12_setSunset_0 rfl (lv_at hl 0 rfl) ?_
  refine lv_iload_n C.1.1 C.1.2.1 dX12_setSunset_1 rfl (lv_at hl 1 rfl) ?_
  refine ql_VI (As := [.int xp1]) (rest := []) C S htab hlocks hl qy_X12_placeOf qi_X12_placeOf qs_X12_placeOf gw_1772 (ci := 13) rfl w (fun b w => qm_X12_placeOf l hl9 D _ b xp1 _ _ w) rfl ⟨Nat.le_of_ble_eq_true rfl, Nat.le_of_ble_eq_true rfl⟩ ⟨rfl, rfl⟩ (by exact Nat.le_of_ble_eq_true rfl) (fun b e9 => by cases e9; rfl) dX12_setSunset_2 ⟨Nat.le_of_ble_eq_true rfl, Nat.le_of_ble_eq_true rfl⟩ ⟨Nat.le_of_ble_eq_true rfl, Nat.le_of_ble_eq_true rfl⟩ (fun x8 h H locs S w => ?_)
  refine W.cs (cells' := 0) (slots' := 0) rfl rfl ?_
  refine lv_istore_n (lv' := [(3, .int x8), (0, .ref a0), (1, .int xp1), (2, .int xp2)]) C.1.1 C.1.2.1 dX12_setSunset_5 rfl hl (by decide) rfl (fun ls hl => ?_)
  refine ql_aload_n (r := (some a0)) C dX12_setSunset_6 rfl (lv_at hl 1 rfl) ?_
  refine lv_iload_n C.1.1 C.1.2.1 dX12_setSunset_7 rfl (lv_at hl 0 rfl) ?_
  refine lv_if_ge (tgt := 15) C.1.1 C.1.2.1 dX12_setSunset_8 (by decide) (fun c9 => ?_) (fun c9 => ?_)
  · replace w := ql_if w c9
    refine lv_iload_n C.1.1 C.1.2.1 dX12_setSunset_15 rfl (lv_at hl 3 rfl) ?_
    refine ql_aload_n (r := (some a0)) C dX12_setSunset_16 rfl (lv_at hl 1 rfl) ?_
    refine ql_getR C S qf_13_0 gw_1668 dX12_setSunset_17 w (fun r10 w => ?_)
    refine lv_iconst (v := (2 : Int32)) C.1.1 C.1.2.1 dX12_setSunset_20 (by decide) ?_
    refine ql_iald C S dX12_setSunset_21 w (fun x11 w => ?_)
    refine lv_icmp_lt (tgt := 39) C.1.1 C.1.2.1 dX12_setSunset_22 (by decide) (fun c9 => ?_) (fun c9 => ?_)
    · replace w := ql_if w c9
      exact hB39 xp2 x8 (some a0) _ _ _ _ S (lv_sub hl [1, 3, 0] rfl) w
    · replace w := ql_ifn w c9
      refine lv_iload_n C.1.1 C.1.2.1 dX12_setSunset_25 rfl (lv_at hl 3 rfl) ?_
      refine ql_aload_n (r := (some a0)) C dX12_setSunset_26 rfl (lv_at hl 1 rfl) ?_
      refine ql_getR C S qf_13_0 gw_1668 dX12_setSunset_27 w (fun r12 w => ?_)
      refine lv_iconst (v := (2 : Int32)) C.1.1 C.1.2.1 dX12_setSunset_30 (by decide) ?_
      refine ql_iald C S dX12_setSunset_31 w (fun x13 w => ?_)
      refine lv_isub C.1.1 C.1.2.1 dX12_setSunset_32 ?_
      refine lv_sipush (v := (9999 : Int32)) C.1.1 C.1.2.1 dX12_setSunset_33 (by decide) ?_
      refine lv_icmp_le (tgt := 43) C.1.1 C.1.2.1 dX12_setSunset_36 (by decide) (fun c9 => ?_) (fun c9 => ?_)
      · replace w := ql_if w c9
        refine ql_aload_n (r := (some a0)) C dX12_setSunset_43 rfl (lv_at hl 1 rfl) ?_
        refine lv_iload_n C.1.1 C.1.2.1 dX12_setSunset_44 rfl (lv_at hl 0 rfl) ?_
        refine ql_VI (As := [.int x8]) (rest := [.ref a0]) C S htab hlocks hl qy_X12_isOver qi_X12_isOver qs_X12_isOver gw_1812 (ci := 13) rfl w (fun b w => qm_X12_isOver l hl9 D _ b x8 _ _ w) rfl ⟨Nat.le_of_ble_eq_true rfl, Nat.le_of_ble_eq_true rfl⟩ ⟨rfl, rfl⟩ (by exact Nat.le_of_ble_eq_true rfl) (fun b e9 => by cases e9; rfl) dX12_setSunset_45 ⟨Nat.le_of_ble_eq_true rfl, Nat.le_of_ble_eq_true rfl⟩ ⟨Nat.le_of_ble_eq_true rfl, Nat.le_of_ble_eq_true rfl⟩ (fun x14 h H locs S w => ?_)
        refine W.cs (cells' := 0) (slots' := 0) rfl rfl ?_
        refine lv_if_eq (tgt := 55) C.1.1 C.1.2.1 dX12_setSunset_48 (by decide) (fun c9 => ?_) (fun c9 => ?_)
        · replace w := ql_if w c9
          refine lv_iconst (v := (0 : Int32)) C.1.1 C.1.2.1 dX12_setSunset_55 (by decide) ?_
          exact hB56 xp2 x8 (some a0) (0 : Int32) _ _ _ _ S (lv_sub hl [1, 3, 0] rfl) w
        · replace w := ql_ifn w c9
          refine lv_iconst (v := (3 : Int32)) C.1.1 C.1.2.1 dX12_setSunset_51 (by decide) ?_
          refine lv_goto (tgt := 56) C.1.1 C.1.2.1 dX12_setSunset_52 (by decide) ?_
          exact hB56 xp2 x8 (some a0) (3 : Int32) _ _ _ _ S (lv_sub hl [1, 3, 0] rfl) w
      · replace w := ql_ifn w c9
        exact hB39 xp2 x8 (some a0) _ _ _ _ S (lv_sub hl [1, 3, 0] rfl) w
  · replace w := ql_ifn w c9
    refine lv_iconst (v := (1 : Int32)) C.1.1 C.1.2.1 dX12_setSunset_11 (by decide) ?_
    refine lv_goto (tgt := 56) C.1.1 C.1.2.1 dX12_setSunset_12 (by decide) ?_
    exact hB56 xp2 x8 (some a0) (1 : Int32) _ _ _ _ S (lv_sub hl [1, 3, 0] rfl) w
def qw_X12_cited_2 (a0 : Nat) (Q : Int32 → ql_H → Prop) : Nat → Int32 → Int32 → Int32 → ql_H → Prop
  | 0, _, _, _, _ => False
  | n + 1, xl1, xl2, xl3, h =>
    ql_rv h (some a0) 13 fun b1 => qw_X12_of b1 xl1 (37 : Int32) h (fun x1 h =>
    if x1 ≤ xl3 then (Q (-1 : Int32) h) else (ql_rv h (some a0) 13 fun b3 => qw_X12_of b3 xl1 ((38 : Int32) + xl3) h (fun x3 h =>
    if x3 = xl2 then (Q xl3 h) else (qw_X12_cited_2 a0 Q n xl1 xl2 (xl3 + (1 : Int32)) h))))
def qw_X12_cited (a0 : Nat) (xp1 : Int32) (xp2 : Int32) (h : ql_H) (Q : Int32 → ql_H → Prop) : Prop :=
qw_X12_cited_2 a0 Q ql_FU xp1 xp2 (0 : Int32) h
set_option maxHeartbeats 4000000 in
set_option maxRecDepth 100000 in
theorem qm_X12_cited (l : Launch) (hl9 : l.stackTraces = false) (D : ql_D) (h0 : ql_H) (a0 : Nat) (xp1 : Int32) (xp2 : Int32) (Q : Int32 → ql_H → Prop) (X : String → ql_H → Prop) (w : qw_X12_cited a0 xp1 xp2 h0 Q) : ql_M D l yX12_cited cX12_cited 4 (some .int) ({ frames := 4, cells := 0, slots := 0, locals := 78 } : Room) h0 [.ref a0, .int xp1, .int xp2] (ql_rI Q) X 0 0 := by
  refine ql_ofW (by decide) (Nat.le_of_ble_eq_true rfl) ?_
  intro p e s m below meth c ls C hr hlocks hnm htab S hl
  have hl : lv_has ls 4 [(0, .ref a0), (1, .int xp1), (2, .int xp2)] := hl
  have hB2 : ∀ n : Nat, ∀ (xl1 : Int32) (xl2 : Int32) (xl3 : Int32) (h : ql_H) (H : Heap) (locs : List Loc) (ls : Array Slot), ql_S D h0 s H locs h → lv_has ls 4 [(0, .ref a0), (1, .int xl1), (2, .int xl2), (3, .int xl3)] → qw_X12_cited_2 a0 Q n xl1 xl2 xl3 h → W p l e ({ frames := 4, cells := 0, slots := 0, locals := 78 } : Room) s m ([.ref a0, .int xp1, .int xp2] : List Value).toArray below meth c H locs 0 0 (vx_MQ below (ql_Q D h0 (ql_rI Q)) (ql_X D h0 X) ([.ref a0, .int xp1, .int xp2] : List Value).toArray s 0 0 (ql_A h0)) (F0 m 2 ls []) := by
    intro n
    induction n with
    | zero => intro xl1 xl2 xl3 h H locs ls S hl w; rw [qw_X12_cited_2] at w; exact w.elim
    | succ n ih =>
      intro xl1 xl2 xl3 h H locs ls S hl w
      rw [qw_X12_cited_2] at w
      refine lv_iload_n C.1.1 C.1.2.1 dX12_cited_2 rfl (lv_at hl 3 rfl) ?_
      refine ql_aload_n (r := (some a0)) C dX12_cited_3 rfl (lv_at hl 0 rfl) ?_
      refine lv_iload_n C.1.1 C.1.2.1 dX12_cited_4 rfl (lv_at hl 1 rfl) ?_
      refine lv_bipush (v := (37 : Int32)) C.1.1 C.1.2.1 dX12_cited_5 (by decide) ?_
      refine ql_VI (As := [.int xl1, .int (37 : Int32)]) (rest := [.int xl3]) C S htab hlocks hl qy_X12_of qi_X12_of qs_X12_of gw_1745 (ci := 13) rfl w (fun b w => qm_X12_of l hl9 D _ b xl1 (37 : Int32) _ _ w) rfl ⟨Nat.le_of_ble_eq_true rfl, Nat.le_of_ble_eq_true rfl⟩ ⟨rfl, rfl⟩ (by exact Nat.le_of_ble_eq_true rfl) (fun b e9 => by cases e9; rfl) dX12_cited_7 ⟨Nat.le_of_ble_eq_true rfl, Nat.le_of_ble_eq_true rfl⟩ ⟨Nat.le_of_ble_eq_true rfl, Nat.le_of_ble_eq_true rfl⟩ (fun x1 h H locs S w => ?_)
      refine W.cs (cells' := 0) (slots' := 0) rfl rfl ?_
      refine lv_icmp_ge (tgt := 34) C.1.1 C.1.2.1 dX12_cited_10 (by decide) (fun c9 => ?_) (fun c9 => ?_)
      · replace w := ql_if w c9
        refine lv_iconst (v := (-1 : Int32)) C.1.1 C.1.2.1 dX12_cited_34 (by decide) ?_
        exact ql_iret C S hr hlocks dX12_cited_35 ⟨Nat.le_of_ble_eq_true rfl, Nat.le_of_ble_eq_true rfl⟩ w
      · replace w := ql_ifn w c9
        refine ql_aload_n (r := (some a0)) C dX12_cited_13 rfl (lv_at hl 0 rfl) ?_
        refine lv_iload_n C.1.1 C.1.2.1 dX12_cited_14 rfl (lv_at hl 1 rfl) ?_
        refine lv_bipush (v := (38 : Int32)) C.1.1 C.1.2.1 dX12_cited_15 (by decide) ?_
        refine lv_iload_n C.1.1 C.1.2.1 dX12_cited_17 rfl (lv_at hl 3 rfl) ?_
        refine lv_iadd C.1.1 C.1.2.1 dX12_cited_18 ?_
        refine ql_VI (As := [.int xl1, .int ((38 : Int32) + xl3)]) (rest := []) C S htab hlocks hl qy_X12_of qi_X12_of qs_X12_of gw_1745 (ci := 13) rfl w (fun b w => qm_X12_of l hl9 D _ b xl1 ((38 : Int32) + xl3) _ _ w) rfl ⟨Nat.le_of_ble_eq_true rfl, Nat.le_of_ble_eq_true rfl⟩ ⟨rfl, rfl⟩ (by exact Nat.le_of_ble_eq_true rfl) (fun b e9 => by cases e9; rfl) dX12_cited_19 ⟨Nat.le_of_ble_eq_true rfl, Nat.le_of_ble_eq_true rfl⟩ ⟨Nat.le_of_ble_eq_true rfl, Nat.le_of_ble_eq_true rfl⟩ (fun x3 h H locs S w => ?_)
        refine W.cs (cells' := 0) (slots' := 0) rfl rfl ?_
        refine lv_iload_n C.1.1 C.1.2.1 dX12_cited_22 rfl (lv_at hl 2 rfl) ?_
        refine lv_icmp_ne (tgt := 28) C.1.1 C.1.2.1 dX12_cited_23 (by decide) (fun c9 => ?_) (fun c9 => ?_)
        · replace w := ql_ifn w c9
          refine lv_iinc (v := (xl3 + (1 : Int32))) (lv' := [(3, .int (xl3 + (1 : Int32))), (0, .ref a0), (1, .int xl1), (2, .int xl2)]) C.1.1 C.1.2.1 dX12_cited_28 hl (k := 3) rfl rfl (by decide) rfl (fun ls hl => ?_)
          refine lv_goto (tgt := 2) C.1.1 C.1.2.1 dX12_cited_31 (by decide) ?_
          exact ih xl1 xl2 (xl3 + (1 : Int32)) _ _ _ _ S (lv_sub hl [1, 2, 3, 0] rfl) w
        · replace w := ql_if w c9
          refine lv_iload_n C.1.1 C.1.2.1 dX12_cited_26 rfl (lv_at hl 3 rfl) ?_
          exact ql_iret C S hr hlocks dX12_cited_27 ⟨Nat.le_of_ble_eq_true rfl, Nat.le_of_ble_eq_true rfl⟩ w
  unfold qw_X12_cited at w
  refine lv_iconst (v := (0 : Int32)) C.1.1 C.1.2.1 dX12_cited_0 (by decide) ?_
  refine lv_istore_n (lv' := [(3, .int (0 : Int32)), (0, .ref a0), (1, .int xp1), (2, .int xp2)]) C.1.1 C.1.2.1 dX12_cited_1 rfl hl (by decide) rfl (fun ls hl => ?_)
  exact hB2 ql_FU xp1 xp2 (0 : Int32) _ _ _ _ S (lv_sub hl [1, 2, 3, 0] rfl) w
def qw_X12_cite_57 (a0 : Nat) (Q : Int32 → ql_H → Prop) (xl2 : Int32) (xl3 : Int32) (rs0 : Option Nat) (xs1 : Int32) (h : ql_H) : Prop :=
ql_rv h rs0 13 fun b1 => qw_X12_fails b1 xs1 h (fun x1 h =>
if x1 = 0 then (ql_gR h (some a0) 13 0 fun r3 =>
ql_rv h (some a0) 13 fun b3 => qw_X12_keeps b3 r3 h (fun h =>
ql_rv h (some a0) 13 fun b5 => qw_X12_of b5 xl3 (37 : Int32) h (fun x5 h =>
ql_rv h (some a0) 13 fun b6 => qw_X12_lays b6 xl3 ((38 : Int32) + x5) xl2 h (fun h =>
ql_rv h (some a0) 13 fun b7 => qw_X12_lays b7 xl3 (37 : Int32) (x5 + (1 : Int32)) h (fun h =>
Q (x5 + (1 : Int32)) h))))) else (Q (0 : Int32) h))
def qw_X12_cite_19 (a0 : Nat) (Q : Int32 → ql_H → Prop) (xl2 : Int32) (xl3 : Int32) (rs0 : Option Nat) (h : ql_H) : Prop :=
qw_X12_cite_57 a0 Q xl2 xl3 rs0 (1 : Int32) h
def qw_X12_cite_52 (a0 : Nat) (Q : Int32 → ql_H → Prop) (xl2 : Int32) (xl3 : Int32) (rs0 : Option Nat) (h : ql_H) : Prop :=
qw_X12_cite_57 a0 Q xl2 xl3 rs0 (3 : Int32) h
def qw_X12_cite (a0 : Nat) (xp1 : Int32) (xp2 : Int32) (h : ql_H) (Q : Int32 → ql_H → Prop) : Prop :=
ql_rv h (some a0) 13 fun b9 => qw_X12_placeOf b9 xp1 h (fun x9 h =>
if x9 < 0 then (qw_X12_cite_19 a0 Q xp2 x9 (some a0) h) else (ql_rv h (some a0) 13 fun b11 => qw_X12_placeOf b11 xp2 h (fun x11 h =>
if 0 ≤ x11 then (if xp1 = xp2 then (qw_X12_cite_57 a0 Q xp2 x9 (some a0) (2 : Int32) h) else (ql_rv h (some a0) 13 fun b13 => qw_X12_cited b13 x9 xp2 h (fun x13 h =>
if 0 ≤ x13 then (qw_X12_cite_52 a0 Q xp2 x9 (some a0) h) else (ql_rv h (some a0) 13 fun b15 => qw_X12_of b15 x9 (37 : Int32) h (fun x15 h =>
if x15 = (4 : Int32) then (qw_X12_cite_52 a0 Q xp2 x9 (some a0) h) else (qw_X12_cite_57 a0 Q xp2 x9 (some a0) (0 : Int32) h)))))) else (qw_X12_cite_19 a0 Q xp2 x9 (some a0) h))))
set_option maxHeartbeats 4000000 in
set_option maxRecDepth 100000 in
theorem qm_X12_cite (l : Launch) (hl9 : l.stackTraces = false) (D : ql_D) (h0 : ql_H) (a0 : Nat) (xp1 : Int32) (xp2 : Int32) (Q : Int32 → ql_H → Prop) (X : String → ql_H → Prop) (w : qw_X12_cite a0 xp1 xp2 h0 Q) : ql_M D l yX12_cite cX12_cite 5 (some .int) ({ frames := 6, cells := 0, slots := 0, locals := 110 } : Room) h0 [.ref a0, .int xp1, .int xp2] (ql_rI Q) X 0 0 := by
  refine ql_ofW (by decide) (Nat.le_of_ble_eq_true rfl) ?_
  intro p e s m below meth c ls C hr hlocks hnm htab S hl
  have hl : lv_has ls 5 [(0, .ref a0), (1, .int xp1), (2, .int xp2)] := hl
  have hB57 : ∀ (xl2 : Int32) (xl3 : Int32) (rs0 : Option Nat) (xs1 : Int32) (h : ql_H) (H : Heap) (locs : List Loc) (ls : Array Slot), ql_S D h0 s H locs h → lv_has ls 5 [(0, .ref a0), (2, .int xl2), (3, .int xl3)] → qw_X12_cite_57 a0 Q xl2 xl3 rs0 xs1 h → W p l e ({ frames := 6, cells := 0, slots := 0, locals := 110 } : Room) s m ([.ref a0, .int xp1, .int xp2] : List Value).toArray below meth c H locs 0 0 (vx_MQ below (ql_Q D h0 (ql_rI Q)) (ql_X D h0 X) ([.ref a0, .int xp1, .int xp2] : List Value).toArray s 0 0 (ql_A h0)) (F0 m 57 ls [.int xs1, va_rf rs0]) := by
    intro xl2 xl3 rs0 xs1 h H locs ls S hl w
    unfold qw_X12_cite_57 at w
    refine ql_VI (As := [.int xs1]) (rest := []) C S htab hlocks hl qy_X12_fails qi_X12_fails qs_X12_fails gw_1749 (ci := 13) rfl w (fun b w => qm_X12_fails l hl9 D _ b xs1 _ _ w) rfl ⟨Nat.le_of_ble_eq_true rfl, Nat.le_of_ble_eq_true rfl⟩ ⟨rfl, rfl⟩ (by exact Nat.le_of_ble_eq_true rfl) (fun b e9 => by cases e9; rfl) dX12_cite_57 ⟨Nat.le_of_ble_eq_true rfl, Nat.le_of_ble_eq_true rfl⟩ ⟨Nat.le_of_ble_eq_true rfl, Nat.le_of_ble_eq_true rfl⟩ (fun x1 h H locs S w => ?_)
    refine W.cs (cells' := 0) (slots' := 0) rfl rfl ?_
    refine lv_if_eq (tgt := 65) C.1.1 C.1.2.1 dX12_cite_60 (by decide) (fun c9 => ?_) (fun c9 => ?_)
    · replace w := ql_if w c9
      refine ql_aload_n (r := (some a0)) C dX12_cite_65 rfl (lv_at hl 0 rfl) ?_
      refine ql_aload_n (r := (some a0)) C dX12_cite_66 rfl (lv_at hl 0 rfl) ?_
      refine ql_getR C S qf_13_0 gw_1668 dX12_cite_67 w (fun r3 w => ?_)
      refine ql_VV (As := [va_rf r3]) (rest := []) C S htab hlocks hl qy_X12_keeps qi_X12_keeps qs_X12_keeps gw_1753 (ci := 13) rfl w (fun b w => qm_X12_keeps l hl9 D _ b r3 _ _ w) rfl ⟨Nat.le_of_ble_eq_true rfl, Nat.le_of_ble_eq_true rfl⟩ ⟨rfl, rfl⟩ (by exact Nat.le_of_ble_eq_true rfl) (fun b e9 => by cases e9; rfl) dX12_cite_70 ⟨Nat.le_of_ble_eq_true rfl, Nat.le_of_ble_eq_true rfl⟩ ⟨Nat.le_of_ble_eq_true rfl, Nat.le_of_ble_eq_true rfl⟩ (fun h H locs S w => ?_)
      refine W.cs (cells' := 0) (slots' := 0) rfl rfl ?_
      refine ql_aload_n (r := (some a0)) C dX12_cite_73 rfl (lv_at hl 0 rfl) ?_
      refine lv_iload_n C.1.1 C.1.2.1 dX12_cite_74 rfl (lv_at hl 2 rfl) ?_
      refine lv_bipush (v := (37 : Int32)) C.1.1 C.1.2.1 dX12_cite_75 (by decide) ?_
      refine ql_VI (As := [.int xl3, .int (37 : Int32)]) (rest := []) C S htab hlocks hl qy_X12_of qi_X12_of qs_X12_of gw_1745 (ci := 13) rfl w (fun b w => qm_X12_of l hl9 D _ b xl3 (37 : Int32) _ _ w) rfl ⟨Nat.le_of_ble_eq_true rfl, Nat.le_of_ble_eq_true rfl⟩ ⟨rfl, rfl⟩ (by exact Nat.le_of_ble_eq_true rfl) (fun b e9 => by cases e9; rfl) dX12_cite_77 ⟨Nat.le_of_ble_eq_true rfl, Nat.le_of_ble_eq_true rfl⟩ ⟨Nat.le_of_ble_eq_true rfl, Nat.le_of_ble_eq_true rfl⟩ (fun x5 h H locs S w => ?_)
      refine W.cs (cells' := 0) (slots' := 0) rfl rfl ?_
      refine lv_istore (lv' := [(4, .int x5), (0, .ref a0), (2, .int xl2), (3, .int xl3)]) C.1.1 C.1.2.1 dX12_cite_80 hl (by decide) rfl (fun ls hl => ?_)
      refine ql_aload_n (r := (some a0)) C dX12_cite_82 rfl (lv_at hl 1 rfl) ?_
      refine lv_iload_n C.1.1 C.1.2.1 dX12_cite_83 rfl (lv_at hl 3 rfl) ?_
      refine lv_bipush (v := (38 : Int32)) C.1.1 C.1.2.1 dX12_cite_84 (by decide) ?_
      refine lv_iload C.1.1 C.1.2.1 dX12_cite_86 (lv_at hl 0 rfl) ?_
      refine lv_iadd C.1.1 C.1.2.1 dX12_cite_88 ?_
      refine lv_iload_n C.1.1 C.1.2.1 dX12_cite_89 rfl (lv_at hl 2 rfl) ?_
      refine ql_VV (As := [.int xl3, .int ((38 : Int32) + x5), .int xl2]) (rest := []) C S htab hlocks hl qy_X12_lays qi_X12_lays qs_X12_lays gw_1760 (ci := 13) rfl w (fun b w => qm_X12_lays l hl9 D _ b xl3 ((38 : Int32) + x5) xl2 _ _ w) rfl ⟨Nat.le_of_ble_eq_true rfl, Nat.le_of_ble_eq_true rfl⟩ ⟨rfl, rfl⟩ (by exact Nat.le_of_ble_eq_true rfl) (fun b e9 => by cases e9; rfl) dX12_cite_90 ⟨Nat.le_of_ble_eq_true rfl, Nat.le_of_ble_eq_true rfl⟩ ⟨Nat.le_of_ble_eq_true rfl, Nat.le_of_ble_eq_true rfl⟩ (fun h H locs S w => ?_)
      refine W.cs (cells' := 0) (slots' := 0) rfl rfl ?_
      refine ql_aload_n (r := (some a0)) C dX12_cite_93 rfl (lv_at hl 1 rfl) ?_
      refine lv_iload_n C.1.1 C.1.2.1 dX12_cite_94 rfl (lv_at hl 3 rfl) ?_
      refine lv_bipush (v := (37 : Int32)) C.1.1 C.1.2.1 dX12_cite_95 (by decide) ?_
      refine lv_iload C.1.1 C.1.2.1 dX12_cite_97 (lv_at hl 0 rfl) ?_
      refine lv_iconst (v := (1 : Int32)) C.1.1 C.1.2.1 dX12_cite_99 (by decide) ?_
      refine lv_iadd C.1.1 C.1.2.1 dX12_cite_100 ?_
      refine ql_VV (As := [.int xl3, .int (37 : Int32), .int (x5 + (1 : Int32))]) (rest := []) C S htab hlocks hl qy_X12_lays qi_X12_lays qs_X12_lays gw_1760 (ci := 13) rfl w (fun b w => qm_X12_lays l hl9 D _ b xl3 (37 : Int32) (x5 + (1 : Int32)) _ _ w) rfl ⟨Nat.le_of_ble_eq_true rfl, Nat.le_of_ble_eq_true rfl⟩ ⟨rfl, rfl⟩ (by exact Nat.le_of_ble_eq_true rfl) (fun b e9 => by cases e9; rfl) dX12_cite_101 ⟨Nat.le_of_ble_eq_true rfl, Nat.le_of_ble_eq_true rfl⟩ ⟨Nat.le_of_ble_eq_true rfl, Nat.le_of_ble_eq_true rfl⟩ (fun h H locs S w => ?_)
      refine W.cs (cells' := 0) (slots' := 0) rfl rfl ?_
      refine lv_iload C.1.1 C.1.2.1 dX12_cite_104 (lv_at hl 0 rfl) ?_
      refine lv_iconst (v := (1 : Int32)) C.1.1 C.1.2.1 dX12_cite_106 (by decide) ?_
      refine lv_iadd C.1.1 C.1.2.1 dX12_cite_107 ?_
      exact ql_iret C S hr hlocks dX12_cite_108 ⟨Nat.le_of_ble_eq_true rfl, Nat.le_of_ble_eq_true rfl⟩ w
    · replace w := ql_ifn w c9
      refine lv_iconst (v := (0 : Int32)) C.1.1 C.1.2.1 dX12_cite_63 (by decide) ?_
      exact ql_iret C S hr hlocks dX12_cite_64 ⟨Nat.le_of_ble_eq_true rfl, Nat.le_of_ble_eq_true rfl⟩ w
  have hB19 : ∀ (xl2 : Int32) (xl3 : Int32) (rs0 : Option Nat) (h : ql_H) (H : Heap) (locs : List Loc) (ls : Array Slot), ql_S D h0 s H locs h → lv_has ls 5 [(0, .ref a0), (2, .int xl2), (3, .int xl3)] → qw_X12_cite_19 a0 Q xl2 xl3 rs0 h → W p l e ({ frames := 6, cells := 0, slots := 0, locals := 110 } : Room) s m ([.ref a0, .int xp1, .int xp2] : List Value).toArray below meth c H locs 0 0 (vx_MQ below (ql_Q D h0 (ql_rI Q)) (ql_X D h0 X) ([.ref a0, .int xp1, .int xp2] : List Value).toArray s 0 0 (ql_A h0)) (F0 m 19 ls [va_rf rs0]) := by
    intro xl2 xl3 rs0 h H locs ls S hl w
    unfold qw_X12_cite_19 at w
    refine lv_iconst (v := (1 : Int32)) C.1.1 C.1.2.1 dX12_cite_19 (by decide) ?_
    refine lv_goto (tgt := 57) C.1.1 C.1.2.1 dX12_cite_20 (by decide) ?_
    exact hB57 xl2 xl3 rs0 (1 : Int32) _ _ _ _ S (lv_sub hl [0, 1, 2] rfl) w
  have hB52 : ∀ (xl2 : Int32) (xl3 : Int32) (rs0 : Option Nat) (h : ql_H) (H : Heap) (locs : List Loc) (ls : Array Slot), ql_S D h0 s H locs h → lv_has ls 5 [(0, .ref a0), (2, .int xl2), (3, .int xl3)] → qw_X12_cite_52 a0 Q xl2 xl3 rs0 h → W p l e ({ frames := 6, cells := 0, slots := 0, locals := 110 } : Room) s m ([.ref a0, .int xp1, .int xp2] : List Value).toArray below meth c H locs 0 0 (vx_MQ below (ql_Q D h0 (ql_rI Q)) (ql_X D h0 X) ([.ref a0, .int xp1, .int xp2] : List Value).toArray s 0 0 (ql_A h0)) (F0 m 52 ls [va_rf rs0]) := by
    intro xl2 xl3 rs0 h H locs ls S hl w
    unfold qw_X12_cite_52 at w
    refine lv_iconst (v := (3 : Int32)) C.1.1 C.1.2.1 dX12_cite_52 (by decide) ?_
    refine lv_goto (tgt := 57) C.1.1 C.1.2.1 dX12_cite_53 (by decide) ?_
    exact hB57 xl2 xl3 rs0 (3 : Int32) _ _ _ _ S (lv_sub hl [0, 1, 2] rfl) w
  unfold qw_X12_cite at w
  refine ql_aload_n (r := (some a0)) C dX12_cite_0 rfl (lv_at hl 0 rfl) ?_
  refine lv_iload_n C.1.1 C.1.2.1 dX12_cite_1 rfl (lv_at hl 1 rfl) ?_
  refine ql_VI (As := [.int xp1]) (rest := []) C S htab hlocks hl qy_X12_placeOf qi_X12_placeOf qs_X12_placeOf gw_1772 (ci := 13) rfl w (fun b w => qm_X12_placeOf l hl9 D _ b xp1 _ _ w) rfl ⟨Nat.le_of_ble_eq_true rfl, Nat.le_of_ble_eq_true rfl⟩ ⟨rfl, rfl⟩ (by exact Nat.le_of_ble_eq_true rfl) (fun b e9 => by cases e9; rfl) dX12_cite_2 ⟨Nat.le_of_ble_eq_true rfl, Nat.le_of_ble_eq_true rfl⟩ ⟨Nat.le_of_ble_eq_true rfl, Nat.le_of_ble_eq_true rfl⟩ (fun x9 h H locs S w => ?_)
  refine W.cs (cells' := 0) (slots' := 0) rfl rfl ?_
  refine lv_istore_n (lv' := [(3, .int x9), (0, .ref a0), (1, .int xp1), (2, .int xp2)]) C.1.1 C.1.2.1 dX12_cite_5 rfl hl (by decide) rfl (fun ls hl => ?_)
  refine ql_aload_n (r := (some a0)) C dX12_cite_6 rfl (lv_at hl 1 rfl) ?_
  refine lv_iload_n C.1.1 C.1.2.1 dX12_cite_7 rfl (lv_at hl 0 rfl) ?_
  refine lv_if_lt (tgt := 19) C.1.1 C.1.2.1 dX12_cite_8 (by decide) (fun c9 => ?_) (fun c9 => ?_)
  · replace w := ql_if w c9
    exact hB19 xp2 x9 (some a0) _ _ _ _ S (lv_sub hl [1, 3, 0] rfl) w
  · replace w := ql_ifn w c9
    refine ql_aload_n (r := (some a0)) C dX12_cite_11 rfl (lv_at hl 1 rfl) ?_
    refine lv_iload_n C.1.1 C.1.2.1 dX12_cite_12 rfl (lv_at hl 3 rfl) ?_
    refine ql_VI (As := [.int xp2]) (rest := [.ref a0]) C S htab hlocks hl qy_X12_placeOf qi_X12_placeOf qs_X12_placeOf gw_1772 (ci := 13) rfl w (fun b w => qm_X12_placeOf l hl9 D _ b xp2 _ _ w) rfl ⟨Nat.le_of_ble_eq_true rfl, Nat.le_of_ble_eq_true rfl⟩ ⟨rfl, rfl⟩ (by exact Nat.le_of_ble_eq_true rfl) (fun b e9 => by cases e9; rfl) dX12_cite_13 ⟨Nat.le_of_ble_eq_true rfl, Nat.le_of_ble_eq_true rfl⟩ ⟨Nat.le_of_ble_eq_true rfl, Nat.le_of_ble_eq_true rfl⟩ (fun x11 h H locs S w => ?_)
    refine W.cs (cells' := 0) (slots' := 0) rfl rfl ?_
    refine lv_if_ge (tgt := 23) C.1.1 C.1.2.1 dX12_cite_16 (by decide) (fun c9 => ?_) (fun c9 => ?_)
    · replace w := ql_if w c9
      refine lv_iload_n C.1.1 C.1.2.1 dX12_cite_23 rfl (lv_at hl 2 rfl) ?_
      refine lv_iload_n C.1.1 C.1.2.1 dX12_cite_24 rfl (lv_at hl 3 rfl) ?_
      refine lv_icmp_ne (tgt := 32) C.1.1 C.1.2.1 dX12_cite_25 (by decide) (fun c9 => ?_) (fun c9 => ?_)
      · replace w := ql_ifn w c9
        refine ql_aload_n (r := (some a0)) C dX12_cite_32 rfl (lv_at hl 1 rfl) ?_
        refine lv_iload_n C.1.1 C.1.2.1 dX12_cite_33 rfl (lv_at hl 0 rfl) ?_
        refine lv_iload_n C.1.1 C.1.2.1 dX12_cite_34 rfl (lv_at hl 3 rfl) ?_
        refine ql_VI (As := [.int x9, .int xp2]) (rest := [.ref a0]) C S htab hlocks hl qy_X12_cited qi_X12_cited qs_X12_cited gw_1820 (ci := 13) rfl w (fun b w => qm_X12_cited l hl9 D _ b x9 xp2 _ _ w) rfl ⟨Nat.le_of_ble_eq_true rfl, Nat.le_of_ble_eq_true rfl⟩ ⟨rfl, rfl⟩ (by exact Nat.le_of_ble_eq_true rfl) (fun b e9 => by cases e9; rfl) dX12_cite_35 ⟨Nat.le_of_ble_eq_true rfl, Nat.le_of_ble_eq_true rfl⟩ ⟨Nat.le_of_ble_eq_true rfl, Nat.le_of_ble_eq_true rfl⟩ (fun x13 h H locs S w => ?_)
        refine W.cs (cells' := 0) (slots' := 0) rfl rfl ?_
        refine lv_if_ge (tgt := 52) C.1.1 C.1.2.1 dX12_cite_38 (by decide) (fun c9 => ?_) (fun c9 => ?_)
        · replace w := ql_if w c9
          exact hB52 xp2 x9 (some a0) _ _ _ _ S (lv_sub hl [1, 3, 0] rfl) w
        · replace w := ql_ifn w c9
          refine ql_aload_n (r := (some a0)) C dX12_cite_41 rfl (lv_at hl 1 rfl) ?_
          refine lv_iload_n C.1.1 C.1.2.1 dX12_cite_42 rfl (lv_at hl 0 rfl) ?_
          refine lv_bipush (v := (37 : Int32)) C.1.1 C.1.2.1 dX12_cite_43 (by decide) ?_
          refine ql_VI (As := [.int x9, .int (37 : Int32)]) (rest := [.ref a0]) C S htab hlocks hl qy_X12_of qi_X12_of qs_X12_of gw_1745 (ci := 13) rfl w (fun b w => qm_X12_of l hl9 D _ b x9 (37 : Int32) _ _ w) rfl ⟨Nat.le_of_ble_eq_true rfl, Nat.le_of_ble_eq_true rfl⟩ ⟨rfl, rfl⟩ (by exact Nat.le_of_ble_eq_true rfl) (fun b e9 => by cases e9; rfl) dX12_cite_45 ⟨Nat.le_of_ble_eq_true rfl, Nat.le_of_ble_eq_true rfl⟩ ⟨Nat.le_of_ble_eq_true rfl, Nat.le_of_ble_eq_true rfl⟩ (fun x15 h H locs S w => ?_)
          refine W.cs (cells' := 0) (slots' := 0) rfl rfl ?_
          refine lv_iconst (v := (4 : Int32)) C.1.1 C.1.2.1 dX12_cite_48 (by decide) ?_
          refine lv_icmp_ne (tgt := 56) C.1.1 C.1.2.1 dX12_cite_49 (by decide) (fun c9 => ?_) (fun c9 => ?_)
          · replace w := ql_ifn w c9
            refine lv_iconst (v := (0 : Int32)) C.1.1 C.1.2.1 dX12_cite_56 (by decide) ?_
            exact hB57 xp2 x9 (some a0) (0 : Int32) _ _ _ _ S (lv_sub hl [1, 3, 0] rfl) w
          · replace w := ql_if w c9
            exact hB52 xp2 x9 (some a0) _ _ _ _ S (lv_sub hl [1, 3, 0] rfl) w
      · replace w := ql_if w c9
        refine lv_iconst (v := (2 : Int32)) C.1.1 C.1.2.1 dX12_cite_28 (by decide) ?_
        refine lv_goto (tgt := 57) C.1.1 C.1.2.1 dX12_cite_29 (by decide) ?_
        exact hB57 xp2 x9 (some a0) (2 : Int32) _ _ _ _ S (lv_sub hl [1, 3, 0] rfl) w
    · replace w := ql_ifn w c9
      exact hB19 xp2 x9 (some a0) _ _ _ _ S (lv_sub hl [1, 3, 0] rfl) w
def qw_X12_dropsCite_11 (a0 : Nat) (Q : ql_H → Prop) : Nat → Int32 → Int32 → Int32 → ql_H → Prop
  | 0, _, _, _, _ => False
  | n + 1, xl1, xl3, xl4, h =>
    if xl3 ≤ (xl4 + (1 : Int32)) then (ql_rv h (some a0) 13 fun b0 => qw_X12_lays b0 xl1 (37 : Int32) (xl3 - (1 : Int32)) h (fun h =>
    Q h)) else (ql_rv h (some a0) 13 fun b2 => qw_X12_of b2 xl1 ((39 : Int32) + xl4) h (fun x2 h =>
    ql_rv h (some a0) 13 fun b3 => qw_X12_lays b3 xl1 ((38 : Int32) + xl4) x2 h (fun h =>
    qw_X12_dropsCite_11 a0 Q n xl1 xl3 (xl4 + (1 : Int32)) h)))
def qw_X12_dropsCite (a0 : Nat) (xp1 : Int32) (xp2 : Int32) (h : ql_H) (Q : ql_H → Prop) : Prop :=
ql_rv h (some a0) 13 fun b5 => qw_X12_of b5 xp1 (37 : Int32) h (fun x5 h =>
qw_X12_dropsCite_11 a0 Q ql_FU xp1 x5 xp2 h)
set_option maxHeartbeats 4000000 in
set_option maxRecDepth 100000 in
theorem qm_X12_dropsCite (l : Launch) (hl9 : l.stackTraces = false) (D : ql_D) (h0 : ql_H) (a0 : Nat) (xp1 : Int32) (xp2 : Int32) (Q : ql_H → Prop) (X : String → ql_H → Prop) (w : qw_X12_dropsCite a0 xp1 xp2 h0 Q) : ql_M D l yX12_dropsCite cX12_dropsCite 5 none ({ frames := 4, cells := 0, slots := 0, locals := 79 } : Room) h0 [.ref a0, .int xp1, .int xp2] (ql_rV Q) X 0 0 := by
  refine ql_ofW (by decide) (Nat.le_of_ble_eq_true rfl) ?_
  intro p e s m below meth c ls C hr hlocks hnm htab S hl
  have hl : lv_has ls 5 [(0, .ref a0), (1, .int xp1), (2, .int xp2)] := hl
  have hB11 : ∀ n : Nat, ∀ (xl1 : Int32) (xl3 : Int32) (xl4 : Int32) (h : ql_H) (H : Heap) (locs : List Loc) (ls : Array Slot), ql_S D h0 s H locs h → lv_has ls 5 [(0, .ref a0), (1, .int xl1), (3, .int xl3), (4, .int xl4)] → qw_X12_dropsCite_11 a0 Q n xl1 xl3 xl4 h → W p l e ({ frames := 4, cells := 0, slots := 0, locals := 79 } : Room) s m ([.ref a0, .int xp1, .int xp2] : List Value).toArray below meth c H locs 0 0 (vx_MQ below (ql_Q D h0 (ql_rV Q)) (ql_X D h0 X) ([.ref a0, .int xp1, .int xp2] : List Value).toArray s 0 0 (ql_A h0)) (F0 m 11 ls []) := by
    intro n
    induction n with
    | zero => intro xl1 xl3 xl4 h H locs ls S hl w; rw [qw_X12_dropsCite_11] at w; exact w.elim
    | succ n ih =>
      intro xl1 xl3 xl4 h H locs ls S hl w
      rw [qw_X12_dropsCite_11] at w
      refine lv_iload C.1.1 C.1.2.1 dX12_dropsCite_11 (lv_at hl 3 rfl) ?_
      refine lv_iconst (v := (1 : Int32)) C.1.1 C.1.2.1 dX12_dropsCite_13 (by decide) ?_
      refine lv_iadd C.1.1 C.1.2.1 dX12_dropsCite_14 ?_
      refine lv_iload_n C.1.1 C.1.2.1 dX12_dropsCite_15 rfl (lv_at hl 2 rfl) ?_
      refine lv_icmp_ge (tgt := 45) C.1.1 C.1.2.1 dX12_dropsCite_16 (by decide) (fun c9 => ?_) (fun c9 => ?_)
      · replace w := ql_if w c9
        refine ql_aload_n (r := (some a0)) C dX12_dropsCite_45 rfl (lv_at hl 0 rfl) ?_
        refine lv_iload_n C.1.1 C.1.2.1 dX12_dropsCite_46 rfl (lv_at hl 1 rfl) ?_
        refine lv_bipush (v := (37 : Int32)) C.1.1 C.1.2.1 dX12_dropsCite_47 (by decide) ?_
        refine lv_iload_n C.1.1 C.1.2.1 dX12_dropsCite_49 rfl (lv_at hl 2 rfl) ?_
        refine lv_iconst (v := (1 : Int32)) C.1.1 C.1.2.1 dX12_dropsCite_50 (by decide) ?_
        refine lv_isub C.1.1 C.1.2.1 dX12_dropsCite_51 ?_
        refine ql_VV (As := [.int xl1, .int (37 : Int32), .int (xl3 - (1 : Int32))]) (rest := []) C S htab hlocks hl qy_X12_lays qi_X12_lays qs_X12_lays gw_1760 (ci := 13) rfl w (fun b w => qm_X12_lays l hl9 D _ b xl1 (37 : Int32) (xl3 - (1 : Int32)) _ _ w) rfl ⟨Nat.le_of_ble_eq_true rfl, Nat.le_of_ble_eq_true rfl⟩ ⟨rfl, rfl⟩ (by exact Nat.le_of_ble_eq_true rfl) (fun b e9 => by cases e9; rfl) dX12_dropsCite_52 ⟨Nat.le_of_ble_eq_true rfl, Nat.le_of_ble_eq_true rfl⟩ ⟨Nat.le_of_ble_eq_true rfl, Nat.le_of_ble_eq_true rfl⟩ (fun h H locs S w => ?_)
        refine W.cs (cells' := 0) (slots' := 0) rfl rfl ?_
        exact ql_vret C S hr hlocks dX12_dropsCite_55 ⟨Nat.le_of_ble_eq_true rfl, Nat.le_of_ble_eq_true rfl⟩ w
      · replace w := ql_ifn w c9
        refine ql_aload_n (r := (some a0)) C dX12_dropsCite_19 rfl (lv_at hl 0 rfl) ?_
        refine lv_iload_n C.1.1 C.1.2.1 dX12_dropsCite_20 rfl (lv_at hl 1 rfl) ?_
        refine lv_bipush (v := (38 : Int32)) C.1.1 C.1.2.1 dX12_dropsCite_21 (by decide) ?_
        refine lv_iload C.1.1 C.1.2.1 dX12_dropsCite_23 (lv_at hl 3 rfl) ?_
        refine lv_iadd C.1.1 C.1.2.1 dX12_dropsCite_25 ?_
        refine ql_aload_n (r := (some a0)) C dX12_dropsCite_26 rfl (lv_at hl 0 rfl) ?_
        refine lv_iload_n C.1.1 C.1.2.1 dX12_dropsCite_27 rfl (lv_at hl 1 rfl) ?_
        refine lv_bipush (v := (39 : Int32)) C.1.1 C.1.2.1 dX12_dropsCite_28 (by decide) ?_
        refine lv_iload C.1.1 C.1.2.1 dX12_dropsCite_30 (lv_at hl 3 rfl) ?_
        refine lv_iadd C.1.1 C.1.2.1 dX12_dropsCite_32 ?_
        refine ql_VI (As := [.int xl1, .int ((39 : Int32) + xl4)]) (rest := [.int ((38 : Int32) + xl4), .int xl1, .ref a0]) C S htab hlocks hl qy_X12_of qi_X12_of qs_X12_of gw_1745 (ci := 13) rfl w (fun b w => qm_X12_of l hl9 D _ b xl1 ((39 : Int32) + xl4) _ _ w) rfl ⟨Nat.le_of_ble_eq_true rfl, Nat.le_of_ble_eq_true rfl⟩ ⟨rfl, rfl⟩ (by exact Nat.le_of_ble_eq_true rfl) (fun b e9 => by cases e9; rfl) dX12_dropsCite_33 ⟨Nat.le_of_ble_eq_true rfl, Nat.le_of_ble_eq_true rfl⟩ ⟨Nat.le_of_ble_eq_true rfl, Nat.le_of_ble_eq_true rfl⟩ (fun x2 h H locs S w => ?_)
        refine W.cs (cells' := 0) (slots' := 0) rfl rfl ?_
        refine ql_VV (As := [.int xl1, .int ((38 : Int32) + xl4), .int x2]) (rest := []) C S htab hlocks hl qy_X12_lays qi_X12_lays qs_X12_lays gw_1760 (ci := 13) rfl w (fun b w => qm_X12_lays l hl9 D _ b xl1 ((38 : Int32) + xl4) x2 _ _ w) rfl ⟨Nat.le_of_ble_eq_true rfl, Nat.le_of_ble_eq_true rfl⟩ ⟨rfl, rfl⟩ (by exact Nat.le_of_ble_eq_true rfl) (fun b e9 => by cases e9; rfl) dX12_dropsCite_36 ⟨Nat.le_of_ble_eq_true rfl, Nat.le_of_ble_eq_true rfl⟩ ⟨Nat.le_of_ble_eq_true rfl, Nat.le_of_ble_eq_true rfl⟩ (fun h H locs S w => ?_)
        refine W.cs (cells' := 0) (slots' := 0) rfl rfl ?_
        refine lv_iinc (v := (xl4 + (1 : Int32))) (lv' := [(4, .int (xl4 + (1 : Int32))), (0, .ref a0), (1, .int xl1), (3, .int xl3)]) C.1.1 C.1.2.1 dX12_dropsCite_39 hl (k := 3) rfl rfl (by decide) rfl (fun ls hl => ?_)
        refine lv_goto (tgt := 11) C.1.1 C.1.2.1 dX12_dropsCite_42 (by decide) ?_
        exact ih xl1 xl3 (xl4 + (1 : Int32)) _ _ _ _ S (lv_sub hl [1, 2, 3, 0] rfl) w
  unfold qw_X12_dropsCite at w
  refine ql_aload_n (r := (some a0)) C dX12_dropsCite_0 rfl (lv_at hl 0 rfl) ?_
  refine lv_iload_n C.1.1 C.1.2.1 dX12_dropsCite_1 rfl (lv_at hl 1 rfl) ?_
  refine lv_bipush (v := (37 : Int32)) C.1.1 C.1.2.1 dX12_dropsCite_2 (by decide) ?_
  refine ql_VI (As := [.int xp1, .int (37 : Int32)]) (rest := []) C S htab hlocks hl qy_X12_of qi_X12_of qs_X12_of gw_1745 (ci := 13) rfl w (fun b w => qm_X12_of l hl9 D _ b xp1 (37 : Int32) _ _ w) rfl ⟨Nat.le_of_ble_eq_true rfl, Nat.le_of_ble_eq_true rfl⟩ ⟨rfl, rfl⟩ (by exact Nat.le_of_ble_eq_true rfl) (fun b e9 => by cases e9; rfl) dX12_dropsCite_4 ⟨Nat.le_of_ble_eq_true rfl, Nat.le_of_ble_eq_true rfl⟩ ⟨Nat.le_of_ble_eq_true rfl, Nat.le_of_ble_eq_true rfl⟩ (fun x5 h H locs S w => ?_)
  refine W.cs (cells' := 0) (slots' := 0) rfl rfl ?_
  refine lv_istore_n (lv' := [(3, .int x5), (0, .ref a0), (1, .int xp1), (2, .int xp2)]) C.1.1 C.1.2.1 dX12_dropsCite_7 rfl hl (by decide) rfl (fun ls hl => ?_)
  refine lv_iload_n C.1.1 C.1.2.1 dX12_dropsCite_8 rfl (lv_at hl 3 rfl) ?_
  refine lv_istore (lv' := [(4, .int xp2), (3, .int x5), (0, .ref a0), (1, .int xp1), (2, .int xp2)]) C.1.1 C.1.2.1 dX12_dropsCite_9 hl (by decide) rfl (fun ls hl => ?_)
  exact hB11 ql_FU xp1 x5 xp2 _ _ _ _ S (lv_sub hl [2, 3, 1, 0] rfl) w
def qw_X12_uncite_25 (a0 : Nat) (Q : Int32 → ql_H → Prop) (xl2 : Int32) (xl3 : Int32) (rs0 : Option Nat) (xs1 : Int32) (h : ql_H) : Prop :=
ql_rv h rs0 13 fun b1 => qw_X12_fails b1 xs1 h (fun x1 h =>
if x1 = 0 then (ql_gR h (some a0) 13 0 fun r3 =>
ql_rv h (some a0) 13 fun b3 => qw_X12_keeps b3 r3 h (fun h =>
ql_rv h (some a0) 13 fun b5 => qw_X12_cited b5 xl3 xl2 h (fun x5 h =>
ql_rv h (some a0) 13 fun b6 => qw_X12_dropsCite b6 xl3 x5 h (fun h =>
ql_rv h (some a0) 13 fun b8 => qw_X12_of b8 xl3 (37 : Int32) h (fun x8 h =>
Q x8 h))))) else (Q (0 : Int32) h))
def qw_X12_uncite_20 (a0 : Nat) (Q : Int32 → ql_H → Prop) (xl2 : Int32) (xl3 : Int32) (rs0 : Option Nat) (h : ql_H) : Prop :=
qw_X12_uncite_25 a0 Q xl2 xl3 rs0 (1 : Int32) h
def qw_X12_uncite (a0 : Nat) (xp1 : Int32) (xp2 : Int32) (h : ql_H) (Q : Int32 → ql_H → Prop) : Prop :=
ql_rv h (some a0) 13 fun b10 => qw_X12_placeOf b10 xp1 h (fun x10 h =>
if x10 < 0 then (qw_X12_uncite_20 a0 Q xp2 x10 (some a0) h) else (ql_rv h (some a0) 13 fun b12 => qw_X12_cited b12 x10 xp2 h (fun x12 h =>
if 0 ≤ x12 then (qw_X12_uncite_25 a0 Q xp2 x10 (some a0) (0 : Int32) h) else (qw_X12_uncite_20 a0 Q xp2 x10 (some a0) h))))
set_option maxHeartbeats 4000000 in
set_option maxRecDepth 100000 in
theorem qm_X12_uncite (l : Launch) (hl9 : l.stackTraces = false) (D : ql_D) (h0 : ql_H) (a0 : Nat) (xp1 : Int32) (xp2 : Int32) (Q : Int32 → ql_H → Prop) (X : String → ql_H → Prop) (w : qw_X12_uncite a0 xp1 xp2 h0 Q) : ql_M D l yX12_uncite cX12_uncite 4 (some .int) ({ frames := 6, cells := 0, slots := 0, locals := 111 } : Room) h0 [.ref a0, .int xp1, .int xp2] (ql_rI Q) X 0 0 := by
  refine ql_ofW (by decide) (Nat.le_of_ble_eq_true rfl) ?_
  intro p e s m below meth c ls C hr hlocks hnm htab S hl
  have hl : lv_has ls 4 [(0, .ref a0), (1, .int xp1), (2, .int xp2)] := hl
  have hB25 : ∀ (xl2 : Int32) (xl3 : Int32) (rs0 : Option Nat) (xs1 : Int32) (h : ql_H) (H : Heap) (locs : List Loc) (ls : Array Slot), ql_S D h0 s H locs h → lv_has ls 4 [(0, .ref a0), (2, .int xl2), (3, .int xl3)] → qw_X12_uncite_25 a0 Q xl2 xl3 rs0 xs1 h → W p l e ({ frames := 6, cells := 0, slots := 0, locals := 111 } : Room) s m ([.ref a0, .int xp1, .int xp2] : List Value).toArray below meth c H locs 0 0 (vx_MQ below (ql_Q D h0 (ql_rI Q)) (ql_X D h0 X) ([.ref a0, .int xp1, .int xp2] : List Value).toArray s 0 0 (ql_A h0)) (F0 m 25 ls [.int xs1, va_rf rs0]) := by
    intro xl2 xl3 rs0 xs1 h H locs ls S hl w
    unfold qw_X12_uncite_25 at w
    refine ql_VI (As := [.int xs1]) (rest := []) C S htab hlocks hl qy_X12_fails qi_X12_fails qs_X12_fails gw_1749 (ci := 13) rfl w (fun b w => qm_X12_fails l hl9 D _ b xs1 _ _ w) rfl ⟨Nat.le_of_ble_eq_true rfl, Nat.le_of_ble_eq_true rfl⟩ ⟨rfl, rfl⟩ (by exact Nat.le_of_ble_eq_true rfl) (fun b e9 => by cases e9; rfl) dX12_uncite_25 ⟨Nat.le_of_ble_eq_true rfl, Nat.le_of_ble_eq_true rfl⟩ ⟨Nat.le_of_ble_eq_true rfl, Nat.le_of_ble_eq_true rfl⟩ (fun x1 h H locs S w => ?_)
    refine W.cs (cells' := 0) (slots' := 0) rfl rfl ?_
    refine lv_if_eq (tgt := 33) C.1.1 C.1.2.1 dX12_uncite_28 (by decide) (fun c9 => ?_) (fun c9 => ?_)
    · replace w := ql_if w c9
      refine ql_aload_n (r := (some a0)) C dX12_uncite_33 rfl (lv_at hl 0 rfl) ?_
      refine ql_aload_n (r := (some a0)) C dX12_uncite_34 rfl (lv_at hl 0 rfl) ?_
      refine ql_getR C S qf_13_0 gw_1668 dX12_uncite_35 w (fun r3 w => ?_)
      refine ql_VV (As := [va_rf r3]) (rest := []) C S htab hlocks hl qy_X12_keeps qi_X12_keeps qs_X12_keeps gw_1753 (ci := 13) rfl w (fun b w => qm_X12_keeps l hl9 D _ b r3 _ _ w) rfl ⟨Nat.le_of_ble_eq_true rfl, Nat.le_of_ble_eq_true rfl⟩ ⟨rfl, rfl⟩ (by exact Nat.le_of_ble_eq_true rfl) (fun b e9 => by cases e9; rfl) dX12_uncite_38 ⟨Nat.le_of_ble_eq_true rfl, Nat.le_of_ble_eq_true rfl⟩ ⟨Nat.le_of_ble_eq_true rfl, Nat.le_of_ble_eq_true rfl⟩ (fun h H locs S w => ?_)
      refine W.cs (cells' := 0) (slots' := 0) rfl rfl ?_
      refine ql_aload_n (r := (some a0)) C dX12_uncite_41 rfl (lv_at hl 0 rfl) ?_
      refine lv_iload_n C.1.1 C.1.2.1 dX12_uncite_42 rfl (lv_at hl 2 rfl) ?_
      refine ql_aload_n (r := (some a0)) C dX12_uncite_43 rfl (lv_at hl 0 rfl) ?_
      refine lv_iload_n C.1.1 C.1.2.1 dX12_uncite_44 rfl (lv_at hl 2 rfl) ?_
      refine lv_iload_n C.1.1 C.1.2.1 dX12_uncite_45 rfl (lv_at hl 1 rfl) ?_
      refine ql_VI (As := [.int xl3, .int xl2]) (rest := [.int xl3, .ref a0]) C S htab hlocks hl qy_X12_cited qi_X12_cited qs_X12_cited gw_1820 (ci := 13) rfl w (fun b w => qm_X12_cited l hl9 D _ b xl3 xl2 _ _ w) rfl ⟨Nat.le_of_ble_eq_true rfl, Nat.le_of_ble_eq_true rfl⟩ ⟨rfl, rfl⟩ (by exact Nat.le_of_ble_eq_true rfl) (fun b e9 => by cases e9; rfl) dX12_uncite_46 ⟨Nat.le_of_ble_eq_true rfl, Nat.le_of_ble_eq_true rfl⟩ ⟨Nat.le_of_ble_eq_true rfl, Nat.le_of_ble_eq_true rfl⟩ (fun x5 h H locs S w => ?_)
      refine W.cs (cells' := 0) (slots' := 0) rfl rfl ?_
      refine ql_VV (As := [.int xl3, .int x5]) (rest := []) C S htab hlocks hl qy_X12_dropsCite qi_X12_dropsCite qs_X12_dropsCite gw_1828 (ci := 13) rfl w (fun b w => qm_X12_dropsCite l hl9 D _ b xl3 x5 _ _ w) rfl ⟨Nat.le_of_ble_eq_true rfl, Nat.le_of_ble_eq_true rfl⟩ ⟨rfl, rfl⟩ (by exact Nat.le_of_ble_eq_true rfl) (fun b e9 => by cases e9; rfl) dX12_uncite_49 ⟨Nat.le_of_ble_eq_true rfl, Nat.le_of_ble_eq_true rfl⟩ ⟨Nat.le_of_ble_eq_true rfl, Nat.le_of_ble_eq_true rfl⟩ (fun h H locs S w => ?_)
      refine W.cs (cells' := 0) (slots' := 0) rfl rfl ?_
      refine ql_aload_n (r := (some a0)) C dX12_uncite_52 rfl (lv_at hl 0 rfl) ?_
      refine lv_iload_n C.1.1 C.1.2.1 dX12_uncite_53 rfl (lv_at hl 2 rfl) ?_
      refine lv_bipush (v := (37 : Int32)) C.1.1 C.1.2.1 dX12_uncite_54 (by decide) ?_
      refine ql_VI (As := [.int xl3, .int (37 : Int32)]) (rest := []) C S htab hlocks hl qy_X12_of qi_X12_of qs_X12_of gw_1745 (ci := 13) rfl w (fun b w => qm_X12_of l hl9 D _ b xl3 (37 : Int32) _ _ w) rfl ⟨Nat.le_of_ble_eq_true rfl, Nat.le_of_ble_eq_true rfl⟩ ⟨rfl, rfl⟩ (by exact Nat.le_of_ble_eq_true rfl) (fun b e9 => by cases e9; rfl) dX12_uncite_56 ⟨Nat.le_of_ble_eq_true rfl, Nat.le_of_ble_eq_true rfl⟩ ⟨Nat.le_of_ble_eq_true rfl, Nat.le_of_ble_eq_true rfl⟩ (fun x8 h H locs S w => ?_)
      refine W.cs (cells' := 0) (slots' := 0) rfl rfl ?_
      exact ql_iret C S hr hlocks dX12_uncite_59 ⟨Nat.le_of_ble_eq_true rfl, Nat.le_of_ble_eq_true rfl⟩ w
    · replace w := ql_ifn w c9
      refine lv_iconst (v := (0 : Int32)) C.1.1 C.1.2.1 dX12_uncite_31 (by decide) ?_
      exact ql_iret C S hr hlocks dX12_uncite_32 ⟨Nat.le_of_ble_eq_true rfl, Nat.le_of_ble_eq_true rfl⟩ w
  have hB20 : ∀ (xl2 : Int32) (xl3 : Int32) (rs0 : Option Nat) (h : ql_H) (H : Heap) (locs : List Loc) (ls : Array Slot), ql_S D h0 s H locs h → lv_has ls 4 [(0, .ref a0), (2, .int xl2), (3, .int xl3)] → qw_X12_uncite_20 a0 Q xl2 xl3 rs0 h → W p l e ({ frames := 6, cells := 0, slots := 0, locals := 111 } : Room) s m ([.ref a0, .int xp1, .int xp2] : List Value).toArray below meth c H locs 0 0 (vx_MQ below (ql_Q D h0 (ql_rI Q)) (ql_X D h0 X) ([.ref a0, .int xp1, .int xp2] : List Value).toArray s 0 0 (ql_A h0)) (F0 m 20 ls [va_rf rs0]) := by
    intro xl2 xl3 rs0 h H locs ls S hl w
    unfold qw_X12_uncite_20 at w
    refine lv_iconst (v := (1 : Int32)) C.1.1 C.1.2.1 dX12_uncite_20 (by decide) ?_
    refine lv_goto (tgt := 25) C.1.1 C.1.2.1 dX12_uncite_21 (by decide) ?_
    exact hB25 xl2 xl3 rs0 (1 : Int32) _ _ _ _ S (lv_sub hl [0, 1, 2] rfl) w
  unfold qw_X12_uncite at w
  refine ql_aload_n (r := (some a0)) C dX12_uncite_0 rfl (lv_at hl 0 rfl) ?_
  refine lv_iload_n C.1.1 C.1.2.1 dX12_uncite_1 rfl (lv_at hl 1 rfl) ?_
  refine ql_VI (As := [.int xp1]) (rest := []) C S htab hlocks hl qy_X12_placeOf qi_X12_placeOf qs_X12_placeOf gw_1772 (ci := 13) rfl w (fun b w => qm_X12_placeOf l hl9 D _ b xp1 _ _ w) rfl ⟨Nat.le_of_ble_eq_true rfl, Nat.le_of_ble_eq_true rfl⟩ ⟨rfl, rfl⟩ (by exact Nat.le_of_ble_eq_true rfl) (fun b e9 => by cases e9; rfl) dX12_uncite_2 ⟨Nat.le_of_ble_eq_true rfl, Nat.le_of_ble_eq_true rfl⟩ ⟨Nat.le_of_ble_eq_true rfl, Nat.le_of_ble_eq_true rfl⟩ (fun x10 h H locs S w => ?_)
  refine W.cs (cells' := 0) (slots' := 0) rfl rfl ?_
  refine lv_istore_n (lv' := [(3, .int x10), (0, .ref a0), (1, .int xp1), (2, .int xp2)]) C.1.1 C.1.2.1 dX12_uncite_5 rfl hl (by decide) rfl (fun ls hl => ?_)
  refine ql_aload_n (r := (some a0)) C dX12_uncite_6 rfl (lv_at hl 1 rfl) ?_
  refine lv_iload_n C.1.1 C.1.2.1 dX12_uncite_7 rfl (lv_at hl 0 rfl) ?_
  refine lv_if_lt (tgt := 20) C.1.1 C.1.2.1 dX12_uncite_8 (by decide) (fun c9 => ?_) (fun c9 => ?_)
  · replace w := ql_if w c9
    exact hB20 xp2 x10 (some a0) _ _ _ _ S (lv_sub hl [1, 3, 0] rfl) w
  · replace w := ql_ifn w c9
    refine ql_aload_n (r := (some a0)) C dX12_uncite_11 rfl (lv_at hl 1 rfl) ?_
    refine lv_iload_n C.1.1 C.1.2.1 dX12_uncite_12 rfl (lv_at hl 0 rfl) ?_
    refine lv_iload_n C.1.1 C.1.2.1 dX12_uncite_13 rfl (lv_at hl 3 rfl) ?_
    refine ql_VI (As := [.int x10, .int xp2]) (rest := [.ref a0]) C S htab hlocks hl qy_X12_cited qi_X12_cited qs_X12_cited gw_1820 (ci := 13) rfl w (fun b w => qm_X12_cited l hl9 D _ b x10 xp2 _ _ w) rfl ⟨Nat.le_of_ble_eq_true rfl, Nat.le_of_ble_eq_true rfl⟩ ⟨rfl, rfl⟩ (by exact Nat.le_of_ble_eq_true rfl) (fun b e9 => by cases e9; rfl) dX12_uncite_14 ⟨Nat.le_of_ble_eq_true rfl, Nat.le_of_ble_eq_true rfl⟩ ⟨Nat.le_of_ble_eq_true rfl, Nat.le_of_ble_eq_true rfl⟩ (fun x12 h H locs S w => ?_)
    refine W.cs (cells' := 0) (slots' := 0) rfl rfl ?_
    refine lv_if_ge (tgt := 24) C.1.1 C.1.2.1 dX12_uncite_17 (by decide) (fun c9 => ?_) (fun c9 => ?_)
    · replace w := ql_if w c9
      refine lv_iconst (v := (0 : Int32)) C.1.1 C.1.2.1 dX12_uncite_24 (by decide) ?_
      exact hB25 xp2 x10 (some a0) (0 : Int32) _ _ _ _ S (lv_sub hl [1, 3, 0] rfl) w
    · replace w := ql_ifn w c9
      exact hB20 xp2 x10 (some a0) _ _ _ _ S (lv_sub hl [1, 3, 0] rfl) w
def qw_X12_drops_18 (a0 : Nat) (Q : ql_H → Prop) : Nat → Int32 → ql_H → Prop
  | 0, _, _ => False
  | n + 1, xl2, h =>
    ql_gR h (some a0) 13 0 fun r1 =>
    ql_lI h r1 0 (0 : Int32) fun x2 =>
    if ((13 : Int32) + ((42 : Int32) * x2)) ≤ xl2 then (Q h) else (ql_gR h (some a0) 13 0 fun r3 =>
    ql_gR h (some a0) 13 0 fun r4 =>
    ql_lI h r4 0 (xl2 + (42 : Int32)) fun x5 =>
    ql_sI h r3 0 xl2 x5 fun h =>
    qw_X12_drops_18 a0 Q n (xl2 + (1 : Int32)) h)
def qw_X12_drops (a0 : Nat) (xp1 : Int32) (h : ql_H) (Q : ql_H → Prop) : Prop :=
ql_gR h (some a0) 13 0 fun r6 =>
ql_lI h r6 0 (0 : Int32) fun x7 =>
ql_sI h r6 0 (0 : Int32) (x7 - (1 : Int32)) fun h =>
qw_X12_drops_18 a0 Q ql_FU ((13 : Int32) + ((42 : Int32) * xp1)) h
set_option maxHeartbeats 4000000 in
set_option maxRecDepth 100000 in
theorem qm_X12_drops (l : Launch) (hl9 : l.stackTraces = false) (D : ql_D) (h0 : ql_H) (a0 : Nat) (xp1 : Int32) (Q : ql_H → Prop) (X : String → ql_H → Prop) (w : qw_X12_drops a0 xp1 h0 Q) : ql_M D l yX12_drops cX12_drops 3 none ({ frames := 2, cells := 0, slots := 0, locals := 48 } : Room) h0 [.ref a0, .int xp1] (ql_rV Q) X 0 0 := by
  refine ql_ofW (by decide) (Nat.le_of_ble_eq_true rfl) ?_
  intro p e s m below meth c ls C hr hlocks hnm htab S hl
  have hl : lv_has ls 3 [(0, .ref a0), (1, .int xp1)] := hl
  have hB18 : ∀ n : Nat, ∀ (xl2 : Int32) (h : ql_H) (H : Heap) (locs : List Loc) (ls : Array Slot), ql_S D h0 s H locs h → lv_has ls 3 [(0, .ref a0), (2, .int xl2)] → qw_X12_drops_18 a0 Q n xl2 h → W p l e ({ frames := 2, cells := 0, slots := 0, locals := 48 } : Room) s m ([.ref a0, .int xp1] : List Value).toArray below meth c H locs 0 0 (vx_MQ below (ql_Q D h0 (ql_rV Q)) (ql_X D h0 X) ([.ref a0, .int xp1] : List Value).toArray s 0 0 (ql_A h0)) (F0 m 18 ls []) := by
    intro n
    induction n with
    | zero => intro xl2 h H locs ls S hl w; rw [qw_X12_drops_18] at w; exact w.elim
    | succ n ih =>
      intro xl2 h H locs ls S hl w
      rw [qw_X12_drops_18] at w
      refine lv_iload_n C.1.1 C.1.2.1 dX12_drops_18 rfl (lv_at hl 1 rfl) ?_
      refine lv_bipush (v := (13 : Int32)) C.1.1 C.1.2.1 dX12_drops_19 (by decide) ?_
      refine lv_bipush (v := (42 : Int32)) C.1.1 C.1.2.1 dX12_drops_21 (by decide) ?_
      refine ql_aload_n (r := (some a0)) C dX12_drops_23 rfl (lv_at hl 0 rfl) ?_
      refine ql_getR C S qf_13_0 gw_1668 dX12_drops_24 w (fun r1 w => ?_)
      refine lv_iconst (v := (0 : Int32)) C.1.1 C.1.2.1 dX12_drops_27 (by decide) ?_
      refine ql_iald C S dX12_drops_28 w (fun x2 w => ?_)
      refine lv_imul C.1.1 C.1.2.1 dX12_drops_29 ?_
      refine lv_iadd C.1.1 C.1.2.1 dX12_drops_30 ?_
      refine lv_icmp_ge (tgt := 55) C.1.1 C.1.2.1 dX12_drops_31 (by decide) (fun c9 => ?_) (fun c9 => ?_)
      · replace w := ql_if w c9
        exact ql_vret C S hr hlocks dX12_drops_55 ⟨Nat.le_of_ble_eq_true rfl, Nat.le_of_ble_eq_true rfl⟩ w
      · replace w := ql_ifn w c9
        refine ql_aload_n (r := (some a0)) C dX12_drops_34 rfl (lv_at hl 0 rfl) ?_
        refine ql_getR C S qf_13_0 gw_1668 dX12_drops_35 w (fun r3 w => ?_)
        refine lv_iload_n C.1.1 C.1.2.1 dX12_drops_38 rfl (lv_at hl 1 rfl) ?_
        refine ql_aload_n (r := (some a0)) C dX12_drops_39 rfl (lv_at hl 0 rfl) ?_
        refine ql_getR C S qf_13_0 gw_1668 dX12_drops_40 w (fun r4 w => ?_)
        refine lv_iload_n C.1.1 C.1.2.1 dX12_drops_43 rfl (lv_at hl 1 rfl) ?_
        refine lv_bipush (v := (42 : Int32)) C.1.1 C.1.2.1 dX12_drops_44 (by decide) ?_
        refine lv_iadd C.1.1 C.1.2.1 dX12_drops_46 ?_
        refine ql_iald C S dX12_drops_47 w (fun x5 w => ?_)
        refine ql_iast C S dX12_drops_48 w (fun h H locs S w => ?_)
        refine lv_iinc (v := (xl2 + (1 : Int32))) (lv' := [(2, .int (xl2 + (1 : Int32))), (0, .ref a0)]) C.1.1 C.1.2.1 dX12_drops_49 hl (k := 1) rfl rfl (by decide) rfl (fun ls hl => ?_)
        refine lv_goto (tgt := 18) C.1.1 C.1.2.1 dX12_drops_52 (by decide) ?_
        exact ih (xl2 + (1 : Int32)) _ _ _ _ S (lv_sub hl [1, 0] rfl) w
  unfold qw_X12_drops at w
  refine ql_aload_n (r := (some a0)) C dX12_drops_0 rfl (lv_at hl 0 rfl) ?_
  refine ql_getR C S qf_13_0 gw_1668 dX12_drops_1 w (fun r6 w => ?_)
  refine lv_iconst (v := (0 : Int32)) C.1.1 C.1.2.1 dX12_drops_4 (by decide) ?_
  refine lv_dup2_11 C.1.1 C.1.2.1 dX12_drops_5 rfl (ql_catR _) ?_
  refine ql_iald C S dX12_drops_6 w (fun x7 w => ?_)
  refine lv_iconst (v := (1 : Int32)) C.1.1 C.1.2.1 dX12_drops_7 (by decide) ?_
  refine lv_isub C.1.1 C.1.2.1 dX12_drops_8 ?_
  refine ql_iast C S dX12_drops_9 w (fun h H locs S w => ?_)
  refine lv_bipush (v := (13 : Int32)) C.1.1 C.1.2.1 dX12_drops_10 (by decide) ?_
  refine lv_bipush (v := (42 : Int32)) C.1.1 C.1.2.1 dX12_drops_12 (by decide) ?_
  refine lv_iload_n C.1.1 C.1.2.1 dX12_drops_14 rfl (lv_at hl 1 rfl) ?_
  refine lv_imul C.1.1 C.1.2.1 dX12_drops_15 ?_
  refine lv_iadd C.1.1 C.1.2.1 dX12_drops_16 ?_
  refine lv_istore_n (lv' := [(2, .int ((13 : Int32) + ((42 : Int32) * xp1))), (0, .ref a0), (1, .int xp1)]) C.1.1 C.1.2.1 dX12_drops_17 rfl hl (by decide) rfl (fun ls hl => ?_)
  exact hB18 ql_FU ((13 : Int32) + ((42 : Int32) * xp1)) _ _ _ _ S (lv_sub hl [1, 0] rfl) w
def qw_X12_repeal_16 (a0 : Nat) (Q : Int32 → ql_H → Prop) (xl2 : Int32) (rs0 : Option Nat) (xs1 : Int32) (h : ql_H) : Prop :=
ql_rv h rs0 13 fun b1 => qw_X12_fails b1 xs1 h (fun x1 h =>
if x1 = 0 then (ql_gR h (some a0) 13 0 fun r3 =>
ql_rv h (some a0) 13 fun b3 => qw_X12_keeps b3 r3 h (fun h =>
ql_rv h (some a0) 13 fun b4 => qw_X12_drops b4 xl2 h (fun h =>
ql_gR h (some a0) 13 0 fun r6 =>
ql_lI h r6 0 (4 : Int32) fun x7 =>
ql_sI h r6 0 (4 : Int32) (x7 + (1 : Int32)) fun h =>
ql_gR h (some a0) 13 0 fun r8 =>
ql_lI h r8 0 (0 : Int32) fun x9 =>
Q x9 h))) else (Q (0 : Int32) h))
def qw_X12_repeal (a0 : Nat) (xp1 : Int32) (h : ql_H) (Q : Int32 → ql_H → Prop) : Prop :=
ql_rv h (some a0) 13 fun b10 => qw_X12_placeOf b10 xp1 h (fun x10 h =>
if 0 ≤ x10 then (qw_X12_repeal_16 a0 Q x10 (some a0) (0 : Int32) h) else (qw_X12_repeal_16 a0 Q x10 (some a0) (1 : Int32) h))
set_option maxHeartbeats 4000000 in
set_option maxRecDepth 100000 in
theorem qm_X12_repeal (l : Launch) (hl9 : l.stackTraces = false) (D : ql_D) (h0 : ql_H) (a0 : Nat) (xp1 : Int32) (Q : Int32 → ql_H → Prop) (X : String → ql_H → Prop) (w : qw_X12_repeal a0 xp1 h0 Q) : ql_M D l yX12_repeal cX12_repeal 3 (some .int) ({ frames := 6, cells := 0, slots := 0, locals := 110 } : Room) h0 [.ref a0, .int xp1] (ql_rI Q) X 0 0 := by
  refine ql_ofW (by decide) (Nat.le_of_ble_eq_true rfl) ?_
  intro p e s m below meth c ls C hr hlocks hnm htab S hl
  have hl : lv_has ls 3 [(0, .ref a0), (1, .int xp1)] := hl
  have hB16 : ∀ (xl2 : Int32) (rs0 : Option Nat) (xs1 : Int32) (h : ql_H) (H : Heap) (locs : List Loc) (ls : Array Slot), ql_S D h0 s H locs h → lv_has ls 3 [(0, .ref a0), (2, .int xl2)] → qw_X12_repeal_16 a0 Q xl2 rs0 xs1 h → W p l e ({ frames := 6, cells := 0, slots := 0, locals := 110 } : Room) s m ([.ref a0, .int xp1] : List Value).toArray below meth c H locs 0 0 (vx_MQ below (ql_Q D h0 (ql_rI Q)) (ql_X D h0 X) ([.ref a0, .int xp1] : List Value).toArray s 0 0 (ql_A h0)) (F0 m 16 ls [.int xs1, va_rf rs0]) := by
    intro xl2 rs0 xs1 h H locs ls S hl w
    unfold qw_X12_repeal_16 at w
    refine ql_VI (As := [.int xs1]) (rest := []) C S htab hlocks hl qy_X12_fails qi_X12_fails qs_X12_fails gw_1749 (ci := 13) rfl w (fun b w => qm_X12_fails l hl9 D _ b xs1 _ _ w) rfl ⟨Nat.le_of_ble_eq_true rfl, Nat.le_of_ble_eq_true rfl⟩ ⟨rfl, rfl⟩ (by exact Nat.le_of_ble_eq_true rfl) (fun b e9 => by cases e9; rfl) dX12_repeal_16 ⟨Nat.le_of_ble_eq_true rfl, Nat.le_of_ble_eq_true rfl⟩ ⟨Nat.le_of_ble_eq_true rfl, Nat.le_of_ble_eq_true rfl⟩ (fun x1 h H locs S w => ?_)
    refine W.cs (cells' := 0) (slots' := 0) rfl rfl ?_
    refine lv_if_eq (tgt := 24) C.1.1 C.1.2.1 dX12_repeal_19 (by decide) (fun c9 => ?_) (fun c9 => ?_)
    · replace w := ql_if w c9
      refine ql_aload_n (r := (some a0)) C dX12_repeal_24 rfl (lv_at hl 0 rfl) ?_
      refine ql_aload_n (r := (some a0)) C dX12_repeal_25 rfl (lv_at hl 0 rfl) ?_
      refine ql_getR C S qf_13_0 gw_1668 dX12_repeal_26 w (fun r3 w => ?_)
      refine ql_VV (As := [va_rf r3]) (rest := []) C S htab hlocks hl qy_X12_keeps qi_X12_keeps qs_X12_keeps gw_1753 (ci := 13) rfl w (fun b w => qm_X12_keeps l hl9 D _ b r3 _ _ w) rfl ⟨Nat.le_of_ble_eq_true rfl, Nat.le_of_ble_eq_true rfl⟩ ⟨rfl, rfl⟩ (by exact Nat.le_of_ble_eq_true rfl) (fun b e9 => by cases e9; rfl) dX12_repeal_29 ⟨Nat.le_of_ble_eq_true rfl, Nat.le_of_ble_eq_true rfl⟩ ⟨Nat.le_of_ble_eq_true rfl, Nat.le_of_ble_eq_true rfl⟩ (fun h H locs S w => ?_)
      refine W.cs (cells' := 0) (slots' := 0) rfl rfl ?_
      refine ql_aload_n (r := (some a0)) C dX12_repeal_32 rfl (lv_at hl 0 rfl) ?_
      refine lv_iload_n C.1.1 C.1.2.1 dX12_repeal_33 rfl (lv_at hl 1 rfl) ?_
      refine ql_VV (As := [.int xl2]) (rest := []) C S htab hlocks hl qy_X12_drops qi_X12_drops qs_X12_drops gw_1836 (ci := 13) rfl w (fun b w => qm_X12_drops l hl9 D _ b xl2 _ _ w) rfl ⟨Nat.le_of_ble_eq_true rfl, Nat.le_of_ble_eq_true rfl⟩ ⟨rfl, rfl⟩ (by exact Nat.le_of_ble_eq_true rfl) (fun b e9 => by cases e9; rfl) dX12_repeal_34 ⟨Nat.le_of_ble_eq_true rfl, Nat.le_of_ble_eq_true rfl⟩ ⟨Nat.le_of_ble_eq_true rfl, Nat.le_of_ble_eq_true rfl⟩ (fun h H locs S w => ?_)
      refine W.cs (cells' := 0) (slots' := 0) rfl rfl ?_
      refine ql_aload_n (r := (some a0)) C dX12_repeal_37 rfl (lv_at hl 0 rfl) ?_
      refine ql_getR C S qf_13_0 gw_1668 dX12_repeal_38 w (fun r6 w => ?_)
      refine lv_iconst (v := (4 : Int32)) C.1.1 C.1.2.1 dX12_repeal_41 (by decide) ?_
      refine lv_dup2_11 C.1.1 C.1.2.1 dX12_repeal_42 rfl (ql_catR _) ?_
      refine ql_iald C S dX12_repeal_43 w (fun x7 w => ?_)
      refine lv_iconst (v := (1 : Int32)) C.1.1 C.1.2.1 dX12_repeal_44 (by decide) ?_
      refine lv_iadd C.1.1 C.1.2.1 dX12_repeal_45 ?_
      refine ql_iast C S dX12_repeal_46 w (fun h H locs S w => ?_)
      refine ql_aload_n (r := (some a0)) C dX12_repeal_47 rfl (lv_at hl 0 rfl) ?_
      refine ql_getR C S qf_13_0 gw_1668 dX12_repeal_48 w (fun r8 w => ?_)
      refine lv_iconst (v := (0 : Int32)) C.1.1 C.1.2.1 dX12_repeal_51 (by decide) ?_
      refine ql_iald C S dX12_repeal_52 w (fun x9 w => ?_)
      exact ql_iret C S hr hlocks dX12_repeal_53 ⟨Nat.le_of_ble_eq_true rfl, Nat.le_of_ble_eq_true rfl⟩ w
    · replace w := ql_ifn w c9
      refine lv_iconst (v := (0 : Int32)) C.1.1 C.1.2.1 dX12_repeal_22 (by decide) ?_
      exact ql_iret C S hr hlocks dX12_repeal_23 ⟨Nat.le_of_ble_eq_true rfl, Nat.le_of_ble_eq_true rfl⟩ w
  unfold qw_X12_repeal at w
  refine ql_aload_n (r := (some a0)) C dX12_repeal_0 rfl (lv_at hl 0 rfl) ?_
  refine lv_iload_n C.1.1 C.1.2.1 dX12_repeal_1 rfl (lv_at hl 1 rfl) ?_
  refine ql_VI (As := [.int xp1]) (rest := []) C S htab hlocks hl qy_X12_placeOf qi_X12_placeOf qs_X12_placeOf gw_1772 (ci := 13) rfl w (fun b w => qm_X12_placeOf l hl9 D _ b xp1 _ _ w) rfl ⟨Nat.le_of_ble_eq_true rfl, Nat.le_of_ble_eq_true rfl⟩ ⟨rfl, rfl⟩ (by exact Nat.le_of_ble_eq_true rfl) (fun b e9 => by cases e9; rfl) dX12_repeal_2 ⟨Nat.le_of_ble_eq_true rfl, Nat.le_of_ble_eq_true rfl⟩ ⟨Nat.le_of_ble_eq_true rfl, Nat.le_of_ble_eq_true rfl⟩ (fun x10 h H locs S w => ?_)
  refine W.cs (cells' := 0) (slots' := 0) rfl rfl ?_
  refine lv_istore_n (lv' := [(2, .int x10), (0, .ref a0), (1, .int xp1)]) C.1.1 C.1.2.1 dX12_repeal_5 rfl hl (by decide) rfl (fun ls hl => ?_)
  refine ql_aload_n (r := (some a0)) C dX12_repeal_6 rfl (lv_at hl 1 rfl) ?_
  refine lv_iload_n C.1.1 C.1.2.1 dX12_repeal_7 rfl (lv_at hl 0 rfl) ?_
  refine lv_if_ge (tgt := 15) C.1.1 C.1.2.1 dX12_repeal_8 (by decide) (fun c9 => ?_) (fun c9 => ?_)
  · replace w := ql_if w c9
    refine lv_iconst (v := (0 : Int32)) C.1.1 C.1.2.1 dX12_repeal_15 (by decide) ?_
    exact hB16 x10 (some a0) (0 : Int32) _ _ _ _ S (lv_sub hl [1, 0] rfl) w
  · replace w := ql_ifn w c9
    refine lv_iconst (v := (1 : Int32)) C.1.1 C.1.2.1 dX12_repeal_11 (by decide) ?_
    refine lv_goto (tgt := 16) C.1.1 C.1.2.1 dX12_repeal_12 (by decide) ?_
    exact hB16 x10 (some a0) (1 : Int32) _ _ _ _ S (lv_sub hl [1, 0] rfl) w
def qw_X12_sectionsBefore_35 (a0 : Nat) (Q : Int32 → ql_H → Prop) (k4 : Int32 → Int32 → Int32 → ql_H → Prop) (xl1 : Int32) (xl3 : Int32) (xs0 : Int32) (xs1 : Int32) (h : ql_H) : Prop :=
k4 xl1 (xs0 + xs1) (xl3 + (1 : Int32)) h
def qw_X12_sectionsBefore_4 (a0 : Nat) (Q : Int32 → ql_H → Prop) : Nat → Int32 → Int32 → Int32 → ql_H → Prop
  | 0, _, _, _, _ => False
  | n + 1, xl1, xl2, xl3, h =>
    ql_gR h (some a0) 13 0 fun r1 =>
    ql_lI h r1 0 (0 : Int32) fun x2 =>
    if x2 ≤ xl3 then (Q xl2 h) else (ql_rv h (some a0) 13 fun b3 => qw_X12_of b3 xl3 (1 : Int32) h (fun x3 h =>
    ql_rv h (some a0) 13 fun b5 => qw_X12_of b5 xl1 (1 : Int32) h (fun x5 h =>
    if x5 ≤ x3 then (qw_X12_sectionsBefore_35 a0 Q (qw_X12_sectionsBefore_4 a0 Q n) xl1 xl3 xl2 (0 : Int32) h) else (qw_X12_sectionsBefore_35 a0 Q (qw_X12_sectionsBefore_4 a0 Q n) xl1 xl3 xl2 (1 : Int32) h))))
def qw_X12_sectionsBefore (a0 : Nat) (xp1 : Int32) (h : ql_H) (Q : Int32 → ql_H → Prop) : Prop :=
qw_X12_sectionsBefore_4 a0 Q ql_FU xp1 (0 : Int32) (0 : Int32) h
set_option maxHeartbeats 4000000 in
set_option maxRecDepth 100000 in
theorem qm_X12_sectionsBefore (l : Launch) (hl9 : l.stackTraces = false) (D : ql_D) (h0 : ql_H) (a0 : Nat) (xp1 : Int32) (Q : Int32 → ql_H → Prop) (X : String → ql_H → Prop) (w : qw_X12_sectionsBefore a0 xp1 h0 Q) : ql_M D l yX12_sectionsBefore cX12_sectionsBefore 4 (some .int) ({ frames := 4, cells := 0, slots := 0, locals := 78 } : Room) h0 [.ref a0, .int xp1] (ql_rI Q) X 0 0 := by
  refine ql_ofW (by decide) (Nat.le_of_ble_eq_true rfl) ?_
  intro p e s m below meth c ls C hr hlocks hnm htab S hl
  have hl : lv_has ls 4 [(0, .ref a0), (1, .int xp1)] := hl
  have hB35 : ∀ (k4 : Int32 → Int32 → Int32 → ql_H → Prop) (hk4 : ∀ (xl1 : Int32) (xl2 : Int32) (xl3 : Int32) (h : ql_H) (H : Heap) (locs : List Loc) (ls : Array Slot), ql_S D h0 s H locs h → lv_has ls 4 [(0, .ref a0), (1, .int xl1), (2, .int xl2), (3, .int xl3)] → k4 xl1 xl2 xl3 h → W p l e ({ frames := 4, cells := 0, slots := 0, locals := 78 } : Room) s m ([.ref a0, .int xp1] : List Value).toArray below meth c H locs 0 0 (vx_MQ below (ql_Q D h0 (ql_rI Q)) (ql_X D h0 X) ([.ref a0, .int xp1] : List Value).toArray s 0 0 (ql_A h0)) (F0 m 4 ls [])) , ∀ (xl1 : Int32) (xl3 : Int32) (xs0 : Int32) (xs1 : Int32) (h : ql_H) (H : Heap) (locs : List Loc) (ls : Array Slot), ql_S D h0 s H locs h → lv_has ls 4 [(0, .ref a0), (1, .int xl1), (3, .int xl3)] → qw_X12_sectionsBefore_35 a0 Q k4 xl1 xl3 xs0 xs1 h → W p l e ({ frames := 4, cells := 0, slots := 0, locals := 78 } : Room) s m ([.ref a0, .int xp1] : List Value).toArray below meth c H locs 0 0 (vx_MQ below (ql_Q D h0 (ql_rI Q)) (ql_X D h0 X) ([.ref a0, .int xp1] : List Value).toArray s 0 0 (ql_A h0)) (F0 m 35 ls [.int xs1, .int xs0]) := by
    intro k4 hk4 xl1 xl3 xs0 xs1 h H locs ls S hl w
    unfold qw_X12_sectionsBefore_35 at w
    refine lv_iadd C.1.1 C.1.2.1 dX12_sectionsBefore_35 ?_
    refine lv_istore_n (lv' := [(2, .int (xs0 + xs1)), (0, .ref a0), (1, .int xl1), (3, .int xl3)]) C.1.1 C.1.2.1 dX12_sectionsBefore_36 rfl hl (by decide) rfl (fun ls hl => ?_)
    refine lv_iinc (v := (xl3 + (1 : Int32))) (lv' := [(3, .int (xl3 + (1 : Int32))), (2, .int (xs0 + xs1)), (0, .ref a0), (1, .int xl1)]) C.1.1 C.1.2.1 dX12_sectionsBefore_37 hl (k := 3) rfl rfl (by decide) rfl (fun ls hl => ?_)
    refine lv_goto (tgt := 4) C.1.1 C.1.2.1 dX12_sectionsBefore_40 (by decide) ?_
    exact hk4 xl1 (xs0 + xs1) (xl3 + (1 : Int32)) _ _ _ _ S (lv_sub hl [2, 3, 1, 0] rfl) w
  have hB4 : ∀ n : Nat, ∀ (xl1 : Int32) (xl2 : Int32) (xl3 : Int32) (h : ql_H) (H : Heap) (locs : List Loc) (ls : Array Slot), ql_S D h0 s H locs h → lv_has ls 4 [(0, .ref a0), (1, .int xl1), (2, .int xl2), (3, .int xl3)] → qw_X12_sectionsBefore_4 a0 Q n xl1 xl2 xl3 h → W p l e ({ frames := 4, cells := 0, slots := 0, locals := 78 } : Room) s m ([.ref a0, .int xp1] : List Value).toArray below meth c H locs 0 0 (vx_MQ below (ql_Q D h0 (ql_rI Q)) (ql_X D h0 X) ([.ref a0, .int xp1] : List Value).toArray s 0 0 (ql_A h0)) (F0 m 4 ls []) := by
    intro n
    induction n with
    | zero => intro xl1 xl2 xl3 h H locs ls S hl w; rw [qw_X12_sectionsBefore_4] at w; exact w.elim
    | succ n ih =>
      intro xl1 xl2 xl3 h H locs ls S hl w
      rw [qw_X12_sectionsBefore_4] at w
      refine lv_iload_n C.1.1 C.1.2.1 dX12_sectionsBefore_4 rfl (lv_at hl 3 rfl) ?_
      refine ql_aload_n (r := (some a0)) C dX12_sectionsBefore_5 rfl (lv_at hl 0 rfl) ?_
      refine ql_getR C S qf_13_0 gw_1668 dX12_sectionsBefore_6 w (fun r1 w => ?_)
      refine lv_iconst (v := (0 : Int32)) C.1.1 C.1.2.1 dX12_sectionsBefore_9 (by decide) ?_
      refine ql_iald C S dX12_sectionsBefore_10 w (fun x2 w => ?_)
      refine lv_icmp_ge (tgt := 43) C.1.1 C.1.2.1 dX12_sectionsBefore_11 (by decide) (fun c9 => ?_) (fun c9 => ?_)
      · replace w := ql_if w c9
        refine lv_iload_n C.1.1 C.1.2.1 dX12_sectionsBefore_43 rfl (lv_at hl 2 rfl) ?_
        exact ql_iret C S hr hlocks dX12_sectionsBefore_44 ⟨Nat.le_of_ble_eq_true rfl, Nat.le_of_ble_eq_true rfl⟩ w
      · replace w := ql_ifn w c9
        refine lv_iload_n C.1.1 C.1.2.1 dX12_sectionsBefore_14 rfl (lv_at hl 2 rfl) ?_
        refine ql_aload_n (r := (some a0)) C dX12_sectionsBefore_15 rfl (lv_at hl 0 rfl) ?_
        refine lv_iload_n C.1.1 C.1.2.1 dX12_sectionsBefore_16 rfl (lv_at hl 3 rfl) ?_
        refine lv_iconst (v := (1 : Int32)) C.1.1 C.1.2.1 dX12_sectionsBefore_17 (by decide) ?_
        refine ql_VI (As := [.int xl3, .int (1 : Int32)]) (rest := [.int xl2]) C S htab hlocks hl qy_X12_of qi_X12_of qs_X12_of gw_1745 (ci := 13) rfl w (fun b w => qm_X12_of l hl9 D _ b xl3 (1 : Int32) _ _ w) rfl ⟨Nat.le_of_ble_eq_true rfl, Nat.le_of_ble_eq_true rfl⟩ ⟨rfl, rfl⟩ (by exact Nat.le_of_ble_eq_true rfl) (fun b e9 => by cases e9; rfl) dX12_sectionsBefore_18 ⟨Nat.le_of_ble_eq_true rfl, Nat.le_of_ble_eq_true rfl⟩ ⟨Nat.le_of_ble_eq_true rfl, Nat.le_of_ble_eq_true rfl⟩ (fun x3 h H locs S w => ?_)
        refine W.cs (cells' := 0) (slots' := 0) rfl rfl ?_
        refine ql_aload_n (r := (some a0)) C dX12_sectionsBefore_21 rfl (lv_at hl 0 rfl) ?_
        refine lv_iload_n C.1.1 C.1.2.1 dX12_sectionsBefore_22 rfl (lv_at hl 1 rfl) ?_
        refine lv_iconst (v := (1 : Int32)) C.1.1 C.1.2.1 dX12_sectionsBefore_23 (by decide) ?_
        refine ql_VI (As := [.int xl1, .int (1 : Int32)]) (rest := [.int x3, .int xl2]) C S htab hlocks hl qy_X12_of qi_X12_of qs_X12_of gw_1745 (ci := 13) rfl w (fun b w => qm_X12_of l hl9 D _ b xl1 (1 : Int32) _ _ w) rfl ⟨Nat.le_of_ble_eq_true rfl, Nat.le_of_ble_eq_true rfl⟩ ⟨rfl, rfl⟩ (by exact Nat.le_of_ble_eq_true rfl) (fun b e9 => by cases e9; rfl) dX12_sectionsBefore_24 ⟨Nat.le_of_ble_eq_true rfl, Nat.le_of_ble_eq_true rfl⟩ ⟨Nat.le_of_ble_eq_true rfl, Nat.le_of_ble_eq_true rfl⟩ (fun x5 h H locs S w => ?_)
        refine W.cs (cells' := 0) (slots' := 0) rfl rfl ?_
        refine lv_icmp_ge (tgt := 34) C.1.1 C.1.2.1 dX12_sectionsBefore_27 (by decide) (fun c9 => ?_) (fun c9 => ?_)
        · replace w := ql_if w c9
          refine lv_iconst (v := (0 : Int32)) C.1.1 C.1.2.1 dX12_sectionsBefore_34 (by decide) ?_
          exact hB35 (qw_X12_sectionsBefore_4 a0 Q n) ih xl1 xl3 xl2 (0 : Int32) _ _ _ _ S (lv_sub hl [0, 1, 3] rfl) w
        · replace w := ql_ifn w c9
          refine lv_iconst (v := (1 : Int32)) C.1.1 C.1.2.1 dX12_sectionsBefore_30 (by decide) ?_
          refine lv_goto (tgt := 35) C.1.1 C.1.2.1 dX12_sectionsBefore_31 (by decide) ?_
          exact hB35 (qw_X12_sectionsBefore_4 a0 Q n) ih xl1 xl3 xl2 (1 : Int32) _ _ _ _ S (lv_sub hl [0, 1, 3] rfl) w
  unfold qw_X12_sectionsBefore at w
  refine lv_iconst (v := (0 : Int32)) C.1.1 C.1.2.1 dX12_sectionsBefore_0 (by decide) ?_
  refine lv_istore_n (lv' := [(2, .int (0 : Int32)), (0, .ref a0), (1, .int xp1)]) C.1.1 C.1.2.1 dX12_sectionsBefore_1 rfl hl (by decide) rfl (fun ls hl => ?_)
  refine lv_iconst (v := (0 : Int32)) C.1.1 C.1.2.1 dX12_sectionsBefore_2 (by decide) ?_
  refine lv_istore_n (lv' := [(3, .int (0 : Int32)), (2, .int (0 : Int32)), (0, .ref a0), (1, .int xp1)]) C.1.1 C.1.2.1 dX12_sectionsBefore_3 rfl hl (by decide) rfl (fun ls hl => ?_)
  exact hB4 ql_FU xp1 (0 : Int32) (0 : Int32) _ _ _ _ S (lv_sub hl [2, 3, 1, 0] rfl) w
def qw_X12_consolidate_170 (a0 : Nat) (Q : Int32 → ql_H → Prop) : Nat → Int32 → ql_H → Prop
  | 0, _, _ => False
  | n + 1, xl1, h =>
    ql_gR h (some a0) 13 0 fun r1 =>
    ql_lI h r1 0 (0 : Int32) fun x2 =>
    if x2 ≤ xl1 then (ql_gR h (some a0) 13 0 fun r3 =>
    ql_gR h (some a0) 13 0 fun r4 =>
    ql_lI h r4 0 (6 : Int32) fun x5 =>
    ¬ (6 : Int32) = 0 ∧
    ql_gR h (some a0) 13 0 fun r6 =>
    ql_lI h r6 0 (2 : Int32) fun x7 =>
    ql_sI h r3 0 ((7 : Int32) + (x5 - x5 / (6 : Int32) * (6 : Int32))) x7 fun h =>
    ql_gR h (some a0) 13 0 fun r8 =>
    ql_lI h r8 0 (6 : Int32) fun x9 =>
    ql_sI h r8 0 (6 : Int32) (x9 + (1 : Int32)) fun h =>
    ql_gR h (some a0) 13 0 fun r10 =>
    ql_lI h r10 0 (6 : Int32) fun x11 =>
    Q x11 h) else (ql_gR h (some a0) 13 14 fun r12 =>
    ql_lI h r12 0 xl1 fun x13 =>
    ql_rv h (some a0) 13 fun b13 => qw_X12_lays b13 xl1 (1 : Int32) x13 h (fun h =>
    qw_X12_consolidate_170 a0 Q n (xl1 + (1 : Int32)) h))
def qw_X12_consolidate_128 (a0 : Nat) (Q : Int32 → ql_H → Prop) (k55 : Int32 → ql_H → Prop) : Nat → Int32 → Int32 → Int32 → ql_H → Prop
  | 0, _, _, _, _ => False
  | n + 1, xl1, xl2, xl3, h =>
    if (4 : Int32) ≤ xl3 then (ql_rv h (some a0) 13 fun b14 => qw_X12_lays b14 xl1 (4 : Int32) (1 : Int32) h (fun h =>
    k55 (xl1 + (1 : Int32)) h)) else (ql_rv h (some a0) 13 fun b16 => qw_X12_of b16 xl1 (xl2 + xl3) h (fun x16 h =>
    ql_rv h (some a0) 13 fun b17 => qw_X12_lays b17 xl1 ((5 : Int32) + xl3) x16 h (fun h =>
    qw_X12_consolidate_128 a0 Q k55 n xl1 xl2 (xl3 + (1 : Int32)) h)))
def qw_X12_consolidate_101 (a0 : Nat) (Q : Int32 → ql_H → Prop) (k75 : Int32 → Int32 → ql_H → Prop) (xl1 : Int32) (xl2 : Int32) (h : ql_H) : Prop :=
k75 xl1 (xl2 + (-1 : Int32)) h
def qw_X12_consolidate_75 (a0 : Nat) (Q : Int32 → ql_H → Prop) (k55 : Int32 → ql_H → Prop) : Nat → Int32 → Int32 → ql_H → Prop
  | 0, _, _, _ => False
  | n + 1, xl1, xl2, h =>
    if xl2 < 0 then (ql_gR h (some a0) 13 14 fun r19 =>
    ql_rv h (some a0) 13 fun b20 => qw_X12_sectionsBefore b20 xl1 h (fun x20 h =>
    ql_sI h r19 0 xl1 (x20 + (1 : Int32)) fun h =>
    ql_rv h (some a0) 13 fun b22 => qw_X12_lastVersion b22 xl1 h (fun x22 h =>
    qw_X12_consolidate_128 a0 Q k55 ql_FU xl1 x22 (0 : Int32) h))) else (ql_rv h (some a0) 13 fun b24 => qw_X12_of b24 xl1 ((38 : Int32) + xl2) h (fun x24 h =>
    ql_rv h (some a0) 13 fun b26 => qw_X12_placeOf b26 x24 h (fun x26 h =>
    if 0 ≤ x26 then (qw_X12_consolidate_101 a0 Q (qw_X12_consolidate_75 a0 Q k55 n) xl1 xl2 h) else (ql_rv h (some a0) 13 fun b27 => qw_X12_dropsCite b27 xl1 xl2 h (fun h =>
    qw_X12_consolidate_101 a0 Q (qw_X12_consolidate_75 a0 Q k55 n) xl1 xl2 h)))))
def qw_X12_consolidate_55 (a0 : Nat) (Q : Int32 → ql_H → Prop) : Nat → Int32 → ql_H → Prop
  | 0, _, _ => False
  | n + 1, xl1, h =>
    ql_gR h (some a0) 13 0 fun r29 =>
    ql_lI h r29 0 (0 : Int32) fun x30 =>
    if x30 ≤ xl1 then (qw_X12_consolidate_170 a0 Q ql_FU (0 : Int32) h) else (ql_rv h (some a0) 13 fun b31 => qw_X12_of b31 xl1 (37 : Int32) h (fun x31 h =>
    qw_X12_consolidate_75 a0 Q (qw_X12_consolidate_55 a0 Q n) ql_FU xl1 (x31 - (1 : Int32)) h))
def qw_X12_consolidate_47 (a0 : Nat) (Q : Int32 → ql_H → Prop) (k17 : Int32 → ql_H → Prop) (xl1 : Int32) (h : ql_H) : Prop :=
k17 (xl1 + (-1 : Int32)) h
def qw_X12_consolidate_17 (a0 : Nat) (Q : Int32 → ql_H → Prop) : Nat → Int32 → ql_H → Prop
  | 0, _, _ => False
  | n + 1, xl1, h =>
    if xl1 < 0 then (qw_X12_consolidate_55 a0 Q ql_FU (0 : Int32) h) else (ql_rv h (some a0) 13 fun b33 => qw_X12_isOver b33 xl1 h (fun x33 h =>
    if x33 = 0 then (qw_X12_consolidate_47 a0 Q (qw_X12_consolidate_17 a0 Q n) xl1 h) else (ql_rv h (some a0) 13 fun b34 => qw_X12_drops b34 xl1 h (fun h =>
    ql_gR h (some a0) 13 0 fun r36 =>
    ql_lI h r36 0 (5 : Int32) fun x37 =>
    ql_sI h r36 0 (5 : Int32) (x37 + (1 : Int32)) fun h =>
    qw_X12_consolidate_47 a0 Q (qw_X12_consolidate_17 a0 Q n) xl1 h))))
def qw_X12_consolidate (a0 : Nat) (h : ql_H) (Q : Int32 → ql_H → Prop) : Prop :=
ql_gR h (some a0) 13 0 fun r38 =>
ql_rv h (some a0) 13 fun b38 => qw_X12_keeps b38 r38 h (fun h =>
ql_gR h (some a0) 13 0 fun r40 =>
ql_lI h r40 0 (0 : Int32) fun x41 =>
qw_X12_consolidate_17 a0 Q ql_FU (x41 - (1 : Int32)) h)
set_option maxHeartbeats 4000000 in
set_option maxRecDepth 100000 in
theorem qm_X12_consolidate (l : Launch) (hl9 : l.stackTraces = false) (D : ql_D) (h0 : ql_H) (a0 : Nat) (Q : Int32 → ql_H → Prop) (X : String → ql_H → Prop) (w : qw_X12_consolidate a0 h0 Q) : ql_M D l yX12_consolidate cX12_consolidate 4 (some .int) ({ frames := 6, cells := 0, slots := 0, locals := 111 } : Room) h0 [.ref a0] (ql_rI Q) X 0 0 := by
  refine ql_ofW (by decide) (Nat.le_of_ble_eq_true rfl) ?_
  intro p e s m below meth c ls C hr hlocks hnm htab S hl
  have hl : lv_has ls 4 [(0, .ref a0)] := hl
  have hB170 : ∀ n : Nat, ∀ (xl1 : Int32) (h : ql_H) (H : Heap) (locs : List Loc) (ls : Array Slot), ql_S D h0 s H locs h → lv_has ls 4 [(0, .ref a0), (1, .int xl1)] → qw_X12_consolidate_170 a0 Q n xl1 h → W p l e ({ frames := 6, cells := 0, slots := 0, locals := 111 } : Room) s m ([.ref a0] : List Value).toArray below meth c H locs 0 0 (vx_MQ below (ql_Q D h0 (ql_rI Q)) (ql_X D h0 X) ([.ref a0] : List Value).toArray s 0 0 (ql_A h0)) (F0 m 170 ls []) := by
    intro n
    induction n with
    | zero => intro xl1 h H locs ls S hl w; rw [qw_X12_consolidate_170] at w; exact w.elim
    | succ n ih =>
      intro xl1 h H locs ls S hl w
      rw [qw_X12_consolidate_170] at w
      refine lv_iload_n C.1.1 C.1.2.1 dX12_consolidate_170 rfl (lv_at hl 1 rfl) ?_
      refine ql_aload_n (r := (some a0)) C dX12_consolidate_171 rfl (lv_at hl 0 rfl) ?_
      refine ql_getR C S qf_13_0 gw_1668 dX12_consolidate_172 w (fun r1 w => ?_)
      refine lv_iconst (v := (0 : Int32)) C.1.1 C.1.2.1 dX12_consolidate_175 (by decide) ?_
      refine ql_iald C S dX12_consolidate_176 w (fun x2 w => ?_)
      refine lv_icmp_ge (tgt := 198) C.1.1 C.1.2.1 dX12_consolidate_177 (by decide) (fun c9 => ?_) (fun c9 => ?_)
      · replace w := ql_if w c9
        refine ql_aload_n (r := (some a0)) C dX12_consolidate_198 rfl (lv_at hl 0 rfl) ?_
        refine ql_getR C S qf_13_0 gw_1668 dX12_consolidate_199 w (fun r3 w => ?_)
        refine lv_bipush (v := (7 : Int32)) C.1.1 C.1.2.1 dX12_consolidate_202 (by decide) ?_
        refine ql_aload_n (r := (some a0)) C dX12_consolidate_204 rfl (lv_at hl 0 rfl) ?_
        refine ql_getR C S qf_13_0 gw_1668 dX12_consolidate_205 w (fun r4 w => ?_)
        refine lv_bipush (v := (6 : Int32)) C.1.1 C.1.2.1 dX12_consolidate_208 (by decide) ?_
        refine ql_iald C S dX12_consolidate_210 w (fun x5 w => ?_)
        refine lv_bipush (v := (6 : Int32)) C.1.1 C.1.2.1 dX12_consolidate_211 (by decide) ?_
        refine lv_irem C.1.1 C.1.2.1 dX12_consolidate_213 w.1 ?_
        replace w := w.2
        refine lv_iadd C.1.1 C.1.2.1 dX12_consolidate_214 ?_
        refine ql_aload_n (r := (some a0)) C dX12_consolidate_215 rfl (lv_at hl 0 rfl) ?_
        refine ql_getR C S qf_13_0 gw_1668 dX12_consolidate_216 w (fun r6 w => ?_)
        refine lv_iconst (v := (2 : Int32)) C.1.1 C.1.2.1 dX12_consolidate_219 (by decide) ?_
        refine ql_iald C S dX12_consolidate_220 w (fun x7 w => ?_)
        refine ql_iast C S dX12_consolidate_221 w (fun h H locs S w => ?_)
        refine ql_aload_n (r := (some a0)) C dX12_consolidate_222 rfl (lv_at hl 0 rfl) ?_
        refine ql_getR C S qf_13_0 gw_1668 dX12_consolidate_223 w (fun r8 w => ?_)
        refine lv_bipush (v := (6 : Int32)) C.1.1 C.1.2.1 dX12_consolidate_226 (by decide) ?_
        refine lv_dup2_11 C.1.1 C.1.2.1 dX12_consolidate_228 rfl (ql_catR _) ?_
        refine ql_iald C S dX12_consolidate_229 w (fun x9 w => ?_)
        refine lv_iconst (v := (1 : Int32)) C.1.1 C.1.2.1 dX12_consolidate_230 (by decide) ?_
        refine lv_iadd C.1.1 C.1.2.1 dX12_consolidate_231 ?_
        refine ql_iast C S dX12_consolidate_232 w (fun h H locs S w => ?_)
        refine ql_aload_n (r := (some a0)) C dX12_consolidate_233 rfl (lv_at hl 0 rfl) ?_
        refine ql_getR C S qf_13_0 gw_1668 dX12_consolidate_234 w (fun r10 w => ?_)
        refine lv_bipush (v := (6 : Int32)) C.1.1 C.1.2.1 dX12_consolidate_237 (by decide) ?_
        refine ql_iald C S dX12_consolidate_239 w (fun x11 w => ?_)
        exact ql_iret C S hr hlocks dX12_consolidate_240 ⟨Nat.le_of_ble_eq_true rfl, Nat.le_of_ble_eq_true rfl⟩ w
      · replace w := ql_ifn w c9
        refine ql_aload_n (r := (some a0)) C dX12_consolidate_180 rfl (lv_at hl 0 rfl) ?_
        refine lv_iload_n C.1.1 C.1.2.1 dX12_consolidate_181 rfl (lv_at hl 1 rfl) ?_
        refine lv_iconst (v := (1 : Int32)) C.1.1 C.1.2.1 dX12_consolidate_182 (by decide) ?_
        refine ql_aload_n (r := (some a0)) C dX12_consolidate_183 rfl (lv_at hl 0 rfl) ?_
        refine ql_getR C S qf_13_14 gw_1682 dX12_consolidate_184 w (fun r12 w => ?_)
        refine lv_iload_n C.1.1 C.1.2.1 dX12_consolidate_187 rfl (lv_at hl 1 rfl) ?_
        refine ql_iald C S dX12_consolidate_188 w (fun x13 w => ?_)
        refine ql_VV (As := [.int xl1, .int (1 : Int32), .int x13]) (rest := []) C S htab hlocks hl qy_X12_lays qi_X12_lays qs_X12_lays gw_1760 (ci := 13) rfl w (fun b w => qm_X12_lays l hl9 D _ b xl1 (1 : Int32) x13 _ _ w) rfl ⟨Nat.le_of_ble_eq_true rfl, Nat.le_of_ble_eq_true rfl⟩ ⟨rfl, rfl⟩ (by exact Nat.le_of_ble_eq_true rfl) (fun b e9 => by cases e9; rfl) dX12_consolidate_189 ⟨Nat.le_of_ble_eq_true rfl, Nat.le_of_ble_eq_true rfl⟩ ⟨Nat.le_of_ble_eq_true rfl, Nat.le_of_ble_eq_true rfl⟩ (fun h H locs S w => ?_)
        refine W.cs (cells' := 0) (slots' := 0) rfl rfl ?_
        refine lv_iinc (v := (xl1 + (1 : Int32))) (lv' := [(1, .int (xl1 + (1 : Int32))), (0, .ref a0)]) C.1.1 C.1.2.1 dX12_consolidate_192 hl (k := 1) rfl rfl (by decide) rfl (fun ls hl => ?_)
        refine lv_goto (tgt := 170) C.1.1 C.1.2.1 dX12_consolidate_195 (by decide) ?_
        exact ih (xl1 + (1 : Int32)) _ _ _ _ S (lv_sub hl [1, 0] rfl) w
  have hB128 : ∀ (k55 : Int32 → ql_H → Prop) (hk55 : ∀ (xl1 : Int32) (h : ql_H) (H : Heap) (locs : List Loc) (ls : Array Slot), ql_S D h0 s H locs h → lv_has ls 4 [(0, .ref a0), (1, .int xl1)] → k55 xl1 h → W p l e ({ frames := 6, cells := 0, slots := 0, locals := 111 } : Room) s m ([.ref a0] : List Value).toArray below meth c H locs 0 0 (vx_MQ below (ql_Q D h0 (ql_rI Q)) (ql_X D h0 X) ([.ref a0] : List Value).toArray s 0 0 (ql_A h0)) (F0 m 55 ls [])) , ∀ n : Nat, ∀ (xl1 : Int32) (xl2 : Int32) (xl3 : Int32) (h : ql_H) (H : Heap) (locs : List Loc) (ls : Array Slot), ql_S D h0 s H locs h → lv_has ls 4 [(0, .ref a0), (1, .int xl1), (2, .int xl2), (3, .int xl3)] → qw_X12_consolidate_128 a0 Q k55 n xl1 xl2 xl3 h → W p l e ({ frames := 6, cells := 0, slots := 0, locals := 111 } : Room) s m ([.ref a0] : List Value).toArray below meth c H locs 0 0 (vx_MQ below (ql_Q D h0 (ql_rI Q)) (ql_X D h0 X) ([.ref a0] : List Value).toArray s 0 0 (ql_A h0)) (F0 m 128 ls []) := by
    intro k55 hk55 n
    induction n with
    | zero => intro xl1 xl2 xl3 h H locs ls S hl w; rw [qw_X12_consolidate_128] at w; exact w.elim
    | succ n ih =>
      intro xl1 xl2 xl3 h H locs ls S hl w
      rw [qw_X12_consolidate_128] at w
      refine lv_iload_n C.1.1 C.1.2.1 dX12_consolidate_128 rfl (lv_at hl 3 rfl) ?_
      refine lv_iconst (v := (4 : Int32)) C.1.1 C.1.2.1 dX12_consolidate_129 (by decide) ?_
      refine lv_icmp_ge (tgt := 155) C.1.1 C.1.2.1 dX12_consolidate_130 (by decide) (fun c9 => ?_) (fun c9 => ?_)
      · replace w := ql_if w c9
        refine ql_aload_n (r := (some a0)) C dX12_consolidate_155 rfl (lv_at hl 0 rfl) ?_
        refine lv_iload_n C.1.1 C.1.2.1 dX12_consolidate_156 rfl (lv_at hl 1 rfl) ?_
        refine lv_iconst (v := (4 : Int32)) C.1.1 C.1.2.1 dX12_consolidate_157 (by decide) ?_
        refine lv_iconst (v := (1 : Int32)) C.1.1 C.1.2.1 dX12_consolidate_158 (by decide) ?_
        refine ql_VV (As := [.int xl1, .int (4 : Int32), .int (1 : Int32)]) (rest := []) C S htab hlocks hl qy_X12_lays qi_X12_lays qs_X12_lays gw_1760 (ci := 13) rfl w (fun b w => qm_X12_lays l hl9 D _ b xl1 (4 : Int32) (1 : Int32) _ _ w) rfl ⟨Nat.le_of_ble_eq_true rfl, Nat.le_of_ble_eq_true rfl⟩ ⟨rfl, rfl⟩ (by exact Nat.le_of_ble_eq_true rfl) (fun b e9 => by cases e9; rfl) dX12_consolidate_159 ⟨Nat.le_of_ble_eq_true rfl, Nat.le_of_ble_eq_true rfl⟩ ⟨Nat.le_of_ble_eq_true rfl, Nat.le_of_ble_eq_true rfl⟩ (fun h H locs S w => ?_)
        refine W.cs (cells' := 0) (slots' := 0) rfl rfl ?_
        refine lv_iinc (v := (xl1 + (1 : Int32))) (lv' := [(1, .int (xl1 + (1 : Int32))), (0, .ref a0), (2, .int xl2), (3, .int xl3)]) C.1.1 C.1.2.1 dX12_consolidate_162 hl (k := 1) rfl rfl (by decide) rfl (fun ls hl => ?_)
        refine lv_goto (tgt := 55) C.1.1 C.1.2.1 dX12_consolidate_165 (by decide) ?_
        exact hk55 (xl1 + (1 : Int32)) _ _ _ _ S (lv_sub hl [1, 0] rfl) w
      · replace w := ql_ifn w c9
        refine ql_aload_n (r := (some a0)) C dX12_consolidate_133 rfl (lv_at hl 0 rfl) ?_
        refine lv_iload_n C.1.1 C.1.2.1 dX12_consolidate_134 rfl (lv_at hl 1 rfl) ?_
        refine lv_iconst (v := (5 : Int32)) C.1.1 C.1.2.1 dX12_consolidate_135 (by decide) ?_
        refine lv_iload_n C.1.1 C.1.2.1 dX12_consolidate_136 rfl (lv_at hl 3 rfl) ?_
        refine lv_iadd C.1.1 C.1.2.1 dX12_consolidate_137 ?_
        refine ql_aload_n (r := (some a0)) C dX12_consolidate_138 rfl (lv_at hl 0 rfl) ?_
        refine lv_iload_n C.1.1 C.1.2.1 dX12_consolidate_139 rfl (lv_at hl 1 rfl) ?_
        refine lv_iload_n C.1.1 C.1.2.1 dX12_consolidate_140 rfl (lv_at hl 2 rfl) ?_
        refine lv_iload_n C.1.1 C.1.2.1 dX12_consolidate_141 rfl (lv_at hl 3 rfl) ?_
        refine lv_iadd C.1.1 C.1.2.1 dX12_consolidate_142 ?_
        refine ql_VI (As := [.int xl1, .int (xl2 + xl3)]) (rest := [.int ((5 : Int32) + xl3), .int xl1, .ref a0]) C S htab hlocks hl qy_X12_of qi_X12_of qs_X12_of gw_1745 (ci := 13) rfl w (fun b w => qm_X12_of l hl9 D _ b xl1 (xl2 + xl3) _ _ w) rfl ⟨Nat.le_of_ble_eq_true rfl, Nat.le_of_ble_eq_true rfl⟩ ⟨rfl, rfl⟩ (by exact Nat.le_of_ble_eq_true rfl) (fun b e9 => by cases e9; rfl) dX12_consolidate_143 ⟨Nat.le_of_ble_eq_true rfl, Nat.le_of_ble_eq_true rfl⟩ ⟨Nat.le_of_ble_eq_true rfl, Nat.le_of_ble_eq_true rfl⟩ (fun x16 h H locs S w => ?_)
        refine W.cs (cells' := 0) (slots' := 0) rfl rfl ?_
        refine ql_VV (As := [.int xl1, .int ((5 : Int32) + xl3), .int x16]) (rest := []) C S htab hlocks hl qy_X12_lays qi_X12_lays qs_X12_lays gw_1760 (ci := 13) rfl w (fun b w => qm_X12_lays l hl9 D _ b xl1 ((5 : Int32) + xl3) x16 _ _ w) rfl ⟨Nat.le_of_ble_eq_true rfl, Nat.le_of_ble_eq_true rfl⟩ ⟨rfl, rfl⟩ (by exact Nat.le_of_ble_eq_true rfl) (fun b e9 => by cases e9; rfl) dX12_consolidate_146 ⟨Nat.le_of_ble_eq_true rfl, Nat.le_of_ble_eq_true rfl⟩ ⟨Nat.le_of_ble_eq_true rfl, Nat.le_of_ble_eq_true rfl⟩ (fun h H locs S w => ?_)
        refine W.cs (cells' := 0) (slots' := 0) rfl rfl ?_
        refine lv_iinc (v := (xl3 + (1 : Int32))) (lv' := [(3, .int (xl3 + (1 : Int32))), (0, .ref a0), (1, .int xl1), (2, .int xl2)]) C.1.1 C.1.2.1 dX12_consolidate_149 hl (k := 3) rfl rfl (by decide) rfl (fun ls hl => ?_)
        refine lv_goto (tgt := 128) C.1.1 C.1.2.1 dX12_consolidate_152 (by decide) ?_
        exact ih xl1 xl2 (xl3 + (1 : Int32)) _ _ _ _ S (lv_sub hl [1, 2, 3, 0] rfl) w
  have hB101 : ∀ (k75 : Int32 → Int32 → ql_H → Prop) (hk75 : ∀ (xl1 : Int32) (xl2 : Int32) (h : ql_H) (H : Heap) (locs : List Loc) (ls : Array Slot), ql_S D h0 s H locs h → lv_has ls 4 [(0, .ref a0), (1, .int xl1), (2, .int xl2)] → k75 xl1 xl2 h → W p l e ({ frames := 6, cells := 0, slots := 0, locals := 111 } : Room) s m ([.ref a0] : List Value).toArray below meth c H locs 0 0 (vx_MQ below (ql_Q D h0 (ql_rI Q)) (ql_X D h0 X) ([.ref a0] : List Value).toArray s 0 0 (ql_A h0)) (F0 m 75 ls [])) , ∀ (xl1 : Int32) (xl2 : Int32) (h : ql_H) (H : Heap) (locs : List Loc) (ls : Array Slot), ql_S D h0 s H locs h → lv_has ls 4 [(0, .ref a0), (1, .int xl1), (2, .int xl2)] → qw_X12_consolidate_101 a0 Q k75 xl1 xl2 h → W p l e ({ frames := 6, cells := 0, slots := 0, locals := 111 } : Room) s m ([.ref a0] : List Value).toArray below meth c H locs 0 0 (vx_MQ below (ql_Q D h0 (ql_rI Q)) (ql_X D h0 X) ([.ref a0] : List Value).toArray s 0 0 (ql_A h0)) (F0 m 101 ls []) := by
    intro k75 hk75 xl1 xl2 h H locs ls S hl w
    unfold qw_X12_consolidate_101 at w
    refine lv_iinc (v := (xl2 + (-1 : Int32))) (lv' := [(2, .int (xl2 + (-1 : Int32))), (0, .ref a0), (1, .int xl1)]) C.1.1 C.1.2.1 dX12_consolidate_101 hl (k := 2) rfl rfl (by decide) rfl (fun ls hl => ?_)
    refine lv_goto (tgt := 75) C.1.1 C.1.2.1 dX12_consolidate_104 (by decide) ?_
    exact hk75 xl1 (xl2 + (-1 : Int32)) _ _ _ _ S (lv_sub hl [1, 2, 0] rfl) w
  have hB75 : ∀ (k55 : Int32 → ql_H → Prop) (hk55 : ∀ (xl1 : Int32) (h : ql_H) (H : Heap) (locs : List Loc) (ls : Array Slot), ql_S D h0 s H locs h → lv_has ls 4 [(0, .ref a0), (1, .int xl1)] → k55 xl1 h → W p l e ({ frames := 6, cells := 0, slots := 0, locals := 111 } : Room) s m ([.ref a0] : List Value).toArray below meth c H locs 0 0 (vx_MQ below (ql_Q D h0 (ql_rI Q)) (ql_X D h0 X) ([.ref a0] : List Value).toArray s 0 0 (ql_A h0)) (F0 m 55 ls [])) , ∀ n : Nat, ∀ (xl1 : Int32) (xl2 : Int32) (h : ql_H) (H : Heap) (locs : List Loc) (ls : Array Slot), ql_S D h0 s H locs h → lv_has ls 4 [(0, .ref a0), (1, .int xl1), (2, .int xl2)] → qw_X12_consolidate_75 a0 Q k55 n xl1 xl2 h → W p l e ({ frames := 6, cells := 0, slots := 0, locals := 111 } : Room) s m ([.ref a0] : List Value).toArray below meth c H locs 0 0 (vx_MQ below (ql_Q D h0 (ql_rI Q)) (ql_X D h0 X) ([.ref a0] : List Value).toArray s 0 0 (ql_A h0)) (F0 m 75 ls []) := by
    intro k55 hk55 n
    induction n with
    | zero => intro xl1 xl2 h H locs ls S hl w; rw [qw_X12_consolidate_75] at w; exact w.elim
    | succ n ih =>
      intro xl1 xl2 h H locs ls S hl w
      rw [qw_X12_consolidate_75] at w
      refine lv_iload_n C.1.1 C.1.2.1 dX12_consolidate_75 rfl (lv_at hl 2 rfl) ?_
      refine lv_if_lt (tgt := 107) C.1.1 C.1.2.1 dX12_consolidate_76 (by decide) (fun c9 => ?_) (fun c9 => ?_)
      · replace w := ql_if w c9
        refine ql_aload_n (r := (some a0)) C dX12_consolidate_107 rfl (lv_at hl 0 rfl) ?_
        refine ql_getR C S qf_13_14 gw_1682 dX12_consolidate_108 w (fun r19 w => ?_)
        refine lv_iload_n C.1.1 C.1.2.1 dX12_consolidate_111 rfl (lv_at hl 1 rfl) ?_
        refine ql_aload_n (r := (some a0)) C dX12_consolidate_112 rfl (lv_at hl 0 rfl) ?_
        refine lv_iload_n C.1.1 C.1.2.1 dX12_consolidate_113 rfl (lv_at hl 1 rfl) ?_
        refine ql_VI (As := [.int xl1]) (rest := [.int xl1, va_rf r19]) C S htab hlocks hl qy_X12_sectionsBefore qi_X12_sectionsBefore qs_X12_sectionsBefore gw_1844 (ci := 13) rfl w (fun b w => qm_X12_sectionsBefore l hl9 D _ b xl1 _ _ w) rfl ⟨Nat.le_of_ble_eq_true rfl, Nat.le_of_ble_eq_true rfl⟩ ⟨rfl, rfl⟩ (by generalize r19 = z0; cases z0 <;> exact Nat.le_of_ble_eq_true rfl) (fun b e9 => by cases e9; rfl) dX12_consolidate_114 ⟨Nat.le_of_ble_eq_true rfl, Nat.le_of_ble_eq_true rfl⟩ ⟨Nat.le_of_ble_eq_true rfl, Nat.le_of_ble_eq_true rfl⟩ (fun x20 h H locs S w => ?_)
        refine W.cs (cells' := 0) (slots' := 0) rfl rfl ?_
        refine lv_iconst (v := (1 : Int32)) C.1.1 C.1.2.1 dX12_consolidate_117 (by decide) ?_
        refine lv_iadd C.1.1 C.1.2.1 dX12_consolidate_118 ?_
        refine ql_iast C S dX12_consolidate_119 w (fun h H locs S w => ?_)
        refine ql_aload_n (r := (some a0)) C dX12_consolidate_120 rfl (lv_at hl 0 rfl) ?_
        refine lv_iload_n C.1.1 C.1.2.1 dX12_consolidate_121 rfl (lv_at hl 1 rfl) ?_
        refine ql_VI (As := [.int xl1]) (rest := []) C S htab hlocks hl qy_X12_lastVersion qi_X12_lastVersion qs_X12_lastVersion gw_1780 (ci := 13) rfl w (fun b w => qm_X12_lastVersion l hl9 D _ b xl1 _ _ w) rfl ⟨Nat.le_of_ble_eq_true rfl, Nat.le_of_ble_eq_true rfl⟩ ⟨rfl, rfl⟩ (by exact Nat.le_of_ble_eq_true rfl) (fun b e9 => by cases e9; rfl) dX12_consolidate_122 ⟨Nat.le_of_ble_eq_true rfl, Nat.le_of_ble_eq_true rfl⟩ ⟨Nat.le_of_ble_eq_true rfl, Nat.le_of_ble_eq_true rfl⟩ (fun x22 h H locs S w => ?_)
        refine W.cs (cells' := 0) (slots' := 0) rfl rfl ?_
        refine lv_istore_n (lv' := [(2, .int x22), (0, .ref a0), (1, .int xl1)]) C.1.1 C.1.2.1 dX12_consolidate_125 rfl hl (by decide) rfl (fun ls hl => ?_)
        refine lv_iconst (v := (0 : Int32)) C.1.1 C.1.2.1 dX12_consolidate_126 (by decide) ?_
        refine lv_istore_n (lv' := [(3, .int (0 : Int32)), (2, .int x22), (0, .ref a0), (1, .int xl1)]) C.1.1 C.1.2.1 dX12_consolidate_127 rfl hl (by decide) rfl (fun ls hl => ?_)
        exact hB128 k55 hk55 ql_FU xl1 x22 (0 : Int32) _ _ _ _ S (lv_sub hl [2, 3, 1, 0] rfl) w
      · replace w := ql_ifn w c9
        refine ql_aload_n (r := (some a0)) C dX12_consolidate_79 rfl (lv_at hl 0 rfl) ?_
        refine ql_aload_n (r := (some a0)) C dX12_consolidate_80 rfl (lv_at hl 0 rfl) ?_
        refine lv_iload_n C.1.1 C.1.2.1 dX12_consolidate_81 rfl (lv_at hl 1 rfl) ?_
        refine lv_bipush (v := (38 : Int32)) C.1.1 C.1.2.1 dX12_consolidate_82 (by decide) ?_
        refine lv_iload_n C.1.1 C.1.2.1 dX12_consolidate_84 rfl (lv_at hl 2 rfl) ?_
        refine lv_iadd C.1.1 C.1.2.1 dX12_consolidate_85 ?_
        refine ql_VI (As := [.int xl1, .int ((38 : Int32) + xl2)]) (rest := [.ref a0]) C S htab hlocks hl qy_X12_of qi_X12_of qs_X12_of gw_1745 (ci := 13) rfl w (fun b w => qm_X12_of l hl9 D _ b xl1 ((38 : Int32) + xl2) _ _ w) rfl ⟨Nat.le_of_ble_eq_true rfl, Nat.le_of_ble_eq_true rfl⟩ ⟨rfl, rfl⟩ (by exact Nat.le_of_ble_eq_true rfl) (fun b e9 => by cases e9; rfl) dX12_consolidate_86 ⟨Nat.le_of_ble_eq_true rfl, Nat.le_of_ble_eq_true rfl⟩ ⟨Nat.le_of_ble_eq_true rfl, Nat.le_of_ble_eq_true rfl⟩ (fun x24 h H locs S w => ?_)
        refine W.cs (cells' := 0) (slots' := 0) rfl rfl ?_
        refine ql_VI (As := [.int x24]) (rest := []) C S htab hlocks hl qy_X12_placeOf qi_X12_placeOf qs_X12_placeOf gw_1772 (ci := 13) rfl w (fun b w => qm_X12_placeOf l hl9 D _ b x24 _ _ w) rfl ⟨Nat.le_of_ble_eq_true rfl, Nat.le_of_ble_eq_true rfl⟩ ⟨rfl, rfl⟩ (by exact Nat.le_of_ble_eq_true rfl) (fun b e9 => by cases e9; rfl) dX12_consolidate_89 ⟨Nat.le_of_ble_eq_true rfl, Nat.le_of_ble_eq_true rfl⟩ ⟨Nat.le_of_ble_eq_true rfl, Nat.le_of_ble_eq_true rfl⟩ (fun x26 h H locs S w => ?_)
        refine W.cs (cells' := 0) (slots' := 0) rfl rfl ?_
        refine lv_if_ge (tgt := 101) C.1.1 C.1.2.1 dX12_consolidate_92 (by decide) (fun c9 => ?_) (fun c9 => ?_)
        · replace w := ql_if w c9
          exact hB101 (qw_X12_consolidate_75 a0 Q k55 n) ih xl1 xl2 _ _ _ _ S (lv_sub hl [0, 1, 2] rfl) w
        · replace w := ql_ifn w c9
          refine ql_aload_n (r := (some a0)) C dX12_consolidate_95 rfl (lv_at hl 0 rfl) ?_
          refine lv_iload_n C.1.1 C.1.2.1 dX12_consolidate_96 rfl (lv_at hl 1 rfl) ?_
          refine lv_iload_n C.1.1 C.1.2.1 dX12_consolidate_97 rfl (lv_at hl 2 rfl) ?_
          refine ql_VV (As := [.int xl1, .int xl2]) (rest := []) C S htab hlocks hl qy_X12_dropsCite qi_X12_dropsCite qs_X12_dropsCite gw_1828 (ci := 13) rfl w (fun b w => qm_X12_dropsCite l hl9 D _ b xl1 xl2 _ _ w) rfl ⟨Nat.le_of_ble_eq_true rfl, Nat.le_of_ble_eq_true rfl⟩ ⟨rfl, rfl⟩ (by exact Nat.le_of_ble_eq_true rfl) (fun b e9 => by cases e9; rfl) dX12_consolidate_98 ⟨Nat.le_of_ble_eq_true rfl, Nat.le_of_ble_eq_true rfl⟩ ⟨Nat.le_of_ble_eq_true rfl, Nat.le_of_ble_eq_true rfl⟩ (fun h H locs S w => ?_)
          refine W.cs (cells' := 0) (slots' := 0) rfl rfl ?_
          exact hB101 (qw_X12_consolidate_75 a0 Q k55 n) ih xl1 xl2 _ _ _ _ S (lv_sub hl [0, 1, 2] rfl) w
  have hB55 : ∀ n : Nat, ∀ (xl1 : Int32) (h : ql_H) (H : Heap) (locs : List Loc) (ls : Array Slot), ql_S D h0 s H locs h → lv_has ls 4 [(0, .ref a0), (1, .int xl1)] → qw_X12_consolidate_55 a0 Q n xl1 h → W p l e ({ frames := 6, cells := 0, slots := 0, locals := 111 } : Room) s m ([.ref a0] : List Value).toArray below meth c H locs 0 0 (vx_MQ below (ql_Q D h0 (ql_rI Q)) (ql_X D h0 X) ([.ref a0] : List Value).toArray s 0 0 (ql_A h0)) (F0 m 55 ls []) := by
    intro n
    induction n with
    | zero => intro xl1 h H locs ls S hl w; rw [qw_X12_consolidate_55] at w; exact w.elim
    | succ n ih =>
      intro xl1 h H locs ls S hl w
      rw [qw_X12_consolidate_55] at w
      refine lv_iload_n C.1.1 C.1.2.1 dX12_consolidate_55 rfl (lv_at hl 1 rfl) ?_
      refine ql_aload_n (r := (some a0)) C dX12_consolidate_56 rfl (lv_at hl 0 rfl) ?_
      refine ql_getR C S qf_13_0 gw_1668 dX12_consolidate_57 w (fun r29 w => ?_)
      refine lv_iconst (v := (0 : Int32)) C.1.1 C.1.2.1 dX12_consolidate_60 (by decide) ?_
      refine ql_iald C S dX12_consolidate_61 w (fun x30 w => ?_)
      refine lv_icmp_ge (tgt := 168) C.1.1 C.1.2.1 dX12_consolidate_62 (by decide) (fun c9 => ?_) (fun c9 => ?_)
      · replace w := ql_if w c9
        refine lv_iconst (v := (0 : Int32)) C.1.1 C.1.2.1 dX12_consolidate_168 (by decide) ?_
        refine lv_istore_n (lv' := [(1, .int (0 : Int32)), (0, .ref a0)]) C.1.1 C.1.2.1 dX12_consolidate_169 rfl hl (by decide) rfl (fun ls hl => ?_)
        exact hB170 ql_FU (0 : Int32) _ _ _ _ S (lv_sub hl [1, 0] rfl) w
      · replace w := ql_ifn w c9
        refine ql_aload_n (r := (some a0)) C dX12_consolidate_65 rfl (lv_at hl 0 rfl) ?_
        refine lv_iload_n C.1.1 C.1.2.1 dX12_consolidate_66 rfl (lv_at hl 1 rfl) ?_
        refine lv_bipush (v := (37 : Int32)) C.1.1 C.1.2.1 dX12_consolidate_67 (by decide) ?_
        refine ql_VI (As := [.int xl1, .int (37 : Int32)]) (rest := []) C S htab hlocks hl qy_X12_of qi_X12_of qs_X12_of gw_1745 (ci := 13) rfl w (fun b w => qm_X12_of l hl9 D _ b xl1 (37 : Int32) _ _ w) rfl ⟨Nat.le_of_ble_eq_true rfl, Nat.le_of_ble_eq_true rfl⟩ ⟨rfl, rfl⟩ (by exact Nat.le_of_ble_eq_true rfl) (fun b e9 => by cases e9; rfl) dX12_consolidate_69 ⟨Nat.le_of_ble_eq_true rfl, Nat.le_of_ble_eq_true rfl⟩ ⟨Nat.le_of_ble_eq_true rfl, Nat.le_of_ble_eq_true rfl⟩ (fun x31 h H locs S w => ?_)
        refine W.cs (cells' := 0) (slots' := 0) rfl rfl ?_
        refine lv_iconst (v := (1 : Int32)) C.1.1 C.1.2.1 dX12_consolidate_72 (by decide) ?_
        refine lv_isub C.1.1 C.1.2.1 dX12_consolidate_73 ?_
        refine lv_istore_n (lv' := [(2, .int (x31 - (1 : Int32))), (0, .ref a0), (1, .int xl1)]) C.1.1 C.1.2.1 dX12_consolidate_74 rfl hl (by decide) rfl (fun ls hl => ?_)
        exact hB75 (qw_X12_consolidate_55 a0 Q n) ih ql_FU xl1 (x31 - (1 : Int32)) _ _ _ _ S (lv_sub hl [1, 2, 0] rfl) w
  have hB47 : ∀ (k17 : Int32 → ql_H → Prop) (hk17 : ∀ (xl1 : Int32) (h : ql_H) (H : Heap) (locs : List Loc) (ls : Array Slot), ql_S D h0 s H locs h → lv_has ls 4 [(0, .ref a0), (1, .int xl1)] → k17 xl1 h → W p l e ({ frames := 6, cells := 0, slots := 0, locals := 111 } : Room) s m ([.ref a0] : List Value).toArray below meth c H locs 0 0 (vx_MQ below (ql_Q D h0 (ql_rI Q)) (ql_X D h0 X) ([.ref a0] : List Value).toArray s 0 0 (ql_A h0)) (F0 m 17 ls [])) , ∀ (xl1 : Int32) (h : ql_H) (H : Heap) (locs : List Loc) (ls : Array Slot), ql_S D h0 s H locs h → lv_has ls 4 [(0, .ref a0), (1, .int xl1)] → qw_X12_consolidate_47 a0 Q k17 xl1 h → W p l e ({ frames := 6, cells := 0, slots := 0, locals := 111 } : Room) s m ([.ref a0] : List Value).toArray below meth c H locs 0 0 (vx_MQ below (ql_Q D h0 (ql_rI Q)) (ql_X D h0 X) ([.ref a0] : List Value).toArray s 0 0 (ql_A h0)) (F0 m 47 ls []) := by
    intro k17 hk17 xl1 h H locs ls S hl w
    unfold qw_X12_consolidate_47 at w
    refine lv_iinc (v := (xl1 + (-1 : Int32))) (lv' := [(1, .int (xl1 + (-1 : Int32))), (0, .ref a0)]) C.1.1 C.1.2.1 dX12_consolidate_47 hl (k := 1) rfl rfl (by decide) rfl (fun ls hl => ?_)
    refine lv_goto (tgt := 17) C.1.1 C.1.2.1 dX12_consolidate_50 (by decide) ?_
    exact hk17 (xl1 + (-1 : Int32)) _ _ _ _ S (lv_sub hl [1, 0] rfl) w
  have hB17 : ∀ n : Nat, ∀ (xl1 : Int32) (h : ql_H) (H : Heap) (locs : List Loc) (ls : Array Slot), ql_S D h0 s H locs h → lv_has ls 4 [(0, .ref a0), (1, .int xl1)] → qw_X12_consolidate_17 a0 Q n xl1 h → W p l e ({ frames := 6, cells := 0, slots := 0, locals := 111 } : Room) s m ([.ref a0] : List Value).toArray below meth c H locs 0 0 (vx_MQ below (ql_Q D h0 (ql_rI Q)) (ql_X D h0 X) ([.ref a0] : List Value).toArray s 0 0 (ql_A h0)) (F0 m 17 ls []) := by
    intro n
    induction n with
    | zero => intro xl1 h H locs ls S hl w; rw [qw_X12_consolidate_17] at w; exact w.elim
    | succ n ih =>
      intro xl1 h H locs ls S hl w
      rw [qw_X12_consolidate_17] at w
      refine lv_iload_n C.1.1 C.1.2.1 dX12_consolidate_17 rfl (lv_at hl 1 rfl) ?_
      refine lv_if_lt (tgt := 53) C.1.1 C.1.2.1 dX12_consolidate_18 (by decide) (fun c9 => ?_) (fun c9 => ?_)
      · replace w := ql_if w c9
        refine lv_iconst (v := (0 : Int32)) C.1.1 C.1.2.1 dX12_consolidate_53 (by decide) ?_
        refine lv_istore_n (lv' := [(1, .int (0 : Int32)), (0, .ref a0)]) C.1.1 C.1.2.1 dX12_consolidate_54 rfl hl (by decide) rfl (fun ls hl => ?_)
        exact hB55 ql_FU (0 : Int32) _ _ _ _ S (lv_sub hl [1, 0] rfl) w
      · replace w := ql_ifn w c9
        refine ql_aload_n (r := (some a0)) C dX12_consolidate_21 rfl (lv_at hl 0 rfl) ?_
        refine lv_iload_n C.1.1 C.1.2.1 dX12_consolidate_22 rfl (lv_at hl 1 rfl) ?_
        refine ql_VI (As := [.int xl1]) (rest := []) C S htab hlocks hl qy_X12_isOver qi_X12_isOver qs_X12_isOver gw_1812 (ci := 13) rfl w (fun b w => qm_X12_isOver l hl9 D _ b xl1 _ _ w) rfl ⟨Nat.le_of_ble_eq_true rfl, Nat.le_of_ble_eq_true rfl⟩ ⟨rfl, rfl⟩ (by exact Nat.le_of_ble_eq_true rfl) (fun b e9 => by cases e9; rfl) dX12_consolidate_23 ⟨Nat.le_of_ble_eq_true rfl, Nat.le_of_ble_eq_true rfl⟩ ⟨Nat.le_of_ble_eq_true rfl, Nat.le_of_ble_eq_true rfl⟩ (fun x33 h H locs S w => ?_)
        refine W.cs (cells' := 0) (slots' := 0) rfl rfl ?_
        refine lv_if_ne (tgt := 32) C.1.1 C.1.2.1 dX12_consolidate_26 (by decide) (fun c9 => ?_) (fun c9 => ?_)
        · replace w := ql_ifn w c9
          refine ql_aload_n (r := (some a0)) C dX12_consolidate_32 rfl (lv_at hl 0 rfl) ?_
          refine lv_iload_n C.1.1 C.1.2.1 dX12_consolidate_33 rfl (lv_at hl 1 rfl) ?_
          refine ql_VV (As := [.int xl1]) (rest := []) C S htab hlocks hl qy_X12_drops qi_X12_drops qs_X12_drops gw_1836 (ci := 13) rfl w (fun b w => qm_X12_drops l hl9 D _ b xl1 _ _ w) rfl ⟨Nat.le_of_ble_eq_true rfl, Nat.le_of_ble_eq_true rfl⟩ ⟨rfl, rfl⟩ (by exact Nat.le_of_ble_eq_true rfl) (fun b e9 => by cases e9; rfl) dX12_consolidate_34 ⟨Nat.le_of_ble_eq_true rfl, Nat.le_of_ble_eq_true rfl⟩ ⟨Nat.le_of_ble_eq_true rfl, Nat.le_of_ble_eq_true rfl⟩ (fun h H locs S w => ?_)
          refine W.cs (cells' := 0) (slots' := 0) rfl rfl ?_
          refine ql_aload_n (r := (some a0)) C dX12_consolidate_37 rfl (lv_at hl 0 rfl) ?_
          refine ql_getR C S qf_13_0 gw_1668 dX12_consolidate_38 w (fun r36 w => ?_)
          refine lv_iconst (v := (5 : Int32)) C.1.1 C.1.2.1 dX12_consolidate_41 (by decide) ?_
          refine lv_dup2_11 C.1.1 C.1.2.1 dX12_consolidate_42 rfl (ql_catR _) ?_
          refine ql_iald C S dX12_consolidate_43 w (fun x37 w => ?_)
          refine lv_iconst (v := (1 : Int32)) C.1.1 C.1.2.1 dX12_consolidate_44 (by decide) ?_
          refine lv_iadd C.1.1 C.1.2.1 dX12_consolidate_45 ?_
          refine ql_iast C S dX12_consolidate_46 w (fun h H locs S w => ?_)
          exact hB47 (qw_X12_consolidate_17 a0 Q n) ih xl1 _ _ _ _ S (lv_sub hl [0, 1] rfl) w
        · replace w := ql_if w c9
          refine lv_goto (tgt := 47) C.1.1 C.1.2.1 dX12_consolidate_29 (by decide) ?_
          exact hB47 (qw_X12_consolidate_17 a0 Q n) ih xl1 _ _ _ _ S (lv_sub hl [0, 1] rfl) w
  unfold qw_X12_consolidate at w
  refine ql_aload_n (r := (some a0)) C dX12_consolidate_0 rfl (lv_at hl 0 rfl) ?_
  refine ql_aload_n (r := (some a0)) C dX12_consolidate_1 rfl (lv_at hl 0 rfl) ?_
  refine ql_getR C S qf_13_0 gw_1668 dX12_consolidate_2 w (fun r38 w => ?_)
  refine ql_VV (As := [va_rf r38]) (rest := []) C S htab hlocks hl qy_X12_keeps qi_X12_keeps qs_X12_keeps gw_1753 (ci := 13) rfl w (fun b w => qm_X12_keeps l hl9 D _ b r38 _ _ w) rfl ⟨Nat.le_of_ble_eq_true rfl, Nat.le_of_ble_eq_true rfl⟩ ⟨rfl, rfl⟩ (by exact Nat.le_of_ble_eq_true rfl) (fun b e9 => by cases e9; rfl) dX12_consolidate_5 ⟨Nat.le_of_ble_eq_true rfl, Nat.le_of_ble_eq_true rfl⟩ ⟨Nat.le_of_ble_eq_true rfl, Nat.le_of_ble_eq_true rfl⟩ (fun h H locs S w => ?_)
  refine W.cs (cells' := 0) (slots' := 0) rfl rfl ?_
  refine ql_aload_n (r := (some a0)) C dX12_consolidate_8 rfl (lv_at hl 0 rfl) ?_
  refine ql_getR C S qf_13_0 gw_1668 dX12_consolidate_9 w (fun r40 w => ?_)
  refine lv_iconst (v := (0 : Int32)) C.1.1 C.1.2.1 dX12_consolidate_12 (by decide) ?_
  refine ql_iald C S dX12_consolidate_13 w (fun x41 w => ?_)
  refine lv_iconst (v := (1 : Int32)) C.1.1 C.1.2.1 dX12_consolidate_14 (by decide) ?_
  refine lv_isub C.1.1 C.1.2.1 dX12_consolidate_15 ?_
  refine lv_istore_n (lv' := [(1, .int (x41 - (1 : Int32))), (0, .ref a0)]) C.1.1 C.1.2.1 dX12_consolidate_16 rfl hl (by decide) rfl (fun ls hl => ?_)
  exact hB17 ql_FU (x41 - (1 : Int32)) _ _ _ _ S (lv_sub hl [1, 0] rfl) w
def qw_X12_advance_105 (a0 : Nat) (Q : Int32 → ql_H → Prop) (k81 : Int32 → Int32 → ql_H → Prop) (xl3 : Int32) (xs0 : Int32) (xs1 : Int32) (h : ql_H) : Prop :=
k81 (xs0 + xs1) (xl3 + (1 : Int32)) h
def qw_X12_advance_81 (a0 : Nat) (Q : Int32 → ql_H → Prop) : Nat → Int32 → Int32 → ql_H → Prop
  | 0, _, _, _ => False
  | n + 1, xl2, xl3, h =>
    ql_gR h (some a0) 13 0 fun r1 =>
    ql_lI h r1 0 (0 : Int32) fun x2 =>
    if x2 ≤ xl3 then (Q xl2 h) else (ql_rv h (some a0) 13 fun b3 => qw_X12_isOver b3 xl3 h (fun x3 h =>
    if x3 = 0 then (qw_X12_advance_105 a0 Q (qw_X12_advance_81 a0 Q n) xl3 xl2 (0 : Int32) h) else (qw_X12_advance_105 a0 Q (qw_X12_advance_81 a0 Q n) xl3 xl2 (1 : Int32) h)))
def qw_X12_advance_61 (a0 : Nat) (Q : Int32 → ql_H → Prop) (k37 : Int32 → Int32 → Int32 → ql_H → Prop) (xl1 : Int32) (xl3 : Int32) (xs0 : Int32) (xs1 : Int32) (h : ql_H) : Prop :=
k37 xl1 (xs0 - xs1) (xl3 + (1 : Int32)) h
def qw_X12_advance_37 (a0 : Nat) (Q : Int32 → ql_H → Prop) : Nat → Int32 → Int32 → Int32 → ql_H → Prop
  | 0, _, _, _, _ => False
  | n + 1, xl1, xl2, xl3, h =>
    ql_gR h (some a0) 13 0 fun r5 =>
    ql_lI h r5 0 (0 : Int32) fun x6 =>
    if x6 ≤ xl3 then (ql_gR h (some a0) 13 0 fun r7 =>
    ql_lI h r7 0 (2 : Int32) fun x8 =>
    ql_sI h r7 0 (2 : Int32) (x8 + xl1) fun h =>
    qw_X12_advance_81 a0 Q ql_FU xl2 (0 : Int32) h) else (ql_rv h (some a0) 13 fun b9 => qw_X12_isOver b9 xl3 h (fun x9 h =>
    if x9 = 0 then (qw_X12_advance_61 a0 Q (qw_X12_advance_37 a0 Q n) xl1 xl3 xl2 (0 : Int32) h) else (qw_X12_advance_61 a0 Q (qw_X12_advance_37 a0 Q n) xl1 xl3 xl2 (1 : Int32) h)))
def qw_X12_advance_17 (a0 : Nat) (Q : Int32 → ql_H → Prop) (xl1 : Int32) (rs0 : Option Nat) (xs1 : Int32) (h : ql_H) : Prop :=
ql_rv h rs0 13 fun b11 => qw_X12_fails b11 xs1 h (fun x11 h =>
if x11 = 0 then (ql_gR h (some a0) 13 0 fun r13 =>
ql_rv h (some a0) 13 fun b13 => qw_X12_keeps b13 r13 h (fun h =>
qw_X12_advance_37 a0 Q ql_FU xl1 (0 : Int32) (0 : Int32) h)) else (Q (0 : Int32) h))
def qw_X12_advance (a0 : Nat) (xp1 : Int32) (h : ql_H) (Q : Int32 → ql_H → Prop) : Prop :=
qw_X12_in xp1 (1 : Int32) (400 : Int32) h (fun x15 h =>
if x15 = 0 then (qw_X12_advance_17 a0 Q xp1 (some a0) (1 : Int32) h) else (qw_X12_advance_17 a0 Q xp1 (some a0) (0 : Int32) h))
set_option maxHeartbeats 4000000 in
set_option maxRecDepth 100000 in
theorem qm_X12_advance (l : Launch) (hl9 : l.stackTraces = false) (D : ql_D) (h0 : ql_H) (a0 : Nat) (xp1 : Int32) (Q : Int32 → ql_H → Prop) (X : String → ql_H → Prop) (w : qw_X12_advance a0 xp1 h0 Q) : ql_M D l yX12_advance cX12_advance 4 (some .int) ({ frames := 6, cells := 0, slots := 0, locals := 110 } : Room) h0 [.ref a0, .int xp1] (ql_rI Q) X 0 0 := by
  refine ql_ofW (by decide) (Nat.le_of_ble_eq_true rfl) ?_
  intro p e s m below meth c ls C hr hlocks hnm htab S hl
  have hl : lv_has ls 4 [(0, .ref a0), (1, .int xp1)] := hl
  have hB105 : ∀ (k81 : Int32 → Int32 → ql_H → Prop) (hk81 : ∀ (xl2 : Int32) (xl3 : Int32) (h : ql_H) (H : Heap) (locs : List Loc) (ls : Array Slot), ql_S D h0 s H locs h → lv_has ls 4 [(0, .ref a0), (2, .int xl2), (3, .int xl3)] → k81 xl2 xl3 h → W p l e ({ frames := 6, cells := 0, slots := 0, locals := 110 } : Room) s m ([.ref a0, .int xp1] : List Value).toArray below meth c H locs 0 0 (vx_MQ below (ql_Q D h0 (ql_rI Q)) (ql_X D h0 X) ([.ref a0, .int xp1] : List Value).toArray s 0 0 (ql_A h0)) (F0 m 81 ls [])) , ∀ (xl3 : Int32) (xs0 : Int32) (xs1 : Int32) (h : ql_H) (H : Heap) (locs : List Loc) (ls : Array Slot), ql_S D h0 s H locs h → lv_has ls 4 [(0, .ref a0), (3, .int xl3)] → qw_X12_advance_105 a0 Q k81 xl3 xs0 xs1 h → W p l e ({ frames := 6, cells := 0, slots := 0, locals := 110 } : Room) s m ([.ref a0, .int xp1] : List Value).toArray below meth c H locs 0 0 (vx_MQ below (ql_Q D h0 (ql_rI Q)) (ql_X D h0 X) ([.ref a0, .int xp1] : List Value).toArray s 0 0 (ql_A h0)) (F0 m 105 ls [.int xs1, .int xs0]) := by
    intro k81 hk81 xl3 xs0 xs1 h H locs ls S hl w
    unfold qw_X12_advance_105 at w
    refine lv_iadd C.1.1 C.1.2.1 dX12_advance_105 ?_
    refine lv_istore_n (lv' := [(2, .int (xs0 + xs1)), (0, .ref a0), (3, .int xl3)]) C.1.1 C.1.2.1 dX12_advance_106 rfl hl (by decide) rfl (fun ls hl => ?_)
    refine lv_iinc (v := (xl3 + (1 : Int32))) (lv' := [(3, .int (xl3 + (1 : Int32))), (2, .int (xs0 + xs1)), (0, .ref a0)]) C.1.1 C.1.2.1 dX12_advance_107 hl (k := 2) rfl rfl (by decide) rfl (fun ls hl => ?_)
    refine lv_goto (tgt := 81) C.1.1 C.1.2.1 dX12_advance_110 (by decide) ?_
    exact hk81 (xs0 + xs1) (xl3 + (1 : Int32)) _ _ _ _ S (lv_sub hl [2, 1, 0] rfl) w
  have hB81 : ∀ n : Nat, ∀ (xl2 : Int32) (xl3 : Int32) (h : ql_H) (H : Heap) (locs : List Loc) (ls : Array Slot), ql_S D h0 s H locs h → lv_has ls 4 [(0, .ref a0), (2, .int xl2), (3, .int xl3)] → qw_X12_advance_81 a0 Q n xl2 xl3 h → W p l e ({ frames := 6, cells := 0, slots := 0, locals := 110 } : Room) s m ([.ref a0, .int xp1] : List Value).toArray below meth c H locs 0 0 (vx_MQ below (ql_Q D h0 (ql_rI Q)) (ql_X D h0 X) ([.ref a0, .int xp1] : List Value).toArray s 0 0 (ql_A h0)) (F0 m 81 ls []) := by
    intro n
    induction n with
    | zero => intro xl2 xl3 h H locs ls S hl w; rw [qw_X12_advance_81] at w; exact w.elim
    | succ n ih =>
      intro xl2 xl3 h H locs ls S hl w
      rw [qw_X12_advance_81] at w
      refine lv_iload_n C.1.1 C.1.2.1 dX12_advance_81 rfl (lv_at hl 2 rfl) ?_
      refine ql_aload_n (r := (some a0)) C dX12_advance_82 rfl (lv_at hl 0 rfl) ?_
      refine ql_getR C S qf_13_0 gw_1668 dX12_advance_83 w (fun r1 w => ?_)
      refine lv_iconst (v := (0 : Int32)) C.1.1 C.1.2.1 dX12_advance_86 (by decide) ?_
      refine ql_iald C S dX12_advance_87 w (fun x2 w => ?_)
      refine lv_icmp_ge (tgt := 113) C.1.1 C.1.2.1 dX12_advance_88 (by decide) (fun c9 => ?_) (fun c9 => ?_)
      · replace w := ql_if w c9
        refine lv_iload_n C.1.1 C.1.2.1 dX12_advance_113 rfl (lv_at hl 1 rfl) ?_
        exact ql_iret C S hr hlocks dX12_advance_114 ⟨Nat.le_of_ble_eq_true rfl, Nat.le_of_ble_eq_true rfl⟩ w
      · replace w := ql_ifn w c9
        refine lv_iload_n C.1.1 C.1.2.1 dX12_advance_91 rfl (lv_at hl 1 rfl) ?_
        refine ql_aload_n (r := (some a0)) C dX12_advance_92 rfl (lv_at hl 0 rfl) ?_
        refine lv_iload_n C.1.1 C.1.2.1 dX12_advance_93 rfl (lv_at hl 2 rfl) ?_
        refine ql_VI (As := [.int xl3]) (rest := [.int xl2]) C S htab hlocks hl qy_X12_isOver qi_X12_isOver qs_X12_isOver gw_1812 (ci := 13) rfl w (fun b w => qm_X12_isOver l hl9 D _ b xl3 _ _ w) rfl ⟨Nat.le_of_ble_eq_true rfl, Nat.le_of_ble_eq_true rfl⟩ ⟨rfl, rfl⟩ (by exact Nat.le_of_ble_eq_true rfl) (fun b e9 => by cases e9; rfl) dX12_advance_94 ⟨Nat.le_of_ble_eq_true rfl, Nat.le_of_ble_eq_true rfl⟩ ⟨Nat.le_of_ble_eq_true rfl, Nat.le_of_ble_eq_true rfl⟩ (fun x3 h H locs S w => ?_)
        refine W.cs (cells' := 0) (slots' := 0) rfl rfl ?_
        refine lv_if_eq (tgt := 104) C.1.1 C.1.2.1 dX12_advance_97 (by decide) (fun c9 => ?_) (fun c9 => ?_)
        · replace w := ql_if w c9
          refine lv_iconst (v := (0 : Int32)) C.1.1 C.1.2.1 dX12_advance_104 (by decide) ?_
          exact hB105 (qw_X12_advance_81 a0 Q n) ih xl3 xl2 (0 : Int32) _ _ _ _ S (lv_sub hl [0, 2] rfl) w
        · replace w := ql_ifn w c9
          refine lv_iconst (v := (1 : Int32)) C.1.1 C.1.2.1 dX12_advance_100 (by decide) ?_
          refine lv_goto (tgt := 105) C.1.1 C.1.2.1 dX12_advance_101 (by decide) ?_
          exact hB105 (qw_X12_advance_81 a0 Q n) ih xl3 xl2 (1 : Int32) _ _ _ _ S (lv_sub hl [0, 2] rfl) w
  have hB61 : ∀ (k37 : Int32 → Int32 → Int32 → ql_H → Prop) (hk37 : ∀ (xl1 : Int32) (xl2 : Int32) (xl3 : Int32) (h : ql_H) (H : Heap) (locs : List Loc) (ls : Array Slot), ql_S D h0 s H locs h → lv_has ls 4 [(0, .ref a0), (1, .int xl1), (2, .int xl2), (3, .int xl3)] → k37 xl1 xl2 xl3 h → W p l e ({ frames := 6, cells := 0, slots := 0, locals := 110 } : Room) s m ([.ref a0, .int xp1] : List Value).toArray below meth c H locs 0 0 (vx_MQ below (ql_Q D h0 (ql_rI Q)) (ql_X D h0 X) ([.ref a0, .int xp1] : List Value).toArray s 0 0 (ql_A h0)) (F0 m 37 ls [])) , ∀ (xl1 : Int32) (xl3 : Int32) (xs0 : Int32) (xs1 : Int32) (h : ql_H) (H : Heap) (locs : List Loc) (ls : Array Slot), ql_S D h0 s H locs h → lv_has ls 4 [(0, .ref a0), (1, .int xl1), (3, .int xl3)] → qw_X12_advance_61 a0 Q k37 xl1 xl3 xs0 xs1 h → W p l e ({ frames := 6, cells := 0, slots := 0, locals := 110 } : Room) s m ([.ref a0, .int xp1] : List Value).toArray below meth c H locs 0 0 (vx_MQ below (ql_Q D h0 (ql_rI Q)) (ql_X D h0 X) ([.ref a0, .int xp1] : List Value).toArray s 0 0 (ql_A h0)) (F0 m 61 ls [.int xs1, .int xs0]) := by
    intro k37 hk37 xl1 xl3 xs0 xs1 h H locs ls S hl w
    unfold qw_X12_advance_61 at w
    refine lv_isub C.1.1 C.1.2.1 dX12_advance_61 ?_
    refine lv_istore_n (lv' := [(2, .int (xs0 - xs1)), (0, .ref a0), (1, .int xl1), (3, .int xl3)]) C.1.1 C.1.2.1 dX12_advance_62 rfl hl (by decide) rfl (fun ls hl => ?_)
    refine lv_iinc (v := (xl3 + (1 : Int32))) (lv' := [(3, .int (xl3 + (1 : Int32))), (2, .int (xs0 - xs1)), (0, .ref a0), (1, .int xl1)]) C.1.1 C.1.2.1 dX12_advance_63 hl (k := 3) rfl rfl (by decide) rfl (fun ls hl => ?_)
    refine lv_goto (tgt := 37) C.1.1 C.1.2.1 dX12_advance_66 (by decide) ?_
    exact hk37 xl1 (xs0 - xs1) (xl3 + (1 : Int32)) _ _ _ _ S (lv_sub hl [2, 3, 1, 0] rfl) w
  have hB37 : ∀ n : Nat, ∀ (xl1 : Int32) (xl2 : Int32) (xl3 : Int32) (h : ql_H) (H : Heap) (locs : List Loc) (ls : Array Slot), ql_S D h0 s H locs h → lv_has ls 4 [(0, .ref a0), (1, .int xl1), (2, .int xl2), (3, .int xl3)] → qw_X12_advance_37 a0 Q n xl1 xl2 xl3 h → W p l e ({ frames := 6, cells := 0, slots := 0, locals := 110 } : Room) s m ([.ref a0, .int xp1] : List Value).toArray below meth c H locs 0 0 (vx_MQ below (ql_Q D h0 (ql_rI Q)) (ql_X D h0 X) ([.ref a0, .int xp1] : List Value).toArray s 0 0 (ql_A h0)) (F0 m 37 ls []) := by
    intro n
    induction n with
    | zero => intro xl1 xl2 xl3 h H locs ls S hl w; rw [qw_X12_advance_37] at w; exact w.elim
    | succ n ih =>
      intro xl1 xl2 xl3 h H locs ls S hl w
      rw [qw_X12_advance_37] at w
      refine lv_iload_n C.1.1 C.1.2.1 dX12_advance_37 rfl (lv_at hl 3 rfl) ?_
      refine ql_aload_n (r := (some a0)) C dX12_advance_38 rfl (lv_at hl 0 rfl) ?_
      refine ql_getR C S qf_13_0 gw_1668 dX12_advance_39 w (fun r5 w => ?_)
      refine lv_iconst (v := (0 : Int32)) C.1.1 C.1.2.1 dX12_advance_42 (by decide) ?_
      refine ql_iald C S dX12_advance_43 w (fun x6 w => ?_)
      refine lv_icmp_ge (tgt := 69) C.1.1 C.1.2.1 dX12_advance_44 (by decide) (fun c9 => ?_) (fun c9 => ?_)
      · replace w := ql_if w c9
        refine ql_aload_n (r := (some a0)) C dX12_advance_69 rfl (lv_at hl 0 rfl) ?_
        refine ql_getR C S qf_13_0 gw_1668 dX12_advance_70 w (fun r7 w => ?_)
        refine lv_iconst (v := (2 : Int32)) C.1.1 C.1.2.1 dX12_advance_73 (by decide) ?_
        refine lv_dup2_11 C.1.1 C.1.2.1 dX12_advance_74 rfl (ql_catR _) ?_
        refine ql_iald C S dX12_advance_75 w (fun x8 w => ?_)
        refine lv_iload_n C.1.1 C.1.2.1 dX12_advance_76 rfl (lv_at hl 1 rfl) ?_
        refine lv_iadd C.1.1 C.1.2.1 dX12_advance_77 ?_
        refine ql_iast C S dX12_advance_78 w (fun h H locs S w => ?_)
        refine lv_iconst (v := (0 : Int32)) C.1.1 C.1.2.1 dX12_advance_79 (by decide) ?_
        refine lv_istore_n (lv' := [(3, .int (0 : Int32)), (0, .ref a0), (1, .int xl1), (2, .int xl2)]) C.1.1 C.1.2.1 dX12_advance_80 rfl hl (by decide) rfl (fun ls hl => ?_)
        exact hB81 ql_FU xl2 (0 : Int32) _ _ _ _ S (lv_sub hl [1, 3, 0] rfl) w
      · replace w := ql_ifn w c9
        refine lv_iload_n C.1.1 C.1.2.1 dX12_advance_47 rfl (lv_at hl 2 rfl) ?_
        refine ql_aload_n (r := (some a0)) C dX12_advance_48 rfl (lv_at hl 0 rfl) ?_
        refine lv_iload_n C.1.1 C.1.2.1 dX12_advance_49 rfl (lv_at hl 3 rfl) ?_
        refine ql_VI (As := [.int xl3]) (rest := [.int xl2]) C S htab hlocks hl qy_X12_isOver qi_X12_isOver qs_X12_isOver gw_1812 (ci := 13) rfl w (fun b w => qm_X12_isOver l hl9 D _ b xl3 _ _ w) rfl ⟨Nat.le_of_ble_eq_true rfl, Nat.le_of_ble_eq_true rfl⟩ ⟨rfl, rfl⟩ (by exact Nat.le_of_ble_eq_true rfl) (fun b e9 => by cases e9; rfl) dX12_advance_50 ⟨Nat.le_of_ble_eq_true rfl, Nat.le_of_ble_eq_true rfl⟩ ⟨Nat.le_of_ble_eq_true rfl, Nat.le_of_ble_eq_true rfl⟩ (fun x9 h H locs S w => ?_)
        refine W.cs (cells' := 0) (slots' := 0) rfl rfl ?_
        refine lv_if_eq (tgt := 60) C.1.1 C.1.2.1 dX12_advance_53 (by decide) (fun c9 => ?_) (fun c9 => ?_)
        · replace w := ql_if w c9
          refine lv_iconst (v := (0 : Int32)) C.1.1 C.1.2.1 dX12_advance_60 (by decide) ?_
          exact hB61 (qw_X12_advance_37 a0 Q n) ih xl1 xl3 xl2 (0 : Int32) _ _ _ _ S (lv_sub hl [0, 1, 3] rfl) w
        · replace w := ql_ifn w c9
          refine lv_iconst (v := (1 : Int32)) C.1.1 C.1.2.1 dX12_advance_56 (by decide) ?_
          refine lv_goto (tgt := 61) C.1.1 C.1.2.1 dX12_advance_57 (by decide) ?_
          exact hB61 (qw_X12_advance_37 a0 Q n) ih xl1 xl3 xl2 (1 : Int32) _ _ _ _ S (lv_sub hl [0, 1, 3] rfl) w
  have hB17 : ∀ (xl1 : Int32) (rs0 : Option Nat) (xs1 : Int32) (h : ql_H) (H : Heap) (locs : List Loc) (ls : Array Slot), ql_S D h0 s H locs h → lv_has ls 4 [(0, .ref a0), (1, .int xl1)] → qw_X12_advance_17 a0 Q xl1 rs0 xs1 h → W p l e ({ frames := 6, cells := 0, slots := 0, locals := 110 } : Room) s m ([.ref a0, .int xp1] : List Value).toArray below meth c H locs 0 0 (vx_MQ below (ql_Q D h0 (ql_rI Q)) (ql_X D h0 X) ([.ref a0, .int xp1] : List Value).toArray s 0 0 (ql_A h0)) (F0 m 17 ls [.int xs1, va_rf rs0]) := by
    intro xl1 rs0 xs1 h H locs ls S hl w
    unfold qw_X12_advance_17 at w
    refine ql_VI (As := [.int xs1]) (rest := []) C S htab hlocks hl qy_X12_fails qi_X12_fails qs_X12_fails gw_1749 (ci := 13) rfl w (fun b w => qm_X12_fails l hl9 D _ b xs1 _ _ w) rfl ⟨Nat.le_of_ble_eq_true rfl, Nat.le_of_ble_eq_true rfl⟩ ⟨rfl, rfl⟩ (by exact Nat.le_of_ble_eq_true rfl) (fun b e9 => by cases e9; rfl) dX12_advance_17 ⟨Nat.le_of_ble_eq_true rfl, Nat.le_of_ble_eq_true rfl⟩ ⟨Nat.le_of_ble_eq_true rfl, Nat.le_of_ble_eq_true rfl⟩ (fun x11 h H locs S w => ?_)
    refine W.cs (cells' := 0) (slots' := 0) rfl rfl ?_
    refine lv_if_eq (tgt := 25) C.1.1 C.1.2.1 dX12_advance_20 (by decide) (fun c9 => ?_) (fun c9 => ?_)
    · replace w := ql_if w c9
      refine ql_aload_n (r := (some a0)) C dX12_advance_25 rfl (lv_at hl 0 rfl) ?_
      refine ql_aload_n (r := (some a0)) C dX12_advance_26 rfl (lv_at hl 0 rfl) ?_
      refine ql_getR C S qf_13_0 gw_1668 dX12_advance_27 w (fun r13 w => ?_)
      refine ql_VV (As := [va_rf r13]) (rest := []) C S htab hlocks hl qy_X12_keeps qi_X12_keeps qs_X12_keeps gw_1753 (ci := 13) rfl w (fun b w => qm_X12_keeps l hl9 D _ b r13 _ _ w) rfl ⟨Nat.le_of_ble_eq_true rfl, Nat.le_of_ble_eq_true rfl⟩ ⟨rfl, rfl⟩ (by exact Nat.le_of_ble_eq_true rfl) (fun b e9 => by cases e9; rfl) dX12_advance_30 ⟨Nat.le_of_ble_eq_true rfl, Nat.le_of_ble_eq_true rfl⟩ ⟨Nat.le_of_ble_eq_true rfl, Nat.le_of_ble_eq_true rfl⟩ (fun h H locs S w => ?_)
      refine W.cs (cells' := 0) (slots' := 0) rfl rfl ?_
      refine lv_iconst (v := (0 : Int32)) C.1.1 C.1.2.1 dX12_advance_33 (by decide) ?_
      refine lv_istore_n (lv' := [(2, .int (0 : Int32)), (0, .ref a0), (1, .int xl1)]) C.1.1 C.1.2.1 dX12_advance_34 rfl hl (by decide) rfl (fun ls hl => ?_)
      refine lv_iconst (v := (0 : Int32)) C.1.1 C.1.2.1 dX12_advance_35 (by decide) ?_
      refine lv_istore_n (lv' := [(3, .int (0 : Int32)), (2, .int (0 : Int32)), (0, .ref a0), (1, .int xl1)]) C.1.1 C.1.2.1 dX12_advance_36 rfl hl (by decide) rfl (fun ls hl => ?_)
      exact hB37 ql_FU xl1 (0 : Int32) (0 : Int32) _ _ _ _ S (lv_sub hl [2, 3, 1, 0] rfl) w
    · replace w := ql_ifn w c9
      refine lv_iconst (v := (0 : Int32)) C.1.1 C.1.2.1 dX12_advance_23 (by decide) ?_
      exact ql_iret C S hr hlocks dX12_advance_24 ⟨Nat.le_of_ble_eq_true rfl, Nat.le_of_ble_eq_true rfl⟩ w
  unfold qw_X12_advance at w
  refine ql_aload_n (r := (some a0)) C dX12_advance_0 rfl (lv_at hl 0 rfl) ?_
  refine lv_iload_n C.1.1 C.1.2.1 dX12_advance_1 rfl (lv_at hl 1 rfl) ?_
  refine lv_iconst (v := (1 : Int32)) C.1.1 C.1.2.1 dX12_advance_2 (by decide) ?_
  refine lv_sipush (v := (400 : Int32)) C.1.1 C.1.2.1 dX12_advance_3 (by decide) ?_
  refine ql_SI (As := [.int xp1, .int (1 : Int32), .int (400 : Int32)]) (rest := [.ref a0]) C S htab hlocks hl qy_X12_in qi_X12_in gw_1735 (qm_X12_in l hl9 D _ xp1 (1 : Int32) (400 : Int32) _ _ w) rfl ⟨Nat.le_of_ble_eq_true rfl, Nat.le_of_ble_eq_true rfl⟩ ⟨rfl, rfl⟩ (by exact Nat.le_of_ble_eq_true rfl) rfl dX12_advance_6 ⟨Nat.le_of_ble_eq_true rfl, Nat.le_of_ble_eq_true rfl⟩ ⟨Nat.le_of_ble_eq_true rfl, Nat.le_of_ble_eq_true rfl⟩ (fun x15 h H locs S w => ?_)
  refine W.cs (cells' := 0) (slots' := 0) rfl rfl ?_
  refine lv_if_eq (tgt := 16) C.1.1 C.1.2.1 dX12_advance_9 (by decide) (fun c9 => ?_) (fun c9 => ?_)
  · replace w := ql_if w c9
    refine lv_iconst (v := (1 : Int32)) C.1.1 C.1.2.1 dX12_advance_16 (by decide) ?_
    exact hB17 xp1 (some a0) (1 : Int32) _ _ _ _ S (lv_sub hl [0, 1] rfl) w
  · replace w := ql_ifn w c9
    refine lv_iconst (v := (0 : Int32)) C.1.1 C.1.2.1 dX12_advance_12 (by decide) ?_
    refine lv_goto (tgt := 17) C.1.1 C.1.2.1 dX12_advance_13 (by decide) ?_
    exact hB17 xp1 (some a0) (0 : Int32) _ _ _ _ S (lv_sub hl [0, 1] rfl) w
