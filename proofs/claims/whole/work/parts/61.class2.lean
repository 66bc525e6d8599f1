/-! The class's other calls: typed letters, a script run, the output, steps back, what is saved. -/
section QCX
variable {σ : Nat → Nat} {h h1 g : ql_H} {b c N : Nat} {S : qa_S} {T : Option qa_L} {L : qa_L} {C : qc_T} {A : qa_C} {nm : Nat → String} {Q : Int32 → ql_H → Prop} {X : String → ql_H → Prop}
/-- the script's part, taken out and put back -/
theorem qx_at.scrL (H : qx_at σ h b S T) : ∃ a1 cap Cs n r, qs_at σ h (b + 740) a1 cap S.2.2.2.1 Cs n r ∧ (b + 741 < h.1 ∧ a1 < h.1 ∧ (a1 = b + 742 ∨ b + 792 ≤ a1)) ∧ (∀ g a3 cap3 l3, qu_at g (b + 741) a3 cap3 l3 → qu_fr (b + 741) a1 a3 h g → (∃ cap4 Cs4 n4 r4, qs_at σ g (b + 740) a3 cap4 l3 Cs4 n4 r4 ∧ cap4 = cap3 ∧ Cs4 = Cs ∧ n4 = n ∧ r4 = r) ∧ qx_at σ g b (S.1, S.2.1, S.2.2.1, l3, S.2.2.2.2) T ∧ qx_fr b h g) ∧ ∀ g Cs2 n2 r2, qs_at σ g (b + 740) a1 cap S.2.2.2.1 Cs2 n2 r2 → qs_fr (b + 740) h g → qx_at σ g b S T ∧ qx_fr b h g := by
  obtain ⟨o, ⟨k1, k2, k3⟩, ⟨a1, a2, ⟨cap, Cs, n, r, s1⟩, s2, s3, s4, s5, s6, s7⟩, y, e⟩ := H
  refine ⟨a1, cap, Cs, n, r, s1, ⟨by omega, s6, s4⟩, fun g a3 cap3 l3 K f => ?_, fun g Cs2 n2 r2 K f => ?_⟩
  · have kp : ∀ q, q < b + 792 → q ≠ b + 741 → q ≠ b + 742 → g.2 q = h.2 q := fun q q1 q2 q3 => f.2.1 q (by omega) q2 (by omega)
    have fa := f.2.2.1
    have f1 := f.1
    have sc : qs_at σ g (b + 740) a3 cap3 l3 Cs n r := by
      obtain ⟨x1, ⟨F, x2, x3⟩, x4, x5, x6⟩ := s1
      exact ⟨(kp _ (by omega) (by omega) (by omega)).trans x1, ⟨F, (kp _ (by omega) (by omega) (by omega)).trans x2, x3⟩, fun j hj => ⟨(kp _ (by omega) (by omega) (by omega)).trans (x4 j hj).1, (x4 j hj).2⟩, K, by omega⟩
    refine ⟨⟨cap3, Cs, n, r, sc, rfl, rfl, rfl, rfl⟩, ⟨(kp _ (by omega) (by omega) (by omega)).trans o, ⟨k1.kept fun q h1 h2 => kp q (by omega) (by omega) (by omega), k2.kept fun q h1 h2 => kp q (by omega) (by omega) (by omega), k3.kept fun q h1 h2 => kp q (by omega) (by omega) (by omega)⟩, ⟨a3, a2, ⟨cap3, Cs, n, r, sc⟩, s2.kept (kp _ (by omega) (by omega) (by omega)) (f.2.1 _ s7 (by omega) (fun z => s3 z.symm)), by omega, by omega, s5, f.2.2.2 s6, by omega⟩, y.kept fun q h1 h2 => kp q (by omega) (by omega) (by omega), by omega⟩, f1, fun q h1 h2 => kp q h2 (by omega) (by omega)⟩
  · have z := f.1
    exact ⟨⟨(f.2 _ (by omega) (by omega)).trans o, ⟨k1.kept fun q h1 h2 => f.2 q (by omega) (by omega), k2.kept fun q h1 h2 => f.2 q (by omega) (by omega), k3.kept fun q h1 h2 => f.2 q (by omega) (by omega)⟩, ⟨a1, a2, ⟨cap, Cs2, n2, r2, K⟩, s2.kept (f.2 _ (by omega) (by omega)) (f.2 _ (by omega) (by omega)), s3, s4, s5, by omega, by omega⟩, y.kept fun q h1 h2 => f.2 q (by omega) (by omega), by omega⟩, Nat.le_of_eq z.symm, fun q h1 h2 => f.2 q (by omega) (by omega)⟩
/-- the output's part -/
theorem qx_at.outL (H : qx_at σ h b S T) : ∃ a2 cap, qu_at h (b + 756) a2 cap S.2.2.2.2.2.2 ∧ (b + 756 < h.1 ∧ a2 < h.1) ∧ ∀ g a3 cap3 l3, qu_at g (b + 756) a3 cap3 l3 → qu_fr (b + 756) a2 a3 h g → qx_at σ g b (S.1, S.2.1, S.2.2.1, S.2.2.2.1, S.2.2.2.2.1, S.2.2.2.2.2.1, l3) T ∧ qx_fr b h g ∧ ∀ q, q < b + 756 → q < h.1 → g.2 q = h.2 q := by
  obtain ⟨o, ⟨k1, k2, k3⟩, ⟨a1, a2, s1, ⟨cap, s2⟩, s3, s4, s5, s6, s7⟩, y, e⟩ := H
  refine ⟨a2, cap, s2, ⟨by omega, s7⟩, fun g a3 cap3 l3 K f => ?_⟩
  have kp : ∀ q, q < b + 792 → q ≠ b + 756 → q ≠ b + 757 → g.2 q = h.2 q := fun q q1 q2 q3 => f.2.1 q (by omega) q2 (by omega)
  have fa := f.2.2.1
  have f1 := f.1
  exact ⟨⟨(kp _ (by omega) (by omega) (by omega)).trans o, ⟨k1.kept fun q h1 h2 => kp q (by omega) (by omega) (by omega), k2.kept fun q h1 h2 => kp q (by omega) (by omega) (by omega), k3.kept fun q h1 h2 => kp q (by omega) (by omega) (by omega)⟩, ⟨a1, a3, s1.kept (fun q h1 h2 => kp q (by omega) (by omega) (by omega)) (f.2.1 _ s6 (by omega) s3), ⟨cap3, K⟩, by omega, s4, by omega, by omega, f.2.2.2 s7⟩, y.kept fun q h1 h2 => kp q (by omega) (by omega) (by omega), by omega⟩, ⟨f1, fun q h1 h2 => kp q h2 (by omega) (by omega)⟩, fun q h1 h2 => kp q (by omega) (by omega) (by omega)⟩
/-- a code, an answer, and what is left -/
def qx_pm (σ : Nat → Nat) (b : Nat) (h : ql_H) (nm : Nat → String) (r : Nat × Int32 × qa_S) (Q : Int32 → ql_H → Prop) (X : String → ql_H → Prop) : Prop := ∀ h1, qx_at σ h1 b r.2.2 none → qx_fr b h h1 → (r.1 = 0 → Q r.2.1 h1) ∧ (r.1 ≠ 0 → X (nm r.1) h1)
variable {r : Nat × Int32 × qa_S}
theorem qx_pm.ok (k : qx_pm σ b h nm r Q X) {S1 : qa_S} (H : qx_at σ g b S1 T) (f : qx_fr b h g) {x : Int32} (e : r = (0, x, S1)) : Q x g := by
  subst e
  exact (k g H.forget f).1 rfl
theorem qx_pm.no (k : qx_pm σ b h nm r Q X) {S1 : qa_S} (H : qx_at σ g b S1 T) (f : qx_fr b h g) {n : Nat} {x : Int32} (e : r = (n + 1, x, S1)) {s : String} (hs : nm (n + 1) = s) : ∀ n9, g.1 ≤ n9 → X s (n9, g.2) := fun n9 hn => by
  subst e
  rw [← hs]
  exact (k (n9, g.2) (H.low hn).forget (f.tr (qx_fr.low hn))).2 (Nat.succ_ne_zero n)
theorem qx_pq.pm {a : Nat × Int32} (k : qx_pm σ b h nm (a.1, a.2, S) Q X) : qx_pq σ b S h nm a Q X := k
def qx_n3 (e : Nat) : String := if e = 1 then "java/lang/IllegalArgumentException" else "java/lang/IllegalStateException"
def qx_n4 (_ : Nat) : String := "java/lang/IllegalStateException"
def qx_n5 (_ : Nat) : String := "java/lang/IndexOutOfBoundsException"
theorem qe_X11_type (H : qx_at σ h b S none) (h60 : S.2.2.2.1.length ≤ 60) {c : Nat} (hc : c < 65536) (k : qx_pm σ b h qx_n3 (qm_type S c) Q X) : qw_X11_type b (nI c) h Q X := by
  unfold qm_type at k
  unfold qw_X11_type
  by_cases z1 : c < 32
  · exact qp_iT (nI_lt (b := 32) z1 (by omega)) (k.no H qx_fr.rf (if_pos (Or.inl z1)) rfl)
  refine qp_iF (nI_nlt (a := c) (b := 32) (by omega) (by omega)) ?_
  by_cases z2 : 126 < c
  · exact qp_iF (nI_ge (a := 126) (b := c) z2 (by omega)) (k.no H qx_fr.rf (if_pos (Or.inr z2)) rfl)
  refine qp_iT (nI_le (a := c) (b := 126) (by omega) (by omega)) ?_
  rw [if_neg (by omega)] at k
  obtain ⟨a1, cap, Cs, n, r0, K, ⟨u1, u2, u3⟩, put, _⟩ := H.scrL
  rw [qx_r4 H, qs_rv K]
  unfold qw_X8_isFull
  rw [qs_r0 K, qs_sv K]
  refine qe_J4_len K.2.2.2.1 ?_
  by_cases z3 : S.2.2.2.1.length = 60
  · refine qp_iF (nI_nlt (a := S.2.2.2.1.length) (b := 60) (by omega) (by omega)) ⟨ql_nz1, qp_iF qp_1 ?_⟩
    exact k.no H qx_fr.rf (if_pos z3) rfl
  · refine qp_iT (nI_lt (b := 60) (by omega) (by omega)) ⟨ql_nz0, qp_iT rfl ?_⟩
    rw [if_neg z3] at k
    rw [qx_r4 H, qs_rv K]
    unfold qw_X8_append
    rw [qs_r0 K, qs_sv K]
    refine qe_J4_app K.2.2.2.1 ⟨u1, u2⟩ (by omega) (by omega) fun g a3 cap3 U f => ?_
    obtain ⟨⟨cap4, Cs4, n4, r4, K4, _⟩, H1, f1⟩ := put g a3 cap3 _ U f
    rw [qs_r0 K4, qs_sv K4]
    refine qe_J4_len U ?_
    rw [List.length_append]
    exact k.ok H1 f1 rfl
theorem qe_X8_empty (K : ∃ a cap l, qu_at h (b + 741) a cap l) {n r : Nat} {cap : Nat} {Cs : Nat → qx_C} {a : Nat} {l : List Nat} (H : qs_at σ h (b + 740) a cap l Cs n r) {Q : ql_H → Prop} (k : ∀ h1, qu_at h1 (b + 741) a cap [] → qu_fr (b + 741) a a h h1 → Q h1) : qw_X8_empty (b + 740) h Q := by
  unfold qw_X8_empty
  rw [qs_r0 H, qs_sv H]
  exact qe_J4_set0 H.2.2.2.1 k
theorem qe_X11_runScript (H : qx_at σ h b S none) (w : qa_w S.1 N) (hN : N + 12 < 2 ^ 20) (hc : ∀ c ∈ S.2.2.2.1, c < 65536) (k : qx_pm σ b h qx_n3 (qm_run S) Q X) : qw_X11_runScript σ b h Q X := by
  unfold qm_run at k
  obtain ⟨a1, cap, Cs, n, r0, K, ⟨u1, u2, u3⟩, _, put⟩ := H.scrL
  unfold qw_X11_runScript
  rw [qx_r4 H, qs_rv K]
  refine qe_X8_read K fun g1 Cs1 n1 K1 f1 tm => ?_
  obtain ⟨H1, x1⟩ := put g1 Cs1 n1 _ K1 f1
  have rok := qz_rd_ok hc 12 0 [] (Nat.zero_le _) (fun C hC => absurd hC List.not_mem_nil)
  have rok : (∀ C ∈ (qz_read S.2.2.2.1).2.2, qz_okC C) ∧ (qz_read S.2.2.2.1).2.2.length ≤ 0 + 12 ∧ (qz_read S.2.2.2.1).2.1 ≤ S.2.2.2.1.length := rok
  have l70 := qs_l70 K
  generalize qz_read S.2.2.2.1 = R at K1 tm rok k ⊢
  have g1e := f1.1
  rw [qx_r4 H1, qs_rv K1]
  refine qe_X8_empty (b := b) ⟨_, _, _, K1.2.2.2.1⟩ K1 fun g2 U2 f2 => ?_
  have kp2 : ∀ q, q < b + 792 → q ≠ b + 741 → q ≠ b + 742 → g2.2 q = g1.2 q := fun q q1 q2 q3 => f2.2.1 q (by have := H1.2.2.2.2; omega) q2 (by omega)
  have K2 : qs_at σ g2 (b + 740) a1 cap [] Cs1 n1 R.2.1 := by
    obtain ⟨y1, ⟨F, y2, y3⟩, y4, y5, y6⟩ := K1
    exact ⟨(kp2 _ (by omega) (by omega) (by omega)).trans y1, ⟨F, (kp2 _ (by omega) (by omega) (by omega)).trans y2, y3⟩, fun j hj => ⟨(kp2 _ (by omega) (by omega) (by omega)).trans (y4 j hj).1, (y4 j hj).2⟩, U2, y6⟩
  have H2 : qx_at σ g2 b (S.1, S.2.1, S.2.2.1, [], S.2.2.2.2) none ∧ qx_fr b g1 g2 := by
    obtain ⟨o, ⟨k1, k2, k3⟩, ⟨a1', a2, ⟨cap', Cs', n', r', s1⟩, s2, s3, s4, s5, s6, s7⟩, y, e⟩ := H1
    have ea : a1' = a1 := by
      obtain ⟨yy, ff, p1, _⟩ := s1.2.2.2.1
      obtain ⟨yy2, ff2, p2, _⟩ := K1.2.2.2.1
      rw [p1] at p2
      have p2 := (Prod.mk.inj (Sum.inr.inj (Option.some.inj p2))).2
      have p2 := (List.cons.inj p2).1
      exact Value.ref.inj p2
    subst ea
    have fa := f2.1
    exact ⟨⟨(kp2 _ (by omega) (by omega) (by omega)).trans o, ⟨k1.kept fun q h1 h2 => kp2 q (by omega) (by omega) (by omega), k2.kept fun q h1 h2 => kp2 q (by omega) (by omega) (by omega), k3.kept fun q h1 h2 => kp2 q (by omega) (by omega) (by omega)⟩, ⟨a1', a2, ⟨cap, Cs1, n1, R.2.1, K2⟩, s2.kept (kp2 _ (by omega) (by omega) (by omega)) (f2.2.1 _ s7 (by omega) (fun z => s3 z.symm)), s3, s4, s5, by omega, by omega⟩, y.kept fun q h1 h2 => kp2 q (by omega) (by omega) (by omega), by omega⟩, fa, fun q h1 h2 => kp2 q h2 (by omega) (by omega)⟩
  obtain ⟨H2, x2⟩ := H2
  have fr2 := x1.tr x2
  by_cases z : R.1 = true
  · rw [z]
    refine qp_iF qp_1 ?_
    obtain ⟨en, tm2⟩ := tm z
    subst en
    refine qe_open H2 fun g3 H3 f3 => ?_
    have K3 : qs_at σ g3 (b + 740) a1 cap [] Cs1 R.2.2.length R.2.1 := K2.kept (fun q h1 h2 => f3.2 q (by omega)) (f3.2 _ (by omega))
    obtain ⟨B, G, RB⟩ := id H3.2.1.1
    rw [qx_r4 H3, qx_r0 H3, qs_rv K3]
    refine qe_X8_applyTo K3 rok.2.1 tm2 G RB w hN (by omega) (by omega) (fun g4 B4 L4 G4 R4 f4 er => ?_) fun g4 B4 L4 j G4 R4 f4 hj er => ?_
    · have H4 := H3.book (f4.mono (Nat.le_refl _) (by omega)) ⟨B4, G4, R4⟩
      refine qp_iT rfl ?_
      refine qe_keep H4 fun g5 H5 f5 => ?_
      have K5 : qs_at σ g5 (b + 740) a1 cap [] Cs1 R.2.2.length R.2.1 := (K3.kept (fun q h1 h2 => f4.2 q (by omega)) (f4.2 _ (by omega))).kept (fun q h1 h2 => f5.2 q (by omega)) (f5.2 _ (by omega))
      rw [qx_r4 H5, qs_gn K5]
      refine k.ok H5 (fr2.tr ((f3.x (by omega)).tr ((f4.x (by omega)).tr (f5.x (by omega))))) ?_
      unfold qm_runR
      rw [if_pos z, er]
    · have H4 := H3.book (f4.mono (Nat.le_refl _) (by omega)) ⟨B4, G4, R4⟩
      refine qp_iF (qp_nI_m1 (by omega)) ?_
      refine H4.fail fun g5 H5 f5 => ?_
      obtain ⟨B5, G5, _⟩ := id H5.2.1.1
      obtain ⟨Bk, π, ω, nn, Kn, KP, RW⟩ := id H5.2.1.2.2
      obtain ⟨⟨F, c1, _⟩, _⟩ := id Kn
      rw [qx_r3 H5, qx_r0 H5, qp_rv c1]
      refine qe_X6_abandon Kn G5 (RW _ rfl) (by omega) fun g6 B6 G6 R6 f6 => ?_
      have H6 := H5.book (f6.mono (Nat.le_refl _) (by omega)) ⟨B6, G6, R6⟩
      refine k.no (n := 1) (x := 0) H6 (fr2.tr ((f3.x (by omega)).tr ((f4.x (by omega)).tr (f5.tr (f6.x (by omega)))))) ?_ rfl
      unfold qm_runR
      rw [if_pos z, er]
  · have z := Bool.eq_false_iff.mpr z
    rw [z]
    refine qp_iT rfl ?_
    rw [qx_r4 H2, qs_gr K2]
    refine H2.err fun g3 H3 f3 => ?_
    refine k.no (n := 0) (x := 0) H3 (fr2.tr f3) ?_ rfl
    unfold qm_runR
    rw [z]
    rfl
theorem qe_X11_errorPosition (H : qx_at σ h b S none) (he : S.2.2.2.2.1 = -1 ∨ ¬ S.2.2.2.2.1 < 0) (k : qx_pq σ b S h qx_n1 (qm_err S.2.2.2.2.1) Q X) : qw_X11_errorPosition b h Q X := by
  unfold qw_X11_errorPosition
  rw [qx_g5 H]
  refine qp_if (fun z => k.no H qx_fr.rf (if_pos (by rw [z]; decide)) rfl) fun z => ?_
  rw [qx_g5 H]
  refine k.ok H qx_fr.rf (if_neg ?_)
  rcases he with y | y
  · exact absurd y z
  · exact y
theorem qe_X11_failedCommand (H : qx_at σ h b S none) (he : S.2.2.2.2.2.1 = -1 ∨ ¬ S.2.2.2.2.2.1 < 0) (k : qx_pq σ b S h qx_n1 (qm_err S.2.2.2.2.2.1) Q X) : qw_X11_failedCommand b h Q X := by
  unfold qw_X11_failedCommand
  rw [qx_g6 H]
  refine qp_if (fun z => k.no H qx_fr.rf (if_pos (by rw [z]; decide)) rfl) fun z => ?_
  rw [qx_g6 H]
  refine k.ok H qx_fr.rf (if_neg ?_)
  rcases he with y | y
  · exact absurd y z
  · exact y
theorem qe_X11_outputAt (H : qx_at σ h b S none) (h40 : S.2.2.2.2.2.2.length ≤ 40) (hc : ∀ c ∈ S.2.2.2.2.2.2, c < 65536) {p : Int32} (k : qx_pq σ b S h qx_n5 (qm_outAt S p) Q X) : qw_X11_outputAt b p h Q X := by
  unfold qw_X11_outputAt
  refine qp_if (fun z => k.no H qx_fr.rf (if_pos (Or.inl z)) rfl) fun z => ?_
  obtain ⟨a2, cap, U, _⟩ := H.outL
  rw [qx_r7 H, qu_rv U]
  refine qe_J4_len U ?_
  refine qp_if (fun y => ?_) fun y => k.no H qx_fr.rf (if_pos (Or.inr (Int32.not_lt.mp y))) rfl
  obtain ⟨j, hj, rfl⟩ := nI_of z
  have hjl : j < S.2.2.2.2.2.2.length := (nI_ltI hj (by omega)).mp y
  rw [qx_r7 H, qu_rv U]
  refine qe_J4_chr U hjl ⟨(pk_charN (hc _ (List.getElem_mem hjl))).1, k.ok H qx_fr.rf ?_⟩
  unfold qm_outAt
  rw [if_neg (fun q => by rcases q with q | q; exact z q; exact absurd y (Int32.not_lt.mpr q)), nI_clamp hj, List.getD_eq_getElem?_getD, List.getElem?_eq_getElem hjl]
  rfl
theorem qe_X11_undo (H : qx_at σ h b S none) (k : qx_pm σ b h qx_n1 (qm_undo S) Q X) : qw_X11_undo b h Q X := by
  obtain ⟨Bk, π, ω, n, K, KP, _⟩ := id H.2.1.2.2
  obtain ⟨⟨F, c1, _⟩, _, _, _, h8⟩ := id K
  obtain ⟨B, G, _⟩ := id H.2.1.1
  unfold qw_X11_undo
  rw [qx_r3 H, qp_gI (k := 3) c1 rfl]
  by_cases e : S.2.1.length = 0
  · refine qp_iT (by rw [e]; rfl) (k.no (n := 0) (x := 0) H qx_fr.rf ?_ rfl)
    unfold qm_undo
    rw [List.length_eq_zero_iff.mp e]
    rfl
  · obtain ⟨m, hm⟩ : ∃ m, S.2.1.length = m + 1 := ⟨S.2.1.length - 1, by omega⟩
    have eq : qm_undo S = (0, nI (S.2.1.length - 1), S.2.1[S.2.1.length - 1]'(by omega), S.2.1.dropLast, S.2.2) := by
      unfold qm_undo
      rw [List.getLast?_eq_getElem?, List.getElem?_eq_getElem (by omega)]
    refine qp_iF (nI_ne0 (by omega) (by omega)) ?_
    rw [qx_r3 H, qx_r0 H, qp_rv c1]
    refine qe_X6_stepBack K KP rfl G (by omega) (by omega) fun h1 B1 n1 g G1 R1 K1 P1 f1 f2 => ?_
    have ld : S.2.1.dropLast.length = S.2.1.length - 1 := List.length_dropLast
    have H1 : qx_at σ h1 b (S.2.1[S.2.1.length - 1]'(by omega), S.2.1.dropLast, S.2.2) none := by
      obtain ⟨o, ⟨k1, k2, k3⟩, ⟨a1, a2, s1, s2, s3, s4, s5, s6, s7⟩, y, e⟩ := H
      have kp : ∀ q, (q < b + 1 ∨ b + 740 ≤ q ∨ (b + 68 ≤ q ∧ q < b + 135)) → h1.2 q = h.2 q := fun q hq => (f2.2 q (by omega)).trans (f1.2 q (by omega))
      have z1 := f1.1
      have z2 := f2.1
      refine ⟨(kp _ (by omega)).trans o, ⟨⟨B1, G1, R1⟩, k2.kept fun q h1 h2 => kp q (by omega), ⟨Bk, π, ω, n1, ?_, P1, fun L e => by cases e⟩⟩, ⟨a1, a2, s1.kept (fun q h1 h2 => kp q (by omega)) (kp _ (by omega)), s2.kept (kp _ (by omega)) (kp _ (by omega)), s3, s4, s5, by omega, by omega⟩, y.kept fun q h1 h2 => kp q (by omega), by omega⟩
      show qn_at h1 (b + 135) Bk π ω n1 S.2.1.dropLast.length
      rw [ld]
      exact K1
    obtain ⟨⟨F2, c2, _⟩, _⟩ := id K1
    rw [qx_r3 H1, qp_gI (k := 3) c2 rfl]
    exact k.ok H1 ((f1.x (by omega)).tr (f2.x (by omega))) eq
theorem qe_X11_save (H : qx_at σ h b S none) (k : ∀ h1, qx_at σ h1 b (qm_save S) none → qx_fr b h h1 → Q (nI S.1.1.length) h1) : qw_X11_save b h Q := by
  obtain ⟨B, G, R⟩ := id H.2.1.1
  obtain ⟨B2, G2, _⟩ := id H.2.1.2.1
  unfold qw_X11_save
  rw [qx_r1 H, qx_r0 H, qb_rv G2]
  refine qe_X1_copyFrom G2 G (by omega) R.ex fun g1 B3 G3 e3 f1 => ?_
  have o1 : g1.2 b = some (.inr (12, qx_ob b (qx_has S.2.2.1) S.2.2.2.2.1 S.2.2.2.2.2.1)) := (f1.2 _ (by omega)).trans H.1
  rw [qp_pV o1 (by show 2 < 11; omega)]
  have H2 : qx_at σ (ql_up g1 b (.inr (12, (qx_ob b (qx_has S.2.2.1) S.2.2.2.2.1 S.2.2.2.2.2.1).set 2 (.int 1)))) b (qm_save S) none := by
    obtain ⟨o, ⟨k1, k2, k3⟩, ⟨a1, a2, s1, s2, s3, s4, s5, s6, s7⟩, y, e⟩ := H
    have kp : ∀ q, q ≠ b → (q < b + 68 ∨ b + 135 ≤ q) → (ql_up g1 b (.inr (12, (qx_ob b (qx_has S.2.2.1) S.2.2.2.2.1 S.2.2.2.2.2.1).set 2 (.int 1)))).2 q = h.2 q := fun q hq h2 => (qp_up_n hq).trans (f1.2 q (by omega))
    have z1 := f1.1
    exact ⟨qp_up_s, ⟨k1.kept fun q h1 h2 => kp q (by omega) (by omega), ⟨B3, G3.kept fun q h1 h2 => qp_up_n (by omega), fun L e => by cases e; exact R.eq e3⟩, k3.kept fun q h1 h2 => kp q (by omega) (by omega)⟩, ⟨a1, a2, s1.kept (fun q h1 h2 => kp q (by omega) (by omega)) (kp _ (by omega) (by omega)), s2.kept (kp _ (by omega) (by omega)) (kp _ (by omega) (by omega)), s3, s4, s5, by show a1 < g1.1; omega, by show a2 < g1.1; omega⟩, y.kept fun q h1 h2 => kp q (by omega) (by omega), by show b + 792 ≤ g1.1; omega⟩
  have fr : qx_fr b h (ql_up g1 b (.inr (12, (qx_ob b (qx_has S.2.2.1) S.2.2.2.2.1 S.2.2.2.2.2.1).set 2 (.int 1)))) := ⟨Nat.le_of_eq f1.1.symm, fun q h1 h2 => (qp_up_n (by omega)).trans (f1.2 q (by omega))⟩
  obtain ⟨B5, G5, Sl, RS, P, F⟩ := id H2.2.1.1
  rw [qx_r0 H2, qb_rv G5]
  refine qe_X1_countClauses G5 RS ?_
  rw [P.length_eq]
  exact k _ H2 fr
theorem qe_X11_restore (H : qx_at σ h b S none) (k : qx_pm σ b h qx_n4 (qm_restore S) Q X) : qw_X11_restore b h Q X := by
  obtain ⟨B, G, _⟩ := id H.2.1.1
  obtain ⟨B2, G2, R2⟩ := id H.2.1.2.1
  unfold qw_X11_restore
  rw [qx_g2 H]
  cases eo : S.2.2.1 with
  | none =>
    refine qp_iT rfl (k.no (n := 0) (x := 0) H qx_fr.rf ?_ rfl)
    unfold qm_restore
    rw [eo]
  | some L =>
    have R2 := R2 L eo
    refine qp_iF (show ¬ (1 : Int32) = 0 by decide) ?_
    rw [qx_r0 H, qx_r1 H, qb_rv G]
    refine qe_X1_copyFrom G G2 (by omega) R2.ex fun g1 B3 G3 e3 f1 => ?_
    have H1 := H.book (f1.mono (Nat.le_refl _) (by omega)) ⟨B3, G3, R2.eq e3⟩
    obtain ⟨Bk, π, ω, n, K, KP, _⟩ := id H1.2.1.2.2
    obtain ⟨⟨F, c1, _⟩, _⟩ := id K
    rw [qx_r3 H1, qp_rv c1]
    refine qe_X6_clear K fun g2 K2 f2 => ?_
    have H2 := H1.hist (P := []) (T2 := none) f2 ⟨Bk, π, ω, n, K2, fun i hi => absurd hi (Nat.not_lt_zero i), fun L e => by cases e⟩
    obtain ⟨B5, G5, Sl, RS, P, F5⟩ := id H2.2.1.1
    rw [qx_r0 H2, qb_rv G5]
    refine qe_X1_countClauses G5 RS ?_
    rw [P.length_eq]
    refine k.ok H2 ((f1.x (by omega)).tr (f2.x (by omega))) ?_
    unfold qm_restore
    rw [eo]
/-! the description -/
def qx_w (S : qa_S) (l : List Nat) : qa_S := (S.1, S.2.1, S.2.2.1, S.2.2.2.1, S.2.2.2.2.1, S.2.2.2.2.2.1, l)
theorem qe_outC {l : List Nat} (H : qx_at σ h b (qx_w S l) T) (hl : l.length < 70) {c : Nat} (hc : c < 128) {Q : ql_H → Prop} (k : ∀ h1, qx_at σ h1 b (qx_w S (l ++ [c])) T → qx_fr b h h1 → (∀ q, q < b + 756 → h1.2 q = h.2 q) → Q h1) : ql_rv h (some (b + 756)) 1 fun b9 => qw_J4_append_cf468 b9 (nI c) h (fun _ h => Q h) := by
  obtain ⟨a2, cap, U, u, put⟩ := H.outL
  have e := H.2.2.2.2
  rw [qu_rv U]
  refine qe_J4_app U u hc hl fun g a3 cap3 U3 f => ?_
  obtain ⟨H1, f1, f2⟩ := put g a3 cap3 _ U3 f
  exact k g H1 f1 fun q hq => f2 q hq (by omega)
theorem qe_outN {l : List Nat} (H : qx_at σ h b (qx_w S l) T) (hl : l.length ≤ 60) {v : Nat} (hv : v < 2 ^ 31) {Q : ql_H → Prop} (k : ∀ h1, qx_at σ h1 b (qx_w S (l ++ qn_l v)) T → qx_fr b h h1 → (∀ q, q < b + 756 → h1.2 q = h.2 q) → Q h1) : ql_rv h (some (b + 756)) 1 fun b9 => qw_J4_append_bf812 σ b9 (nI v) h (fun _ h => Q h) := by
  obtain ⟨a2, cap, U, u, put⟩ := H.outL
  have e := H.2.2.2.2
  rw [qu_rv U]
  refine qe_J4_appN U u hv hl fun g a3 cap3 U3 f => ?_
  obtain ⟨H1, f1, f2⟩ := put g a3 cap3 _ U3 f
  exact k g H1 f1 fun q hq => f2 q hq (by omega)
theorem qe_X11_appendNotes {l : List Nat} (H : qx_at σ h b (qx_w S l) T) {T0 : Int64} {t : List Nat} (I : qt_is T0 t) (hl : l.length ≤ 40) {Q : ql_H → Prop} (k : ∀ h1, qx_at σ h1 b (qx_w S (l ++ qm_notes t)) T → qx_fr b h h1 → (∀ q, q < b + 756 → h1.2 q = h.2 q) → Q h1) : qw_X11_appendNotes b T0 h Q := by
  have t12 := I.1.2
  unfold qw_X11_appendNotes
  refine qe_X9_lenOf I ?_
  have hL : ∀ d j fu g, j + d = t.length → d < fu → qx_at σ g b (qx_w S (l ++ qm_notes (t.take j))) T → qx_fr b h g → (∀ q, q < b + 756 → g.2 q = h.2 q) → qw_X11_appendNotes_8 b Q fu T0 (nI t.length) (nI j) g := by
    intro d
    induction d with
    | zero =>
      intro j fu g hj hf G f e
      obtain ⟨fu, rfl⟩ : ∃ z, fu = z + 1 := ⟨fu - 1, by omega⟩
      rw [List.take_of_length_le (by omega)] at G
      unfold qw_X11_appendNotes_8
      exact qp_iT (nI_le (by omega) (by omega)) (k g G f e)
    | succ d ih =>
      intro j fu g hj hf G f e
      obtain ⟨fu, rfl⟩ : ∃ z, fu = z + 1 := ⟨fu - 1, by omega⟩
      have hj2 : j < t.length := by omega
      have a7 := I.1.1 _ (List.getElem_mem hj2)
      unfold qw_X11_appendNotes_8
      refine qp_iF (nI_ge hj2 (by omega)) ?_
      rw [qx_r7 G]
      refine qe_X9_noteOf I hj2 ?_
      refine qe_outC G ?_ (by omega) fun g1 G1 f1 e1 => ?_
      · unfold qm_notes
        rw [List.length_append, List.length_map, List.length_take]
        omega
      rw [nI_1]
      refine ih (j + 1) fu g1 (by omega) (by omega) ?_ (f.tr f1) fun q hq => (e1 q hq).trans (e q hq)
      have en : qm_notes (t.take (j + 1)) = qm_notes (t.take j) ++ [97 + t[j]] := by
        unfold qm_notes
        rw [List.take_succ_eq_append_getElem hj2, List.map_append]
        rfl
      rw [en, ← List.append_assoc]
      exact G1
  refine hL t.length 0 13 h (Nat.zero_add _) (by omega) ?_ qx_fr.rf fun _ _ => rfl
  rw [List.take_zero]
  show qx_at σ h b (qx_w S (l ++ [])) T
  rw [List.append_nil]
  exact H
theorem qe_X11_renderClause (H : qx_at σ h b S none) (w : qa_w S.1 N) (hN : N < 2 ^ 20) {x : Int32} (k : qx_pm σ b h qx_n1 (qm_render S x) Q X) : qw_X11_renderClause σ b x h Q X := by
  unfold qw_X11_renderClause
  rw [qx_rv H]
  obtain ⟨B, G, Sl, RS, P, F⟩ := id H.2.1.1
  unfold qw_X11_clauseOf
  rw [qx_r0 H, qb_rv G]
  refine qe_X1_clauseWithId G RS (fun i A hi e ei => ?_) fun e => ?_
  rotate_left
  · unfold qw_X11_existing
    refine qp_iT rfl (k.no (n := 0) (x := 0) H qx_fr.rf ?_ rfl)
    unfold qm_render
    rw [qs_findN P e]
  unfold qw_X11_existing
  refine qp_iF qp_N ?_
  have fA := qs_find P w.1.1 hi e
  rw [ei] at fA
  have hA := qs_mem P hi e
  have R := (RS i hi).1 A e
  obtain ⟨s, s1, s99, es⟩ := w.1.2.1.2 A hA
  have tok := R.tok
  have dgs := sb_dg_in s
  have epre : qm_pre A = qn_l s ++ [58] := by
    unfold qm_pre
    rw [es, nI_clamp (by omega)]
  have eq : qm_render S x = (0, nI (qm_text S.1 A).length, qx_w S (qm_text S.1 A)) := by
    unfold qm_render
    rw [fA]
    rfl
  have eP := qm_pre_len A
  have eE := qm_end_len A
  have t12 := tok.1.2
  have kp : ∀ g : ql_H, (∀ q, q < b + 756 → g.2 q = h.2 q) → qc_at g (b + 1 + 3 + 4 * i) (B.1 i) := fun g hg => (G.2.2.2 i hi).kept fun q h1 h2 => hg q (by omega)
  obtain ⟨a2, cap, U, u, put⟩ := H.outL
  have e792 := H.2.2.2.2
  dsimp only
  rw [qx_r7 H, qu_rv U]
  refine qe_J4_set0 U fun g1 U1 f1 => ?_
  obtain ⟨H1, y1, z1⟩ := put g1 a2 cap [] U1 f1
  have z1 : ∀ q, q < b + 756 → g1.2 q = h.2 q := fun q hq => z1 q hq (by omega)
  have H1 : qx_at σ g1 b (qx_w S []) none := H1
  rw [qx_r7 H1, qc_f (kp g1 z1) 2, R.1.2.2.1, es]
  refine qe_outN H1 (Nat.zero_le _) (by omega) fun g2 H2 y2 z2 => ?_
  have z2 : ∀ q, q < b + 756 → g2.2 q = h.2 q := fun q hq => (z2 q hq).trans (z1 q hq)
  rw [qx_r7 H2]
  refine qe_outC (c := 58) H2 (by rw [List.nil_append, qn_len]; omega) (by omega) fun g3 H3 y3 z3 => ?_
  have z3 : ∀ q, q < b + 756 → g3.2 q = h.2 q := fun q hq => (z3 q hq).trans (z2 q hq)
  rw [List.nil_append, ← epre] at H3
  rw [qc_rv (kp g3 z3)]
  refine qe_X3_txt (kp g3 z3) R fun T0 I => ?_
  rw [qx_rv H3]
  refine qe_X11_appendNotes H3 I (by omega) fun g4 H4 y4 z4 => ?_
  have z4 : ∀ q, q < b + 756 → g4.2 q = h.2 q := fun q hq => (z4 q hq).trans (z3 q hq)
  have fr4 := y1.tr (y2.tr (y3.tr y4))
  have nl : (qm_notes (qa_txt A)).length = (qa_txt A).length := List.length_map _
  have fin : ∀ g, qx_at σ g b (qx_w S (qm_pre A ++ qm_notes (qa_txt A) ++ qm_end A)) none → qx_fr b h g → (∀ q, q < b + 756 → g.2 q = h.2 q) → qw_X11_renderClause_73 σ b Q X (some (b + 1 + 3 + 4 * i)) g := by
    intro g Hg fg zg
    have last : ∀ gx, qx_at σ gx b (qx_w S (qm_text S.1 A)) none → qx_fr b h gx → qw_X11_renderClause_97 σ b Q X gx := fun gx Hx fx => by
      unfold qw_X11_renderClause_97
      obtain ⟨a5, cap5, U5, _⟩ := Hx.outL
      rw [qx_r7 Hx, qu_rv U5]
      exact qe_J4_len U5 (k.ok Hx fx eq)
    unfold qw_X11_renderClause_73
    rw [qx_r0 Hg, qx_day Hg, qc_rv (kp g zg)]
    refine qe_X3_holdsOn (kp g zg) ?_
    rw [R.hold]
    show (if qp_b (qa_hold A (S.1.2.1 2)) = 0 then _ else _)
    by_cases y : qa_hold A (S.1.2.1 2) = true
    · rw [y]
      refine qp_iF qp_1 (last g ?_ fg)
      unfold qm_text
      rw [if_pos y, List.append_nil]
      exact Hg
    · rw [Bool.eq_false_iff.mpr y]
      refine qp_iT rfl ?_
      rw [qx_r7 Hg]
      refine qe_outC (c := 33) Hg ?_ (by omega) fun gx Hx fx zx => last gx ?_ (fg.tr fx)
      · rw [List.length_append, List.length_append]
        omega
      · unfold qm_text
        rw [if_neg y]
        exact Hx
  rw [qc_rv (kp g4 z4)]
  refine qe_X3_hasSunset (kp g4 z4) ?_
  have esn := R.1.2.2.2.2
  rcases (w.1.2.2 A hA).1.2 with y | ⟨v, hv, y⟩
  · rw [esn, y]
    refine qp_iT rfl (fin g4 ?_ fr4 z4)
    unfold qm_end
    rw [if_pos y, List.append_nil]
    exact H4
  · have y1 : qa_sun A ≠ -1 := by
      rw [y]
      exact qp_nI_m1 (by omega)
    have e2 : ((B.1 i).1 4 != -1) = true := by
      rw [esn]
      simpa using y1
    have eend : qm_end A = 126 :: qn_l v := by
      unfold qm_end
      rw [if_neg y1, y, nI_clamp (by omega)]
    rw [e2]
    refine qp_iF qp_1 ?_
    rw [qx_r7 H4]
    refine qe_outC (c := 126) H4 ?_ (by omega) fun g5 H5 y5 z5 => ?_
    · rw [List.length_append]
      omega
    have z5 : ∀ q, q < b + 756 → g5.2 q = h.2 q := fun q hq => (z5 q hq).trans (z4 q hq)
    rw [qx_r7 H5, qc_f (kp g5 z5) 4, esn, y]
    refine qe_outN H5 ?_ (by omega) fun g6 H6 y6 z6 => fin g6 ?_ (fr4.tr (y5.tr y6)) fun q hq => (z6 q hq).trans (z5 q hq)
    · rw [List.length_append, List.length_append]
      show _ + 1 ≤ 60
      omega
    · rw [eend]
      rw [List.append_assoc] at H6
      exact H6
end QCX
