/-! The class's object and all that it holds. -/
section QCL
variable {σ : Nat → Nat} {h h1 g : ql_H} {b c o p u a N lo hi : Nat} {S : qa_S} {T T2 : Option qa_L} {L : qa_L} {P : List qa_L} {l : List Nat}
def qx_hist (h : ql_H) (o : Nat) (P : List qa_L) (T : Option qa_L) : Prop := ∃ (Bk : Nat → qb_T) (π : Nat → Nat) (ω n : Nat), qn_at h o Bk π ω n P.length ∧ qn_P Bk π n P ∧ ∀ L, T = some L → qr_L (Bk ω) L
def qx_book (h : ql_H) (c : Nat) (L : qa_L) : Prop := ∃ B, qb_at h c B ∧ qr_L B L
def qx_snap (h : ql_H) (c : Nat) (o : Option qa_L) : Prop := ∃ B, qb_at h c B ∧ ∀ L, o = some L → qr_L B L
def qx_scr (σ : Nat → Nat) (h : ql_H) (p a : Nat) (l : List Nat) : Prop := ∃ cap Cs n r, qs_at σ h p a cap l Cs n r
def qx_out (h : ql_H) (u a : Nat) (l : List Nat) : Prop := ∃ cap, qu_at h u a cap l
def qx_aux (h : ql_H) (b : Nat) : Prop := (∃ Wt, qd_at h (b + 758) Wt) ∧ (∃ c x, qh_at h (b + 773) c x) ∧ ∃ d c q, qg_at h (b + 776) d c q
def qx_ob (b : Nat) (f e x : Int32) : List Value := [.ref (b + 1), .ref (b + 68), .int f, .ref (b + 135), .ref (b + 740), .int e, .int x, .ref (b + 756), .ref (b + 758), .ref (b + 773), .ref (b + 776)]
def qx_has (o : Option qa_L) : Int32 := if o.isSome = true then 1 else 0
def qx_at (σ : Nat → Nat) (h : ql_H) (b : Nat) (S : qa_S) (T : Option qa_L) : Prop :=
  h.2 b = some (.inr (12, qx_ob b (qx_has S.2.2.1) S.2.2.2.2.1 S.2.2.2.2.2.1)) ∧ (qx_book h (b + 1) S.1 ∧ qx_snap h (b + 68) S.2.2.1 ∧ qx_hist h (b + 135) S.2.1 T) ∧ (∃ a1 a2, qx_scr σ h (b + 740) a1 S.2.2.2.1 ∧ qx_out h (b + 756) a2 S.2.2.2.2.2.2 ∧ a1 ≠ a2 ∧ (a1 = b + 742 ∨ b + 792 ≤ a1) ∧ (a2 = b + 757 ∨ b + 792 ≤ a2) ∧ a1 < h.1 ∧ a2 < h.1) ∧ qx_aux h b ∧ b + 792 ≤ h.1
theorem qx_book.kept (H : qx_book h c L) (e : ∀ q, c ≤ q → q < c + 67 → g.2 q = h.2 q) : qx_book g c L := by
  obtain ⟨B, H, R⟩ := H
  exact ⟨B, H.kept e, R⟩
theorem qx_snap.kept {o : Option qa_L} (H : qx_snap h c o) (e : ∀ q, c ≤ q → q < c + 67 → g.2 q = h.2 q) : qx_snap g c o := by
  obtain ⟨B, H, R⟩ := H
  exact ⟨B, H.kept e, R⟩
theorem qx_hist.kept (H : qx_hist h o P T) (e : ∀ q, o ≤ q → q < o + 605 → g.2 q = h.2 q) : qx_hist g o P T := by
  obtain ⟨Bk, π, ω, n, H, R⟩ := H
  exact ⟨Bk, π, ω, n, H.kept e, R⟩
theorem qs_at.kept {cap n r : Nat} {Cs : Nat → qx_C} (H : qs_at σ h p a cap l Cs n r) (e : ∀ q, p ≤ q → q < p + 16 → g.2 q = h.2 q) (ea : g.2 a = h.2 a) : qs_at σ g p a cap l Cs n r := by
  obtain ⟨a1, ⟨F, a2, a3⟩, a4, a5, a6⟩ := H
  exact ⟨(e _ (by omega) (by omega)).trans a1, ⟨F, (e _ (by omega) (by omega)).trans a2, a3⟩, fun j hj => ⟨(e _ (by omega) (by omega)).trans (a4 j hj).1, (a4 j hj).2⟩, a5.kept (e _ (by omega) (by omega)) ea, a6⟩
theorem qx_scr.kept (H : qx_scr σ h p a l) (e : ∀ q, p ≤ q → q < p + 16 → g.2 q = h.2 q) (ea : g.2 a = h.2 a) : qx_scr σ g p a l := by
  obtain ⟨cap, Cs, n, r, H⟩ := H
  exact ⟨cap, Cs, n, r, H.kept e ea⟩
theorem qx_out.kept (H : qx_out h u a l) (e : g.2 u = h.2 u) (ea : g.2 a = h.2 a) : qx_out g u a l := by
  obtain ⟨cap, H⟩ := H
  exact ⟨cap, H.kept e ea⟩
theorem qx_aux.kept (H : qx_aux h b) (e : ∀ q, b + 758 ≤ q → q < b + 780 → g.2 q = h.2 q) : qx_aux g b := by
  obtain ⟨⟨W, H1⟩, ⟨x, y, H2⟩, d, cl, qu, H3⟩ := H
  exact ⟨⟨W, H1.kept fun q h1 h2 => e q (by omega) (by omega)⟩, ⟨x, y, H2.kept fun q h1 h2 => e q (by omega) (by omega)⟩, d, cl, qu, H3.kept fun q h1 h2 => e q (by omega) (by omega)⟩
/-- what a call of the class may touch: not the reference's cells, not the law's -/
def qx_fr (b : Nat) (h h1 : ql_H) : Prop := h.1 ≤ h1.1 ∧ ∀ q, b + 780 ≤ q → q < b + 792 → h1.2 q = h.2 q
theorem qx_fr.rf : qx_fr b h h := ⟨Nat.le_refl _, fun _ _ _ => rfl⟩
theorem qx_fr.tr (f : qx_fr b h h1) (k : qx_fr b h1 g) : qx_fr b h g := ⟨Nat.le_trans f.1 k.1, fun q h1 h2 => (k.2 q h1 h2).trans (f.2 q h1 h2)⟩
theorem qp_fr.x (f : qp_fr lo hi h g) (hh : hi ≤ b + 780) : qx_fr b h g := ⟨Nat.le_of_eq f.1.symm, fun q h1 h2 => f.2 q (by omega)⟩
theorem qx_at.low (H : qx_at σ h b S T) {n : Nat} (hn : h.1 ≤ n) : qx_at σ (n, h.2) b S T := by
  obtain ⟨o, k, ⟨a1, a2, s1, s2, s3, s4, s5, s6, s7⟩, x, e⟩ := H
  exact ⟨o, k, ⟨a1, a2, s1, s2, s3, s4, s5, Nat.lt_of_lt_of_le s6 hn, Nat.lt_of_lt_of_le s7 hn⟩, x, Nat.le_trans e hn⟩
theorem qx_fr.low {n : Nat} (hn : h.1 ≤ n) : qx_fr b h (n, h.2) := ⟨hn, fun _ _ _ => rfl⟩
theorem qx_at.forget (H : qx_at σ h b S T) : qx_at σ h b S none := by
  obtain ⟨o, ⟨k1, k2, Bk, π, ω, n, k3, k4, _⟩, r⟩ := H
  exact ⟨o, ⟨k1, k2, Bk, π, ω, n, k3, k4, fun L z => by cases z⟩, r⟩
/-! one part changed -/
theorem qx_at.book (H : qx_at σ h b S T) (f : qp_fr (b + 1) (b + 68) h g) (K : qx_book g (b + 1) L) : qx_at σ g b (L, S.2) T := by
  obtain ⟨o, ⟨k1, k2, k3⟩, ⟨a1, a2, s1, s2, s3, s4, s5, s6, s7⟩, x, e⟩ := H
  have z := f.1
  exact ⟨(f.2 _ (by omega)).trans o, ⟨K, k2.kept fun q h1 h2 => f.2 q (by omega), k3.kept fun q h1 h2 => f.2 q (by omega)⟩, ⟨a1, a2, s1.kept (fun q h1 h2 => f.2 q (by omega)) (f.2 _ (by omega)), s2.kept (f.2 _ (by omega)) (f.2 _ (by omega)), s3, s4, s5, by omega, by omega⟩, x.kept fun q h1 h2 => f.2 q (by omega), by omega⟩
theorem qx_at.hist (H : qx_at σ h b S T) (f : qp_fr (b + 135) (b + 135 + 605) h g) (K : qx_hist g (b + 135) P T2) : qx_at σ g b (S.1, P, S.2.2) T2 := by
  obtain ⟨o, ⟨k1, k2, k3⟩, ⟨a1, a2, s1, s2, s3, s4, s5, s6, s7⟩, x, e⟩ := H
  have z := f.1
  exact ⟨(f.2 _ (by omega)).trans o, ⟨k1.kept fun q h1 h2 => f.2 q (by omega), k2.kept fun q h1 h2 => f.2 q (by omega), K⟩, ⟨a1, a2, s1.kept (fun q h1 h2 => f.2 q (by omega)) (f.2 _ (by omega)), s2.kept (f.2 _ (by omega)) (f.2 _ (by omega)), s3, s4, s5, by omega, by omega⟩, x.kept fun q h1 h2 => f.2 q (by omega), by omega⟩
theorem qx_at.aux (H : qx_at σ h b S T) (f : qp_fr (b + 758) (b + 780) h g) (K : qx_aux g b) : qx_at σ g b S T := by
  obtain ⟨o, ⟨k1, k2, k3⟩, ⟨a1, a2, s1, s2, s3, s4, s5, s6, s7⟩, x, e⟩ := H
  have z := f.1
  exact ⟨(f.2 _ (by omega)).trans o, ⟨k1.kept fun q h1 h2 => f.2 q (by omega), k2.kept fun q h1 h2 => f.2 q (by omega), k3.kept fun q h1 h2 => f.2 q (by omega)⟩, ⟨a1, a2, s1.kept (fun q h1 h2 => f.2 q (by omega)) (f.2 _ (by omega)), s2.kept (f.2 _ (by omega)) (f.2 _ (by omega)), s3, s4, s5, by omega, by omega⟩, K, by omega⟩
theorem qx_aux.diff (H : qx_aux h b) {W1 : Nat → Nat → Int32} (K : qd_at g (b + 758) W1) (f : qp_fr (b + 758) (b + 758 + 15) h g) : qx_aux g b ∧ qp_fr (b + 758) (b + 780) h g := by
  obtain ⟨_, ⟨x, y, H2⟩, d, cl, qu, H3⟩ := H
  exact ⟨⟨⟨W1, K⟩, ⟨x, y, H2.kept fun q h1 h2 => f.2 q (by omega)⟩, d, cl, qu, H3.kept fun q h1 h2 => f.2 q (by omega)⟩, f.mono (by omega) (by omega)⟩
theorem qx_aux.cnt (H : qx_aux h b) {c1 : Nat → Int32} {x1 : Nat → Int64} (K : qh_at g (b + 773) c1 x1) (f : qp_fr (b + 773) (b + 773 + 3) h g) : qx_aux g b ∧ qp_fr (b + 758) (b + 780) h g := by
  obtain ⟨⟨W, H1⟩, _, d, cl, qu, H3⟩ := H
  exact ⟨⟨⟨W, H1.kept fun q h1 h2 => f.2 q (by omega)⟩, ⟨c1, x1, K⟩, d, cl, qu, H3.kept fun q h1 h2 => f.2 q (by omega)⟩, f.mono (by omega) (by omega)⟩
theorem qx_aux.gr (H : qx_aux h b) {d1 c1 q1 : Nat → Int32} (K : qg_at g (b + 776) d1 c1 q1) (f : qp_fr (b + 776) (b + 776 + 4) h g) : qx_aux g b ∧ qp_fr (b + 758) (b + 780) h g := by
  obtain ⟨⟨W, H1⟩, ⟨x, y, H2⟩, _⟩ := H
  exact ⟨⟨⟨W, H1.kept fun q h1 h2 => f.2 q (by omega)⟩, ⟨x, y, H2.kept fun q h1 h2 => f.2 q (by omega)⟩, d1, c1, q1, K⟩, f.mono (by omega) (by omega)⟩
/-- two fields of its own -/
theorem qx_at.err (H : qx_at σ h b S T) {x : Int32} {Q : ql_H → Prop} (k : ∀ h1, qx_at σ h1 b (S.1, S.2.1, S.2.2.1, S.2.2.2.1, x, S.2.2.2.2.2) T → qx_fr b h h1 → Q h1) : ql_pV h (some b) 12 5 (.int x) Q := by
  obtain ⟨o, ⟨k1, k2, k3⟩, ⟨a1, a2, s1, s2, s3, s4, s5, s6, s7⟩, y, e⟩ := H
  rw [qp_pV o (by show 5 < 11; omega)]
  exact k _ ⟨qp_up_s, ⟨k1.kept fun q h1 h2 => qp_up_n (by omega), k2.kept fun q h1 h2 => qp_up_n (by omega), k3.kept fun q h1 h2 => qp_up_n (by omega)⟩, ⟨a1, a2, s1.kept (fun q h1 h2 => qp_up_n (by omega)) (qp_up_n (by omega)), s2.kept (qp_up_n (by omega)) (qp_up_n (by omega)), s3, s4, s5, s6, s7⟩, y.kept fun q h1 h2 => qp_up_n (by omega), e⟩ ⟨Nat.le_refl _, fun q h1 h2 => qp_up_n (by omega)⟩
theorem qx_at.fail (H : qx_at σ h b S T) {x : Int32} {Q : ql_H → Prop} (k : ∀ h1, qx_at σ h1 b (S.1, S.2.1, S.2.2.1, S.2.2.2.1, S.2.2.2.2.1, x, S.2.2.2.2.2.2) T → qx_fr b h h1 → Q h1) : ql_pV h (some b) 12 6 (.int x) Q := by
  obtain ⟨o, ⟨k1, k2, k3⟩, ⟨a1, a2, s1, s2, s3, s4, s5, s6, s7⟩, y, e⟩ := H
  rw [qp_pV o (by show 6 < 11; omega)]
  exact k _ ⟨qp_up_s, ⟨k1.kept fun q h1 h2 => qp_up_n (by omega), k2.kept fun q h1 h2 => qp_up_n (by omega), k3.kept fun q h1 h2 => qp_up_n (by omega)⟩, ⟨a1, a2, s1.kept (fun q h1 h2 => qp_up_n (by omega)) (qp_up_n (by omega)), s2.kept (qp_up_n (by omega)) (qp_up_n (by omega)), s3, s4, s5, s6, s7⟩, y.kept fun q h1 h2 => qp_up_n (by omega), e⟩ ⟨Nat.le_refl _, fun q h1 h2 => qp_up_n (by omega)⟩
/-! its fields read -/
theorem qx_rv (H : qx_at σ h b S T) {K : Nat → Prop} : ql_rv h (some b) 12 K = K b := qp_rv H.1
theorem qx_r0 (H : qx_at σ h b S T) {K : Option Nat → Prop} : ql_gR h (some b) 12 0 K = K (some (b + 1)) := qp_gR H.1 rfl
theorem qx_r1 (H : qx_at σ h b S T) {K : Option Nat → Prop} : ql_gR h (some b) 12 1 K = K (some (b + 68)) := qp_gR H.1 rfl
theorem qx_g2 (H : qx_at σ h b S T) {K : Int32 → Prop} : ql_gI h (some b) 12 2 K = K (qx_has S.2.2.1) := qp_gI H.1 rfl
theorem qx_r3 (H : qx_at σ h b S T) {K : Option Nat → Prop} : ql_gR h (some b) 12 3 K = K (some (b + 135)) := qp_gR H.1 rfl
theorem qx_r4 (H : qx_at σ h b S T) {K : Option Nat → Prop} : ql_gR h (some b) 12 4 K = K (some (b + 740)) := qp_gR H.1 rfl
theorem qx_g5 (H : qx_at σ h b S T) {K : Int32 → Prop} : ql_gI h (some b) 12 5 K = K S.2.2.2.2.1 := qp_gI H.1 rfl
theorem qx_g6 (H : qx_at σ h b S T) {K : Int32 → Prop} : ql_gI h (some b) 12 6 K = K S.2.2.2.2.2.1 := qp_gI H.1 rfl
theorem qx_r7 (H : qx_at σ h b S T) {K : Option Nat → Prop} : ql_gR h (some b) 12 7 K = K (some (b + 756)) := qp_gR H.1 rfl
theorem qx_r8 (H : qx_at σ h b S T) {K : Option Nat → Prop} : ql_gR h (some b) 12 8 K = K (some (b + 758)) := qp_gR H.1 rfl
theorem qx_r9 (H : qx_at σ h b S T) {K : Option Nat → Prop} : ql_gR h (some b) 12 9 K = K (some (b + 773)) := qp_gR H.1 rfl
theorem qx_r10 (H : qx_at σ h b S T) {K : Option Nat → Prop} : ql_gR h (some b) 12 10 K = K (some (b + 776)) := qp_gR H.1 rfl
/-! a change: ahead of it, behind it -/
theorem qe_open (H : qx_at σ h b S T) {Q : ql_H → Prop} (k : ∀ h1, qx_at σ h1 b S (some S.1) → qp_fr (b + 135) (b + 135 + 605) h h1 → Q h1) : ql_gR h (some b) 12 3 fun r1 => ql_gR h (some b) 12 0 fun r2 => ql_rv h r1 9 fun b2 => qw_X6_open b2 r2 h Q := by
  obtain ⟨B, G, R⟩ := id H.2.1.1
  obtain ⟨Bk, π, ω, n, K, KP, _⟩ := id H.2.1.2.2
  obtain ⟨⟨F, a1, _⟩, _⟩ := id K
  rw [qx_r3 H, qx_r0 H, qp_rv a1]
  refine qe_X6_open K G R (by omega) fun h1 B1 K1 R1 f => k h1 (H.hist f ⟨_, π, ω, n, K1, fun i hi => ?_, fun L e => ?_⟩) f
  · have ne := (K.2.2.1.2.1 ((n + 8 - i) % 8) (Nat.mod_lt _ (by omega))).2
    rw [va_up_ne _ _ ne]
    exact KP i hi
  · cases e
    rw [va_up_self]
    exact R1
def qx_nm (y : Int32) : String := if y = -5 then "java/lang/UnsupportedOperationException" else if y = -4 then "java/lang/IllegalStateException" else if y = -3 then "java/lang/IllegalArgumentException" else if y = -2 then "java/lang/IndexOutOfBoundsException" else "java/util/NoSuchElementException"
theorem qe_keep (H : qx_at σ h b S (some L)) {Q : ql_H → Prop} (k : ∀ h1, qx_at σ h1 b (S.1, qa_push S.2.1 L, S.2.2) none → qp_fr (b + 135) (b + 135 + 605) h h1 → Q h1) : ql_gR h (some b) 12 3 fun r1 => ql_rv h r1 9 fun b1 => qw_X6_keep b1 h Q := by
  obtain ⟨Bk, π, ω, n, K, KP, R⟩ := id H.2.1.2.2
  obtain ⟨⟨F, a1, _⟩, _⟩ := id K
  rw [qx_r3 H, qp_rv a1]
  exact qe_X6_keep K KP rfl (R L rfl) fun h1 π1 ω1 n1 K1 P1 f => k h1 (H.hist f ⟨Bk, π1, ω1, n1, K1, P1, fun L e => by cases e⟩) f
theorem qe_X11_settle {r : Int32 × qa_L} (H : qx_at σ h b (r.2, S.2) (some S.1)) (hr : r.1 < 0 → r.1 ∈ [(-1 : Int32), -2, -3, -4, -5]) {Q : Int32 → ql_H → Prop} {X : String → ql_H → Prop} (k : ∀ h1, qx_at σ h1 b (qa_did S r) none → qx_fr b h h1 → (r.1 < 0 → X (qx_nm r.1) h1) ∧ (¬ r.1 < 0 → Q r.1 h1)) : qw_X11_settle b r.1 h Q X := by
  by_cases z : r.1 < 0
  · have e : qa_did S r = (r.2, S.2) := by
      unfold qa_did
      rw [if_pos z]
    rw [e] at k
    have kk : ∀ n9, h.1 ≤ n9 → X (qx_nm r.1) (n9, h.2) := fun n9 hn => (k (n9, h.2) (H.low hn).forget (qx_fr.low hn)).1 z
    have hr := hr z
    generalize r.1 = y at kk hr ⊢
    unfold qw_X11_settle qw_X11_refuse
    rcases List.mem_cons.mp hr with rfl | hr
    · exact qp_iF (by decide) (qp_iF (by decide) (qp_iF (by decide) (qp_iF (by decide) (qp_iT rfl kk))))
    rcases List.mem_cons.mp hr with rfl | hr
    · exact qp_iF (by decide) (qp_iF (by decide) (qp_iF (by decide) (qp_iT rfl kk)))
    rcases List.mem_cons.mp hr with rfl | hr
    · exact qp_iF (by decide) (qp_iF (by decide) (qp_iT rfl kk))
    rcases List.mem_cons.mp hr with rfl | hr
    · exact qp_iF (by decide) (qp_iT rfl kk)
    rcases List.mem_cons.mp hr with rfl | hr
    · exact qp_iT rfl kk
    cases hr
  · have e : qa_did S r = (r.2, qa_push S.2.1 S.1, S.2.2) := by
      unfold qa_did
      rw [if_neg z]
    rw [e] at k
    have ne : ∀ y : Int32, y < 0 → ¬ r.1 = y := fun y hy q => z (q ▸ hy)
    unfold qw_X11_settle qw_X11_refuse
    refine qp_iF (ne _ (by decide)) (qp_iF (ne _ (by decide)) (qp_iF (ne _ (by decide)) (qp_iF (ne _ (by decide)) (qp_iF (ne _ (by decide)) ?_))))
    exact qe_keep H fun h1 H1 f1 => (k h1 H1 (f1.x (by omega))).2 z
/-- what a change of the class leaves -/
def qx_po (σ : Nat → Nat) (b : Nat) (S : qa_S) (h : ql_H) (r : Int32 × qa_L) (Q : Int32 → ql_H → Prop) (X : String → ql_H → Prop) : Prop := ∀ h1, qx_at σ h1 b (qa_did S r) none → qx_fr b h h1 → (r.1 < 0 → X (qx_nm r.1) h1) ∧ (¬ r.1 < 0 → Q r.1 h1)
/-- the book changed by one of its methods, then settled -/
theorem qe_done {r : Int32 × qa_L} (H : qx_at σ h b S (some S.1)) {B1 : qb_T} (G : qb_at g (b + 1) B1) (R : qr_L B1 r.2) (f : qp_fr (b + 1) (b + 1 + 67) h g) (hr : r.1 < 0 → r.1 ∈ [(-1 : Int32), -2, -3, -4, -5]) {Q : Int32 → ql_H → Prop} {X : String → ql_H → Prop} (k : qx_po σ b S h r Q X) : ql_rv g (some b) 12 fun b7 => qw_X11_settle b7 r.1 g Q X := by
  have H1 := H.book (f.mono (Nat.le_refl _) (by omega)) ⟨B1, G, R⟩
  rw [qx_rv H1]
  exact qe_X11_settle H1 hr fun h1 H2 f2 => k h1 H2 ((f.x (by omega)).tr f2)
theorem qx_sub5 {ks : List Int32} (s : ∀ y ∈ ks, y ∈ [(-1 : Int32), -2, -3, -4, -5]) {r : Int32 × qa_L} (n : qa_no L r ks) : r.1 < 0 → r.1 ∈ [(-1 : Int32), -2, -3, -4, -5] := fun z => s _ (n z).2
theorem qr_C.sh {C : qc_T} {A : qa_C} (R : qr_C C A) : qa_sh A := R.2.2.2
theorem qx_book.sh (H : qx_book h c L) : ∀ A ∈ L.1, qa_sh A := fun A hA => by
  obtain ⟨B, G, S, RS, P, _⟩ := H
  obtain ⟨i, hi, e⟩ := qs_ls_mem.mp (P.mem_iff.mpr hA)
  exact ((RS i hi).1 A e).2.2.2
theorem qx_book.l16 (H : qx_book h c L) : L.1.length ≤ 16 := by
  obtain ⟨B, G, S, RS, P, _⟩ := H
  rw [← P.length_eq]
  exact qs_ls_le S 16
theorem qx_po.fr {r : Int32 × qa_L} {Q : Int32 → ql_H → Prop} {X : String → ql_H → Prop} (k : qx_po σ b S h r Q X) (f : qx_fr b h g) : qx_po σ b S g r Q X := fun h1 H1 f1 => k h1 H1 (f.tr f1)
theorem qe_X11_addClause (H : qx_at σ h b S none) (w : qa_w S.1 N) (hN : N < 2 ^ 20) {s x : Int32} {Q : Int32 → ql_H → Prop} {X : String → ql_H → Prop} (k : qx_po σ b S h (qa_add S.1 s x) Q X) : qw_X11_addClause b s x h Q X := by
  unfold qw_X11_addClause
  refine qe_open H fun h1 H1 f1 => ?_
  have sh := H1.2.1.1.sh
  have l16 := H1.2.1.1.l16
  obtain ⟨e, he, ee⟩ := w.2.2.2
  obtain ⟨B, G, R⟩ := id H1.2.1.1
  rw [qx_r0 H1, qb_rv G]
  exact qe_X1_tryAdd G R fun h2 B2 G2 R2 f2 => qe_done H1 G2 R2 f2 (qx_sub5 (by decide) (qa_no.add w hN _ _)) (k.fr (f1.x (by omega)))
theorem qe_X11_insertNote (H : qx_at σ h b S none) (w : qa_w S.1 N) (hN : N < 2 ^ 20) {x p n : Int32} {Q : Int32 → ql_H → Prop} {X : String → ql_H → Prop} (k : qx_po σ b S h (qa_ins S.1 x p n) Q X) : qw_X11_insertNote b x p n h Q X := by
  unfold qw_X11_insertNote
  refine qe_open H fun h1 H1 f1 => ?_
  have sh := H1.2.1.1.sh
  have l16 := H1.2.1.1.l16
  obtain ⟨e, he, ee⟩ := w.2.2.2
  obtain ⟨B, G, R⟩ := id H1.2.1.1
  rw [qx_r0 H1, qb_rv G]
  exact qe_X1_tryInsert G R w.1.1 fun h2 B2 G2 R2 f2 => qe_done H1 G2 R2 f2 (qx_sub5 (by decide) (qa_no.ins sh _ _ _)) (k.fr (f1.x (by omega)))
theorem qe_X11_replaceNote (H : qx_at σ h b S none) (w : qa_w S.1 N) (hN : N < 2 ^ 20) {x p n : Int32} {Q : Int32 → ql_H → Prop} {X : String → ql_H → Prop} (k : qx_po σ b S h (qa_rep S.1 x p n) Q X) : qw_X11_replaceNote b x p n h Q X := by
  unfold qw_X11_replaceNote
  refine qe_open H fun h1 H1 f1 => ?_
  have sh := H1.2.1.1.sh
  have l16 := H1.2.1.1.l16
  obtain ⟨e, he, ee⟩ := w.2.2.2
  obtain ⟨B, G, R⟩ := id H1.2.1.1
  rw [qx_r0 H1, qb_rv G]
  exact qe_X1_tryReplace G R w.1.1 fun h2 B2 G2 R2 f2 => qe_done H1 G2 R2 f2 (qx_sub5 (by decide) (qa_no.rep sh _ _ _)) (k.fr (f1.x (by omega)))
theorem qe_X11_deleteNote (H : qx_at σ h b S none) (w : qa_w S.1 N) (hN : N < 2 ^ 20) {x p : Int32} {Q : Int32 → ql_H → Prop} {X : String → ql_H → Prop} (k : qx_po σ b S h (qa_del S.1 x p) Q X) : qw_X11_deleteNote b x p h Q X := by
  unfold qw_X11_deleteNote
  refine qe_open H fun h1 H1 f1 => ?_
  have sh := H1.2.1.1.sh
  have l16 := H1.2.1.1.l16
  obtain ⟨e, he, ee⟩ := w.2.2.2
  obtain ⟨B, G, R⟩ := id H1.2.1.1
  rw [qx_r0 H1, qb_rv G]
  exact qe_X1_tryDelete G R w.1.1 fun h2 B2 G2 R2 f2 => qe_done H1 G2 R2 f2 (qx_sub5 (by decide) (qa_no.del sh _ _)) (k.fr (f1.x (by omega)))
theorem qe_X11_setSunset (H : qx_at σ h b S none) (w : qa_w S.1 N) (hN : N < 2 ^ 20) {x d : Int32} {Q : Int32 → ql_H → Prop} {X : String → ql_H → Prop} (k : qx_po σ b S h (qa_setSun S.1 x d) Q X) : qw_X11_setSunset b x d h Q X := by
  unfold qw_X11_setSunset
  refine qe_open H fun h1 H1 f1 => ?_
  have sh := H1.2.1.1.sh
  have l16 := H1.2.1.1.l16
  obtain ⟨e, he, ee⟩ := w.2.2.2
  obtain ⟨B, G, R⟩ := id H1.2.1.1
  rw [qx_r0 H1, qb_rv G]
  exact qe_X1_trySunset G R w.1.1 fun h2 B2 G2 R2 f2 => qe_done H1 G2 R2 f2 (qx_sub5 (by decide) (qa_no.sun w hN _ _)) (k.fr (f1.x (by omega)))
theorem qe_X11_cite (H : qx_at σ h b S none) (w : qa_w S.1 N) (hN : N < 2 ^ 20) {x y : Int32} {Q : Int32 → ql_H → Prop} {X : String → ql_H → Prop} (k : qx_po σ b S h (qa_cite S.1 x y) Q X) : qw_X11_cite b x y h Q X := by
  unfold qw_X11_cite
  refine qe_open H fun h1 H1 f1 => ?_
  have sh := H1.2.1.1.sh
  have l16 := H1.2.1.1.l16
  obtain ⟨e, he, ee⟩ := w.2.2.2
  obtain ⟨B, G, R⟩ := id H1.2.1.1
  rw [qx_r0 H1, qb_rv G]
  exact qe_X1_tryCite G R w.1.1 (w.id1 hN) fun h2 B2 G2 R2 f2 => qe_done H1 G2 R2 f2 (qx_sub5 (by decide) (qa_no.cite sh _ _)) (k.fr (f1.x (by omega)))
theorem qe_X11_uncite (H : qx_at σ h b S none) (w : qa_w S.1 N) (hN : N < 2 ^ 20) {x y : Int32} {Q : Int32 → ql_H → Prop} {X : String → ql_H → Prop} (k : qx_po σ b S h (qa_uncite S.1 x y) Q X) : qw_X11_uncite b x y h Q X := by
  unfold qw_X11_uncite
  refine qe_open H fun h1 H1 f1 => ?_
  have sh := H1.2.1.1.sh
  have l16 := H1.2.1.1.l16
  obtain ⟨e, he, ee⟩ := w.2.2.2
  obtain ⟨B, G, R⟩ := id H1.2.1.1
  rw [qx_r0 H1, qb_rv G]
  exact qe_X1_tryUncite G R w.1.1 fun h2 B2 G2 R2 f2 => qe_done H1 G2 R2 f2 (qx_sub5 (by decide) (qa_no.uncite sh _ _)) (k.fr (f1.x (by omega)))
theorem qe_X11_repeal (H : qx_at σ h b S none) (w : qa_w S.1 N) (hN : N < 2 ^ 20) {x : Int32} {Q : Int32 → ql_H → Prop} {X : String → ql_H → Prop} (k : qx_po σ b S h (qa_repeal S.1 x) Q X) : qw_X11_repeal b x h Q X := by
  unfold qw_X11_repeal
  refine qe_open H fun h1 H1 f1 => ?_
  have sh := H1.2.1.1.sh
  have l16 := H1.2.1.1.l16
  obtain ⟨e, he, ee⟩ := w.2.2.2
  obtain ⟨B, G, R⟩ := id H1.2.1.1
  rw [qx_r0 H1, qb_rv G]
  exact qe_X1_tryRepeal G R w.1.1 fun h2 B2 G2 R2 f2 => qe_done H1 G2 R2 f2 (qx_sub5 (by decide) (qa_no.repeal l16 _)) (k.fr (f1.x (by omega)))
theorem qe_X11_advance (H : qx_at σ h b S none) (w : qa_w S.1 N) (hN : N < 2 ^ 20) {n : Int32} {Q : Int32 → ql_H → Prop} {X : String → ql_H → Prop} (k : qx_po σ b S h (qa_adv S.1 n) Q X) : qw_X11_advance b n h Q X := by
  unfold qw_X11_advance
  refine qe_open H fun h1 H1 f1 => ?_
  have sh := H1.2.1.1.sh
  have l16 := H1.2.1.1.l16
  obtain ⟨e, he, ee⟩ := w.2.2.2
  obtain ⟨B, G, R⟩ := id H1.2.1.1
  rw [qx_r0 H1, qb_rv G]
  exact qe_X1_tryAdvance G R fun h2 B2 G2 R2 f2 => qe_done H1 G2 R2 f2 (qx_sub5 (by decide) (qa_no.adv w hN l16 _)) (k.fr (f1.x (by omega)))
theorem qe_X11_consolidate (H : qx_at σ h b S none) (w : qa_w S.1 N) (hN : N < 2 ^ 20)  {Q : Int32 → ql_H → Prop} {X : String → ql_H → Prop} (k : qx_po σ b S h (qa_cons S.1) Q X) : qw_X11_consolidate b h Q X := by
  unfold qw_X11_consolidate
  refine qe_open H fun h1 H1 f1 => ?_
  have sh := H1.2.1.1.sh
  have l16 := H1.2.1.1.l16
  obtain ⟨e, he, ee⟩ := w.2.2.2
  obtain ⟨B, G, R⟩ := id H1.2.1.1
  rw [qx_r0 H1, qb_rv G]
  exact qe_X1_makeEdition G R w.1.2.1 (e := e) (by omega) ee fun h2 B2 G2 R2 f2 => qe_done H1 G2 R2 f2 (qx_sub5 (by decide) (qa_no.cons w hN)) (k.fr (f1.x (by omega)))
end QCL
