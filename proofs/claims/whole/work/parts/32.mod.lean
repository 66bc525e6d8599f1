/-! The reference's cells: its object, its rows; what its row says of the ledger. -/
section QK
variable {h h1 : ql_H} {m : Nat} {M : (Nat → Int32) × (Nat → Nat → Int32)}
abbrev qk_T : Type := (Nat → Int32) × (Nat → Nat → Int32)
def qk_fs (M : qk_T) (m : Nat) : List Value := [.ref (m + 1), .ref (m + 2), .ref (m + 3), .ref (m + 4), .int (M.1 4), .int (M.1 5), .int (M.1 6), .int (M.1 7), .ref (m + 5), .int (M.1 9), .int (M.1 10), .int (M.1 11), .ref (m + 6), .int (M.1 13), .ref (m + 7), .ref (m + 8), .int (M.1 16), .ref (m + 9), .int (M.1 18)]
/-- its arrays: which cell, which kind, how long, by the field -/
def qk_ad (k : Nat) : Nat := if k = 0 then 1 else if k = 1 then 2 else if k = 2 then 3 else if k = 3 then 4 else if k = 8 then 5 else if k = 12 then 6 else if k = 14 then 7 else if k = 15 then 8 else 9
def qk_kd (k : Nat) : Nat := if k = 12 then 2 else 0
def qk_ln (k : Nat) : Nat := if k = 1 then 5480 else if k = 8 then 60 else if k = 12 then 40 else if k = 14 then 16 else if k = 15 then 13 else if k = 17 then 124 else 685
def qk_isA (k : Nat) : Bool := k == 0 || k == 1 || k == 2 || k == 3 || k == 8 || k == 12 || k == 14 || k == 15 || k == 17
def qk_at (h : ql_H) (m : Nat) (M : qk_T) : Prop := h.2 m = some (.inr (13, qk_fs M m)) ∧ ∀ k, k < 18 → qk_isA k = true → h.2 (m + qk_ad k) = some (.inl (qk_kd k, qk_ln k, .inl (M.2 k)))
theorem qk_ad_lt (k : Nat) : 1 ≤ qk_ad k ∧ qk_ad k ≤ 9 := by
  unfold qk_ad
  (repeat' split) <;> omega
theorem qk_ad_inj : ∀ k, k < 18 → ∀ j, j < 18 → qk_isA k = true → qk_isA j = true → qk_ad k = qk_ad j → k = j := by decide
theorem qk_ln_lt (k : Nat) : qk_ln k < 2 ^ 20 := by
  unfold qk_ln
  (repeat' split) <;> omega
theorem qk_at.kept (H : qk_at h m M) (e : ∀ q, m ≤ q → q < m + 10 → h1.2 q = h.2 q) : qk_at h1 m M :=
  ⟨(e _ (by omega) (by omega)).trans H.1, fun k hk ha => (e _ (by omega) (by have := qk_ad_lt k; omega)).trans (H.2 k hk ha)⟩
def qk_sI (M : qk_T) (j : Nat) (x : Int32) : qk_T := (upd M.1 j x, M.2)
def qk_sA (M : qk_T) (k i : Nat) (x : Int32) : qk_T := (M.1, va_up M.2 k (upd (M.2 k) i x))
theorem qk_sI_s {j : Nat} {x : Int32} : (qk_sI M j x).1 j = x := by
  show upd M.1 j x j = x
  exact pk_us
theorem qk_sI_n {i j : Nat} {x : Int32} (h : i ≠ j) : (qk_sI M j x).1 i = M.1 i := by
  show upd M.1 j x i = M.1 i
  exact pk_un h
theorem qk_sAs {k i : Nat} {x : Int32} : (qk_sA M k i x).2 k = upd (M.2 k) i x := va_up_self ..
theorem qk_sAn {k i j : Nat} {x : Int32} (hj : j ≠ k) : (qk_sA M k i x).2 j = M.2 j := va_up_ne _ _ hj
theorem qk_f (H : qk_at h m M) (j : Nat) {K : Int32 → Prop} (hj : (qk_fs M m)[j]? = some (.int (M.1 j)) := by rfl) : ql_gI h (some m) 13 j K = K (M.1 j) := qp_gI H.1 hj
theorem qk_r (H : qk_at h m M) (k : Nat) {K : Option Nat → Prop} (hk : (qk_fs M m)[k]? = some (.ref (m + qk_ad k)) := by rfl) : ql_gR h (some m) 13 k K = K (some (m + qk_ad k)) := qp_gR H.1 hk
theorem qk_rv (H : qk_at h m M) {K : Nat → Prop} : ql_rv h (some m) 13 K = K m := qp_rv H.1
theorem qk_l (H : qk_at h m M) (k : Nat) {j : Nat} {K : Int32 → Prop} (hj : j < qk_ln k) (hk : k < 18 := by decide) (ha : qk_isA k = true := by rfl) : ql_lI h (some (m + qk_ad k)) (qk_kd k) (nI j) K = K (M.2 k j) := qp_lI (H.2 k hk ha) hj (by have := qk_ln_lt k; omega)
theorem qk_p (H : qk_at h m M) (j : Nat) {x : Int32} {K : ql_H → Prop} (k : ∀ h1, qk_at h1 m (qk_sI M j x) → qp_fr m (m + 10) h h1 → K h1) (hj : (qk_fs M m).set j (.int x) = qk_fs (qk_sI M j x) m := by rfl) (h19 : j < 19 := by decide) : ql_pV h (some m) 13 j (.int x) K := by
  rw [qp_pV H.1 (by show j < 19; omega), hj]
  exact k _ ⟨qp_up_s, fun k hk ha => (qp_up_n (by have := qk_ad_lt k; omega)).trans (H.2 k hk ha)⟩ (qp_fr.up (by omega) (by omega))
theorem qk_s (H : qk_at h m M) (k : Nat) {i : Nat} {x : Int32} {K : ql_H → Prop} (hi : i < qk_ln k) (kk : ∀ h1, qk_at h1 m (qk_sA M k i x) → qp_fr m (m + 10) h h1 → K h1) (hk : k < 18 := by decide) (ha : qk_isA k = true := by rfl) : ql_sI h (some (m + qk_ad k)) (qk_kd k) (nI i) x K := by
  rw [qp_sI (H.2 k hk ha) hi (by have := qk_ln_lt k; omega)]
  refine kk _ ⟨(qp_up_n (by have := qk_ad_lt k; omega)).trans H.1, fun j hj hja => ?_⟩ (qp_fr.up (by omega) (by have := qk_ad_lt k; omega))
  by_cases e : j = k
  · subst e
    rw [qp_up_s, qk_sAs]
  · rw [qp_up_n (by intro z; exact e (qk_ad_inj j hj k hk hja ha (by omega))), qk_sAn e]
    exact H.2 j hj hja
/-! each array -/
theorem qk_rg (H : qk_at h m M) {K : Option Nat → Prop} : ql_gR h (some m) 13 0 K = K (some (m + 1)) := qk_r H 0
theorem qk_lg (H : qk_at h m M) {j : Nat} {K : Int32 → Prop} (hj : j < 685) : ql_lI h (some (m + 1)) 0 (nI j) K = K (M.2 0 j) := qk_l H 0 hj
theorem qk_lgx (H : qk_at h m M) (x : Int32) (j : Nat) {K : Int32 → Prop} (hx : x = nI j := by rfl) (hj : j < 685 := by omega) : ql_lI h (some (m + 1)) 0 x K = K (M.2 0 j) := by
  subst hx
  exact qk_lg H hj
theorem qk_sg (H : qk_at h m M) {i : Nat} {x : Int32} {K : ql_H → Prop} (hi : i < 685) (kk : ∀ h1, qk_at h1 m (qk_sA M 0 i x) → qp_fr m (m + 10) h h1 → K h1) : ql_sI h (some (m + 1)) 0 (nI i) x K := qk_s H 0 hi kk
theorem qk_rk (H : qk_at h m M) {K : Option Nat → Prop} : ql_gR h (some m) 13 1 K = K (some (m + 2)) := qk_r H 1
theorem qk_lk (H : qk_at h m M) {j : Nat} {K : Int32 → Prop} (hj : j < 5480) : ql_lI h (some (m + 2)) 0 (nI j) K = K (M.2 1 j) := qk_l H 1 hj
theorem qk_lkx (H : qk_at h m M) (x : Int32) (j : Nat) {K : Int32 → Prop} (hx : x = nI j := by rfl) (hj : j < 5480 := by omega) : ql_lI h (some (m + 2)) 0 x K = K (M.2 1 j) := by
  subst hx
  exact qk_lk H hj
theorem qk_sk (H : qk_at h m M) {i : Nat} {x : Int32} {K : ql_H → Prop} (hi : i < 5480) (kk : ∀ h1, qk_at h1 m (qk_sA M 1 i x) → qp_fr m (m + 10) h h1 → K h1) : ql_sI h (some (m + 2)) 0 (nI i) x K := qk_s H 1 hi kk
theorem qk_rs (H : qk_at h m M) {K : Option Nat → Prop} : ql_gR h (some m) 13 2 K = K (some (m + 3)) := qk_r H 2
theorem qk_ls (H : qk_at h m M) {j : Nat} {K : Int32 → Prop} (hj : j < 685) : ql_lI h (some (m + 3)) 0 (nI j) K = K (M.2 2 j) := qk_l H 2 hj
theorem qk_lsx (H : qk_at h m M) (x : Int32) (j : Nat) {K : Int32 → Prop} (hx : x = nI j := by rfl) (hj : j < 685 := by omega) : ql_lI h (some (m + 3)) 0 x K = K (M.2 2 j) := by
  subst hx
  exact qk_ls H hj
theorem qk_ss (H : qk_at h m M) {i : Nat} {x : Int32} {K : ql_H → Prop} (hi : i < 685) (kk : ∀ h1, qk_at h1 m (qk_sA M 2 i x) → qp_fr m (m + 10) h h1 → K h1) : ql_sI h (some (m + 3)) 0 (nI i) x K := qk_s H 2 hi kk
theorem qk_rb (H : qk_at h m M) {K : Option Nat → Prop} : ql_gR h (some m) 13 3 K = K (some (m + 4)) := qk_r H 3
theorem qk_lb (H : qk_at h m M) {j : Nat} {K : Int32 → Prop} (hj : j < 685) : ql_lI h (some (m + 4)) 0 (nI j) K = K (M.2 3 j) := qk_l H 3 hj
theorem qk_lbx (H : qk_at h m M) (x : Int32) (j : Nat) {K : Int32 → Prop} (hx : x = nI j := by rfl) (hj : j < 685 := by omega) : ql_lI h (some (m + 4)) 0 x K = K (M.2 3 j) := by
  subst hx
  exact qk_lb H hj
theorem qk_sb (H : qk_at h m M) {i : Nat} {x : Int32} {K : ql_H → Prop} (hi : i < 685) (kk : ∀ h1, qk_at h1 m (qk_sA M 3 i x) → qp_fr m (m + 10) h h1 → K h1) : ql_sI h (some (m + 4)) 0 (nI i) x K := qk_s H 3 hi kk
theorem qk_ri (H : qk_at h m M) {K : Option Nat → Prop} : ql_gR h (some m) 13 8 K = K (some (m + 5)) := qk_r H 8
theorem qk_li (H : qk_at h m M) {j : Nat} {K : Int32 → Prop} (hj : j < 60) : ql_lI h (some (m + 5)) 0 (nI j) K = K (M.2 8 j) := qk_l H 8 hj
theorem qk_lix (H : qk_at h m M) (x : Int32) (j : Nat) {K : Int32 → Prop} (hx : x = nI j := by rfl) (hj : j < 60 := by omega) : ql_lI h (some (m + 5)) 0 x K = K (M.2 8 j) := by
  subst hx
  exact qk_li H hj
theorem qk_si (H : qk_at h m M) {i : Nat} {x : Int32} {K : ql_H → Prop} (hi : i < 60) (kk : ∀ h1, qk_at h1 m (qk_sA M 8 i x) → qp_fr m (m + 10) h h1 → K h1) : ql_sI h (some (m + 5)) 0 (nI i) x K := qk_s H 8 hi kk
theorem qk_rc (H : qk_at h m M) {K : Option Nat → Prop} : ql_gR h (some m) 13 12 K = K (some (m + 6)) := qk_r H 12
theorem qk_lc (H : qk_at h m M) {j : Nat} {K : Int32 → Prop} (hj : j < 40) : ql_lI h (some (m + 6)) 2 (nI j) K = K (M.2 12 j) := qk_l H 12 hj
theorem qk_lcx (H : qk_at h m M) (x : Int32) (j : Nat) {K : Int32 → Prop} (hx : x = nI j := by rfl) (hj : j < 40 := by omega) : ql_lI h (some (m + 6)) 2 x K = K (M.2 12 j) := by
  subst hx
  exact qk_lc H hj
theorem qk_sc (H : qk_at h m M) {i : Nat} {x : Int32} {K : ql_H → Prop} (hi : i < 40) (kk : ∀ h1, qk_at h1 m (qk_sA M 12 i x) → qp_fr m (m + 10) h h1 → K h1) : ql_sI h (some (m + 6)) 2 (nI i) x K := qk_s H 12 hi kk
theorem qk_ru (H : qk_at h m M) {K : Option Nat → Prop} : ql_gR h (some m) 13 14 K = K (some (m + 7)) := qk_r H 14
theorem qk_lu (H : qk_at h m M) {j : Nat} {K : Int32 → Prop} (hj : j < 16) : ql_lI h (some (m + 7)) 0 (nI j) K = K (M.2 14 j) := qk_l H 14 hj
theorem qk_lux (H : qk_at h m M) (x : Int32) (j : Nat) {K : Int32 → Prop} (hx : x = nI j := by rfl) (hj : j < 16 := by omega) : ql_lI h (some (m + 7)) 0 x K = K (M.2 14 j) := by
  subst hx
  exact qk_lu H hj
theorem qk_su (H : qk_at h m M) {i : Nat} {x : Int32} {K : ql_H → Prop} (hi : i < 16) (kk : ∀ h1, qk_at h1 m (qk_sA M 14 i x) → qp_fr m (m + 10) h h1 → K h1) : ql_sI h (some (m + 7)) 0 (nI i) x K := qk_s H 14 hi kk
theorem qk_rw (H : qk_at h m M) {K : Option Nat → Prop} : ql_gR h (some m) 13 15 K = K (some (m + 8)) := qk_r H 15
theorem qk_lw (H : qk_at h m M) {j : Nat} {K : Int32 → Prop} (hj : j < 13) : ql_lI h (some (m + 8)) 0 (nI j) K = K (M.2 15 j) := qk_l H 15 hj
theorem qk_lwx (H : qk_at h m M) (x : Int32) (j : Nat) {K : Int32 → Prop} (hx : x = nI j := by rfl) (hj : j < 13 := by omega) : ql_lI h (some (m + 8)) 0 x K = K (M.2 15 j) := by
  subst hx
  exact qk_lw H hj
theorem qk_sw (H : qk_at h m M) {i : Nat} {x : Int32} {K : ql_H → Prop} (hi : i < 13) (kk : ∀ h1, qk_at h1 m (qk_sA M 15 i x) → qp_fr m (m + 10) h h1 → K h1) : ql_sI h (some (m + 8)) 0 (nI i) x K := qk_s H 15 hi kk
theorem qk_rt (H : qk_at h m M) {K : Option Nat → Prop} : ql_gR h (some m) 13 17 K = K (some (m + 9)) := qk_r H 17
theorem qk_lt (H : qk_at h m M) {j : Nat} {K : Int32 → Prop} (hj : j < 124) : ql_lI h (some (m + 9)) 0 (nI j) K = K (M.2 17 j) := qk_l H 17 hj
theorem qk_ltx (H : qk_at h m M) (x : Int32) (j : Nat) {K : Int32 → Prop} (hx : x = nI j := by rfl) (hj : j < 124 := by omega) : ql_lI h (some (m + 9)) 0 x K = K (M.2 17 j) := by
  subst hx
  exact qk_lt H hj
theorem qk_st (H : qk_at h m M) {i : Nat} {x : Int32} {K : ql_H → Prop} (hi : i < 124) (kk : ∀ h1, qk_at h1 m (qk_sA M 17 i x) → qp_fr m (m + 10) h h1 → K h1) : ql_sI h (some (m + 9)) 0 (nI i) x K := qk_s H 17 hi kk
/-! small ones -/
theorem qe_X12_thrown (H : qk_at h m M) {Q : Int32 → ql_H → Prop} (k : Q (M.1 7) h) : qw_X12_thrown m h Q := by
  unfold qw_X12_thrown
  rw [qk_f H 7]
  exact k
theorem qe_X12_fails (H : qk_at h m M) {n : Nat} (hn : n < 2 ^ 31) {Q : Int32 → ql_H → Prop} (k : ∀ h1, qk_at h1 m (qk_sI M 7 (nI n)) → qp_fr m (m + 10) h h1 → Q (qp_b (decide (0 < n))) h1) : qw_X12_fails m (nI n) h Q := by
  unfold qw_X12_fails
  refine qk_p H 7 fun h1 H1 f1 => ?_
  have := k h1 H1 f1
  by_cases e : 0 < n
  · rw [decide_eq_true e] at this
    exact qp_iF (nI_nle e hn) ⟨ql_nz1, this⟩
  · rw [decide_eq_false e] at this
    exact qp_iT (nI_le (a := n) (b := 0) (by omega) (by omega)) ⟨ql_nz0, this⟩
theorem qe_X12_in {x a b : Int32} {Q : Int32 → ql_H → Prop} (k : Q (qp_b (decide (a ≤ x) && decide (x ≤ b))) h) : qw_X12_in x a b h Q := by
  unfold qw_X12_in
  refine qp_if (fun e => ⟨ql_nz0, ?_⟩) (fun e => qp_if (fun e2 => ⟨ql_nz0, ?_⟩) (fun e2 => ⟨ql_nz1, ?_⟩))
  · rw [decide_eq_false (Int32.not_le.mpr e)] at k
    exact k
  · rw [decide_eq_false (p := x ≤ b) (Int32.not_le.mpr e2), Bool.and_false] at k
    exact k
  · rw [decide_eq_true (Int32.not_lt.mp e), decide_eq_true (Int32.not_lt.mp e2)] at k
    exact k
theorem qp_bz (p : Bool) : ql_nz .boolean (qp_b p) := by
  cases p
  · exact ql_nz0
  · exact ql_nz1
theorem qe_X12_isNote {x : Int32} {Q : Int32 → ql_H → Prop} (k : Q (qp_b (qa_note x)) h) : qw_X12_isNote x h Q := by
  unfold qw_X12_isNote
  exact qe_X12_in ⟨qp_bz _, k⟩
theorem qk_ix (p w : Nat) : ((13 : Int32) + ((42 : Int32) * nI p)) + nI w = nI (13 + 42 * p + w) := by
  rw [show (13 : Int32) = nI 13 from rfl, show (42 : Int32) = nI 42 from rfl, pk_mul, nI_add, nI_add]
theorem qe_X12_of (H : qk_at h m M) {p w : Nat} (hp : p < 16) (hw : w < 42) {Q : Int32 → ql_H → Prop} (k : Q (M.2 0 (13 + 42 * p + w)) h) : qw_X12_of m (nI p) (nI w) h Q := by
  unfold qw_X12_of
  rw [qk_rg H, qk_ix, qk_lg H (by omega)]
  exact k
theorem qe_X12_lays (H : qk_at h m M) {p w : Nat} {x : Int32} (hp : p < 16) (hw : w < 42) {Q : ql_H → Prop} (k : ∀ h1, qk_at h1 m (qk_sA M 0 (13 + 42 * p + w) x) → qp_fr m (m + 10) h h1 → Q h1) : qw_X12_lays m (nI p) (nI w) x h Q := by
  unfold qw_X12_lays
  rw [qk_rg H, qk_ix]
  exact qk_sg H (by omega) k
/-! the row and the ledger -/
/-- three bits of a word -/
def qk_nt (w : Int32) (s : Nat) : Int32 := (w >>> (((3 : Int32) * nI s) &&& 31)) &&& (7 : Int32)
def qk_v (r : Nat → Int32) (v : Nat) (V : qa_V) : Prop := r v = V.1 ∧ r (v + 1) = nI V.2.length ∧ ∀ q (hq : q < V.2.length), qk_nt (r (v + 2 + q / 6)) (q % 6) = nI V.2[q]
def qk_c (r : Nat → Int32) (A : qa_C) : Prop :=
  (r 0 = qa_id A ∧ r 1 = qa_sec A ∧ r 2 = qa_beg A ∧ r 3 = qa_sun A) ∧ (r 4 = nI (qa_vs A).length ∧ ∀ j (hj : j < (qa_vs A).length), qk_v r (5 + 4 * j) (qa_vs A)[j]) ∧ (r 37 = nI (qa_ci A).length ∧ ∀ j (hj : j < (qa_ci A).length), r (38 + j) = (qa_ci A)[j]) ∧ qa_sh A
/-- the words of clause k -/
def qk_row (g : Nat → Int32) (k : Nat) : Nat → Int32 := fun w => g (13 + 42 * k + w)
def qk_G (g : Nat → Int32) (L : qa_L) : Prop :=
  (L.1.length ≤ 16 ∧ g 0 = nI L.1.length ∧ g 1 = L.2.1 3 ∧ g 2 = L.2.1 2 ∧ g 3 = L.2.1 4 ∧ g 4 = L.2.1 5 ∧ g 5 = L.2.1 6 ∧ g 6 = L.2.1 7) ∧ (∀ e, e < 2 ^ 30 → L.2.1 7 = nI e → ∀ t, 1 ≤ t → t ≤ e → e < t + 6 → g (7 + (t - 1) % 6) = L.2.2 t) ∧ ∀ k (hk : k < L.1.length), qk_c (qk_row g k) L.1[k]
theorem qk_c.eq {r r2 : Nat → Int32} {A : qa_C} (H : qk_c r A) (e : ∀ w, w < 42 → r2 w = r w) : qk_c r2 A := by
  obtain ⟨⟨h0, h1, h2, h3⟩, ⟨h4, h5⟩, ⟨h6, h7⟩, h8⟩ := H
  have s1 := h8.1.2.1
  have s2 := h8.2.1
  refine ⟨⟨(e _ (by omega)).trans h0, (e _ (by omega)).trans h1, (e _ (by omega)).trans h2, (e _ (by omega)).trans h3⟩, ⟨(e _ (by omega)).trans h4, fun j hj => ?_⟩, ⟨(e _ (by omega)).trans h6, fun j hj => (e _ (by omega)).trans (h7 j hj)⟩, h8⟩
  obtain ⟨v1, v2, v3⟩ := h5 j hj
  refine ⟨(e _ (by omega)).trans v1, (e _ (by omega)).trans v2, fun q hq => ?_⟩
  have := (h8.1.2.2 _ (List.getElem_mem hj)).1.2
  rw [e _ (by omega)]
  exact v3 q hq
theorem qk_G.eq {g g2 : Nat → Int32} {L : qa_L} (H : qk_G g L) (e : ∀ i, i < 685 → g2 i = g i) : qk_G g2 L := by
  obtain ⟨⟨h0, h1, h2, h3, h4, h5, h6, h7⟩, h8, h9⟩ := H
  refine ⟨⟨h0, (e _ (by omega)).trans h1, (e _ (by omega)).trans h2, (e _ (by omega)).trans h3, (e _ (by omega)).trans h4, (e _ (by omega)).trans h5, (e _ (by omega)).trans h6, (e _ (by omega)).trans h7⟩, fun x hx hx2 t t1 t2 t3 => (e _ (by omega)).trans (h8 x hx hx2 t t1 t2 t3), fun k hk => (h9 k hk).eq fun w hw => e _ (by omega)⟩
end QK
