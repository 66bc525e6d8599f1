/-! How far two texts are apart: from their beginnings, from their ends. -/
section QDF
theorem qa_lcs_nil (t : List Nat) : qa_lcs [] t = 0 := by rw [qa_lcs]
theorem qa_lcs_nil2 (s : List Nat) : qa_lcs s [] = 0 := by cases s <;> rw [qa_lcs]
theorem qa_lcs_eq (a : Nat) (s t : List Nat) : qa_lcs (a :: s) (a :: t) = qa_lcs s t + 1 := by rw [qa_lcs, if_pos rfl]
theorem qa_lcs_ne {a b : Nat} (h : a ≠ b) (s t : List Nat) : qa_lcs (a :: s) (b :: t) = max (qa_lcs s (b :: t)) (qa_lcs (a :: s) t) := by rw [qa_lcs, if_neg h]
/-- no common part is longer -/
theorem qa_lcs_ub : ∀ (n : Nat) (s t c : List Nat), s.length + t.length ≤ n → c.Sublist s → c.Sublist t → c.length ≤ qa_lcs s t := by
  intro n
  induction n with
  | zero =>
    intro s t c hn h1 h2
    have : c.length ≤ s.length := h1.length_le
    omega
  | succ n ih =>
    intro s t c hn h1 h2
    cases s with
    | nil =>
      have : c.length ≤ 0 := h1.length_le
      omega
    | cons a s =>
      cases t with
      | nil =>
        have : c.length ≤ 0 := h2.length_le
        omega
      | cons b t =>
        rw [List.length_cons, List.length_cons] at hn
        cases c with
        | nil => exact Nat.zero_le _
        | cons x c =>
          by_cases e : a = b
          · subst e
            rw [qa_lcs_eq, List.length_cons]
            exact Nat.succ_le_succ (ih s t c (by omega) (List.Sublist.of_cons_cons h1) (List.Sublist.of_cons_cons h2))
          · rw [qa_lcs_ne e]
            by_cases e1 : x = a
            · have h3 : (x :: c).Sublist t := by
                cases h2 with
                | cons _ h => exact h
                | cons_cons _ h => exact absurd e1.symm e
              exact Nat.le_trans (ih (a :: s) t (x :: c) (by rw [List.length_cons]; omega) h1 h3) (Nat.le_max_right _ _)
            · have h3 : (x :: c).Sublist s := by
                cases h1 with
                | cons _ h => exact h
                | cons_cons _ h => exact absurd rfl e1
              exact Nat.le_trans (ih s (b :: t) (x :: c) (by rw [List.length_cons]; omega) h3 h2) (Nat.le_max_left _ _)
theorem qa_lcs_ex : ∀ (n : Nat) (s t : List Nat), s.length + t.length ≤ n → ∃ c : List Nat, c.Sublist s ∧ c.Sublist t ∧ c.length = qa_lcs s t := by
  intro n
  induction n with
  | zero =>
    intro s t hn
    have h1 : s = [] := List.length_eq_zero_iff.mp (by omega)
    subst h1
    exact ⟨[], List.nil_sublist _, List.nil_sublist _, (qa_lcs_nil t).symm⟩
  | succ n ih =>
    intro s t hn
    cases s with
    | nil => exact ⟨[], List.nil_sublist _, List.nil_sublist _, (qa_lcs_nil t).symm⟩
    | cons a s =>
      cases t with
      | nil => exact ⟨[], List.nil_sublist _, List.nil_sublist _, (qa_lcs_nil2 _).symm⟩
      | cons b t =>
        rw [List.length_cons, List.length_cons] at hn
        by_cases e : a = b
        · subst e
          obtain ⟨c, h1, h2, h3⟩ := ih s t (by omega)
          exact ⟨a :: c, h1.cons_cons a, h2.cons_cons a, by rw [qa_lcs_eq, List.length_cons, h3]⟩
        · rw [qa_lcs_ne e]
          by_cases e2 : qa_lcs s (b :: t) ≤ qa_lcs (a :: s) t
          · obtain ⟨c, h1, h2, h3⟩ := ih (a :: s) t (by rw [List.length_cons]; omega)
            exact ⟨c, h1, h2.cons b, by rw [h3, Nat.max_eq_right e2]⟩
          · obtain ⟨c, h1, h2, h3⟩ := ih s (b :: t) (by rw [List.length_cons]; omega)
            exact ⟨c, h1.cons a, h2, by rw [h3, Nat.max_eq_left (by omega)]⟩
theorem qa_lcs_rev (s t : List Nat) : qa_lcs s.reverse t.reverse = qa_lcs s t := by
  have key : ∀ s t : List Nat, qa_lcs s t ≤ qa_lcs s.reverse t.reverse := fun s t => by
    obtain ⟨c, h1, h2, h3⟩ := qa_lcs_ex _ s t (Nat.le_refl _)
    rw [← h3, ← List.length_reverse]
    exact qa_lcs_ub _ _ _ _ (Nat.le_refl _) h1.reverse h2.reverse
  refine Nat.le_antisymm ?_ (key s t)
  have := key s.reverse t.reverse
  rwa [List.reverse_reverse, List.reverse_reverse] at this
theorem qa_lcs_le (s t : List Nat) : qa_lcs s t ≤ s.length ∧ qa_lcs s t ≤ t.length := by
  obtain ⟨c, h1, h2, h3⟩ := qa_lcs_ex _ s t (Nat.le_refl _)
  rw [← h3]
  exact ⟨h1.length_le, h2.length_le⟩
/-- of the first i and the first j -/
def qd_l (s t : List Nat) (i j : Nat) : Nat := qa_lcs (s.take i).reverse (t.take j).reverse
theorem qd_l0 (s t : List Nat) (j : Nat) : qd_l s t 0 j = 0 := by
  unfold qd_l
  rw [List.take_zero, List.reverse_nil, qa_lcs_nil]
theorem qd_l0' (s t : List Nat) (i : Nat) : qd_l s t i 0 = 0 := by
  unfold qd_l
  rw [List.take_zero, List.reverse_nil, qa_lcs_nil2]
theorem qd_tk {s : List Nat} {i : Nat} (h : i < s.length) : (s.take (i + 1)).reverse = s[i] :: (s.take i).reverse := by
  rw [List.take_succ_eq_append_getElem h, List.reverse_append]
  rfl
theorem qd_lE {s t : List Nat} {i j : Nat} (hi : i < s.length) (hj : j < t.length) (e : s[i] = t[j]) : qd_l s t (i + 1) (j + 1) = qd_l s t i j + 1 := by
  unfold qd_l
  rw [qd_tk hi, qd_tk hj, e, qa_lcs_eq]
theorem qd_lN {s t : List Nat} {i j : Nat} (hi : i < s.length) (hj : j < t.length) (e : s[i] ≠ t[j]) : qd_l s t (i + 1) (j + 1) = max (qd_l s t i (j + 1)) (qd_l s t (i + 1) j) := by
  unfold qd_l
  rw [qd_tk hi, qd_tk hj, qa_lcs_ne e]
theorem qd_lB (s t : List Nat) (i j : Nat) : qd_l s t i j ≤ i ∧ qd_l s t i j ≤ j := by
  have h := qa_lcs_le (s.take i).reverse (t.take j).reverse
  rw [List.length_reverse, List.length_reverse, List.length_take, List.length_take] at h
  unfold qd_l
  omega
theorem qd_lA (s t : List Nat) : qd_l s t s.length t.length = qa_lcs s t := by
  unfold qd_l
  rw [List.take_length, List.take_length, qa_lcs_rev]
/-- of what is left from i and from j on -/
def qd_r (s t : List Nat) (i j : Nat) : Nat := qa_lcs (s.drop i) (t.drop j)
theorem qd_rE {s t : List Nat} {i j : Nat} (hi : i < s.length) (hj : j < t.length) (e : s[i] = t[j]) : qd_r s t i j = qd_r s t (i + 1) (j + 1) + 1 := by
  unfold qd_r
  rw [List.drop_eq_getElem_cons hi, List.drop_eq_getElem_cons hj, e, qa_lcs_eq]
theorem qd_rN {s t : List Nat} {i j : Nat} (hi : i < s.length) (hj : j < t.length) (e : s[i] ≠ t[j]) : qd_r s t i j = max (qd_r s t (i + 1) j) (qd_r s t i (j + 1)) := by
  unfold qd_r
  rw [List.drop_eq_getElem_cons hi, List.drop_eq_getElem_cons hj, qa_lcs_ne e]
theorem qd_rB (s t : List Nat) (i j : Nat) : qd_r s t i j ≤ s.length - i ∧ qd_r s t i j ≤ t.length - j := by
  have h := qa_lcs_le (s.drop i) (t.drop j)
  rwa [List.length_drop, List.length_drop] at h
/-! the table -/
variable {h h1 : ql_H} {d : Nat} {Wt : Nat → Nat → Int32} {Ts Tt : Int64} {s t : List Nat}
def qd_rows (d : Nat) (i : Nat) : Option Nat := if i < 13 then some (d + 2 + i) else none
def qd_at (h : ql_H) (d : Nat) (Wt : Nat → Nat → Int32) : Prop := h.2 d = some (.inr (8, [.ref (d + 1)])) ∧ h.2 (d + 1) = some (.inl (8, 13, .inr (.inr (.inr (.inr (qd_rows d)))))) ∧ ∀ i, i < 13 → h.2 (d + 2 + i) = some (.inl (0, 13, .inl (Wt i)))
theorem qd_at.kept (H : qd_at h d Wt) (e : ∀ q, d ≤ q → q < d + 15 → h1.2 q = h.2 q) : qd_at h1 d Wt :=
  ⟨(e _ (by omega) (by omega)).trans H.1, (e _ (by omega) (by omega)).trans H.2.1, fun i hi => (e _ (by omega) (by omega)).trans (H.2.2 i hi)⟩
theorem qd_r0 (H : qd_at h d Wt) {K : Option Nat → Prop} : ql_gR h (some d) 8 0 K = K (some (d + 1)) := qp_gR H.1 rfl
theorem qd_lR (H : qd_at h d Wt) {i : Nat} {K : Option Nat → Prop} (hi : i < 13) : ql_lR h (some (d + 1)) 8 (nI i) K = K (some (d + 2 + i)) := by
  rw [qp_lR H.2.1 hi (by decide), qd_rows, if_pos hi]
theorem qd_lI (H : qd_at h d Wt) {i j : Nat} {K : Int32 → Prop} (hi : i < 13) (hj : j < 13) : ql_lI h (some (d + 2 + i)) 0 (nI j) K = K (Wt i j) := qp_lI (H.2.2 i hi) hj (by decide)
def qd_s (Wt : Nat → Nat → Int32) (i j : Nat) (x : Int32) : Nat → Nat → Int32 := fun a b => if a = i ∧ b = j then x else Wt a b
theorem qd_sI (H : qd_at h d Wt) {i j : Nat} {x : Int32} {K : ql_H → Prop} (hi : i < 13) (hj : j < 13) (k : ∀ h1, qd_at h1 d (qd_s Wt i j x) → qp_fr d (d + 15) h h1 → K h1) : ql_sI h (some (d + 2 + i)) 0 (nI j) x K := by
  rw [qp_sI (H.2.2 i hi) hj (by decide)]
  refine k _ ⟨(qp_up_n (by omega)).trans H.1, (qp_up_n (by omega)).trans H.2.1, fun m hm => ?_⟩ (qp_fr.up (by omega) (by omega))
  by_cases e : m = i
  · subst e
    rw [qp_up_s]
    have : upd (Wt m) j x = qd_s Wt m j x m := by
      funext b
      unfold upd qd_s
      by_cases e2 : b = j
      · rw [if_pos e2, if_pos ⟨rfl, e2⟩]
      · rw [if_neg e2, if_neg (fun z => e2 z.2)]
    rw [this]
  · rw [qp_up_n (by omega), H.2.2 m hm]
    have : Wt m = qd_s Wt i j x m := by
      funext b
      unfold qd_s
      rw [if_neg (fun z => e z.1)]
    rw [← this]
theorem qd_s_s {i j : Nat} {x : Int32} : qd_s Wt i j x i j = x := if_pos ⟨rfl, rfl⟩
theorem qd_s_n {i j a b : Nat} {x : Int32} (h : ¬ (a = i ∧ b = j)) : qd_s Wt i j x a b = Wt a b := if_neg h
theorem qp_min {a b : Nat} (ha : a < 2 ^ 31) (hb : b < 2 ^ 31) {Q : Int32 → ql_H → Prop} (k : Q (nI (min a b)) h) : qw_J9_min_7cf53 (nI a) (nI b) h Q := by
  unfold qw_J9_min_7cf53
  by_cases e : b < a
  · rw [Nat.min_eq_right (by omega)] at k
    exact qp_iT (nI_lt e ha) k
  · rw [Nat.min_eq_left (by omega)] at k
    exact qp_iF (nI_nlt (by omega) hb) k
theorem qp_max {a b : Nat} (ha : a < 2 ^ 31) (hb : b < 2 ^ 31) {Q : Int32 → ql_H → Prop} (k : Q (nI (max a b)) h) : qw_J9_max_7cf53 (nI a) (nI b) h Q := by
  unfold qw_J9_max_7cf53
  by_cases e : a < b
  · rw [Nat.max_eq_right (by omega)] at k
    exact qp_iT (nI_lt e hb) k
  · rw [Nat.max_eq_left (by omega)] at k
    exact qp_iF (nI_nlt (by omega) ha) k
/-- the distance of the first i and the first j -/
def qd_D (s t : List Nat) (i j : Nat) : Nat := i + j - 2 * qd_l s t i j
theorem qe_X5_byBeginnings (H : qd_at h d Wt) (Is : qt_is Ts s) (It : qt_is Tt t) {Q : Int32 → ql_H → Prop} (k : ∀ h1 W1, qd_at h1 d W1 → qp_fr d (d + 15) h h1 → Q (nI (qa_apart s t)) h1) : qw_X5_byBeginnings d Ts Tt h Q := by
  have ls := Is.1.2
  have lt := It.1.2
  unfold qw_X5_byBeginnings
  refine qe_X9_lenOf Is ?_
  refine qe_X9_lenOf It ?_
  have inner : ∀ (k15 : Int64 → Int64 → Int32 → Int32 → Int32 → ql_H → Prop) (i : Nat), i ≤ s.length → ∀ m j g Wg, j ≤ t.length + 1 → t.length + 1 - j < m → qd_at g d Wg → qp_fr d (d + 15) h g → (∀ a b, b ≤ t.length → a < i ∨ (a = i ∧ b < j) → Wg a b = nI (qd_D s t a b)) → (∀ g2 W2, qd_at g2 d W2 → qp_fr d (d + 15) h g2 → (∀ a b, b ≤ t.length → a < i + 1 → W2 a b = nI (qd_D s t a b)) → k15 Ts Tt (nI s.length) (nI t.length) (nI (i + 1)) g2) → qw_X5_byBeginnings_25 d Q k15 m Ts Tt (nI s.length) (nI t.length) (nI i) (nI j) g := by
    intro k15 i hi m
    induction m with
    | zero => intro j _ _ _ h; omega
    | succ m ih =>
      intro j g Wg hj hm G f hW hk
      unfold qw_X5_byBeginnings_25
      rw [nI_1]
      by_cases ej : j = t.length + 1
      · subst ej
        exact qp_iT (nI_lt (Nat.lt_succ_self _) (by omega)) (hk g Wg G f fun a b hb ha => hW a b hb (by omega))
      · refine qp_iF (nI_nlt (by omega) (by omega)) ?_
        have step : ∀ x : Nat, x = qd_D s t i j → ∀ {r : Option Nat}, r = some (d + 2 + i) → ql_sI g r 0 (nI j) (nI x) fun h => qw_X5_byBeginnings_145 d Q (qw_X5_byBeginnings_25 d Q k15 m) Ts Tt (nI s.length) (nI t.length) (nI i) (nI j) h := by
          intro x hx r hr
          subst hr
          refine qd_sI G (by omega) (by omega) fun h1 H1 f1 => ?_
          unfold qw_X5_byBeginnings_145
          rw [nI_1]
          refine ih (j + 1) h1 _ (by omega) (by omega) H1 (f.tr f1) (fun a b hb hab => ?_) hk
          by_cases e : a = i ∧ b = j
          · obtain ⟨rfl, rfl⟩ := e
            rw [qd_s_s, hx]
          · rw [qd_s_n e]
            exact hW a b hb (by omega)
        have edge : qd_D s t i j = i + j → qw_X5_byBeginnings_42 d Q (qw_X5_byBeginnings_25 d Q k15 m) Ts Tt (nI s.length) (nI t.length) (nI i) (nI j) g := by
          intro e
          unfold qw_X5_byBeginnings_42
          rw [qd_r0 G, qd_lR G (by omega), nI_add]
          exact step (i + j) e.symm rfl
        cases i with
        | zero =>
          refine qp_iT rfl (edge ?_)
          unfold qd_D
          rw [qd_l0]
          rfl
        | succ i =>
          refine qp_iF (nI_ne0 (by omega) (by omega)) ?_
          cases j with
          | zero =>
            refine qp_iT rfl (edge ?_)
            unfold qd_D
            rw [qd_l0']
            rfl
          | succ j =>
            refine qp_iF (nI_ne0 (by omega) (by omega)) ?_
            rw [nI_pred, nI_pred]
            have hi2 : i < s.length := by omega
            have hj2 : j < t.length := by omega
            have a1 := Is.1.1 _ (List.getElem_mem hi2)
            have a2 := It.1.1 _ (List.getElem_mem hj2)
            have b0 := qd_lB s t i j
            have b1 := qd_lB s t i (j + 1)
            have b2 := qd_lB s t (i + 1) j
            refine qe_X9_noteOf Is hi2 ?_
            refine qe_X9_noteOf It hj2 ?_
            by_cases e : s[i] = t[j]
            · refine qp_iT (by rw [e]) ?_
              rw [qd_r0 G, qd_lR G (by omega), qd_r0 G, qd_lR G (by omega), qd_lI G (by omega) (by omega), hW i j (by omega) (by omega)]
              refine step _ ?_ rfl
              unfold qd_D
              rw [qd_lE hi2 hj2 e]
              omega
            · refine qp_iF (fun z => e (by have := (nI_eq (by omega) (by omega)).mp z; omega)) ?_
              rw [qd_r0 G, qd_lR G (by omega), qd_r0 G, qd_lR G (by omega), qd_lI G (by omega) (by omega), hW i (j + 1) (by omega) (by omega), qd_r0 G, qd_lR G (by omega), qd_lI G (by omega) (by omega), hW (i + 1) j (by omega) (by omega)]
              refine qp_min (by unfold qd_D; omega) (by unfold qd_D; omega) ?_
              rw [show (1 : Int32) = nI 1 from rfl, nI_add]
              refine step _ ?_ rfl
              unfold qd_D
              rw [qd_lN hi2 hj2 e]
              omega
  have outer : ∀ m i g Wg, i ≤ s.length + 1 → s.length + 1 - i < m → qd_at g d Wg → qp_fr d (d + 15) h g → (∀ a b, b ≤ t.length → a < i → Wg a b = nI (qd_D s t a b)) → qw_X5_byBeginnings_15 d Q m Ts Tt (nI s.length) (nI t.length) (nI i) g := by
    intro m
    induction m with
    | zero => intro i _ _ _ h; omega
    | succ m ih =>
      intro i g Wg hi hm G f hW
      unfold qw_X5_byBeginnings_15
      by_cases ei : i = s.length + 1
      · subst ei
        refine qp_iT (nI_lt (Nat.lt_succ_self _) (by omega)) ?_
        rw [qd_r0 G, qd_lR G (by omega), qd_lI G (by omega) (by omega), hW _ _ (Nat.le_refl _) (Nat.lt_succ_self _)]
        have := k g Wg G f
        rwa [show qa_apart s t = qd_D s t s.length t.length by unfold qa_apart qd_D; rw [qd_lA]] at this
      · refine qp_iF (nI_nlt (by omega) (by omega)) ?_
        refine inner _ i (by omega) ql_FU 0 g Wg (by omega) (by unfold ql_FU; omega) G f (fun a b hb hab => hW a b hb (by omega)) fun g2 W2 G2 f2 hW2 => ?_
        exact ih (i + 1) g2 W2 (by omega) (by omega) G2 f2 hW2
  exact outer ql_FU 0 h Wt (by omega) (by unfold ql_FU; omega) H qp_fr.rf fun a b _ h => absurd h (Nat.not_lt_zero a)
/-- the distance of what is left -/
def qd_E (s t : List Nat) (i j : Nat) : Nat := (s.length - i) + (t.length - j) - 2 * qd_r s t i j
theorem qp_dn (n : Nat) : nI (n + 1) + (-1 : Int32) = nI n := by
  rw [← nI_pred n, Int32.sub_eq_add_neg]
theorem qe_X5_byEnds (H : qd_at h d Wt) (Is : qt_is Ts s) (It : qt_is Tt t) {Q : Int32 → ql_H → Prop} (k : ∀ h1 W1, qd_at h1 d W1 → qp_fr d (d + 15) h h1 → Q (nI (qa_apart s t)) h1) : qw_X5_byEnds d Ts Tt h Q := by
  have ls := Is.1.2
  have lt := It.1.2
  unfold qw_X5_byEnds
  refine qe_X9_lenOf Is ?_
  refine qe_X9_lenOf It ?_
  have inner : ∀ (k16 : Int64 → Int64 → Int32 → Int32 → Int32 → ql_H → Prop) (i : Nat), i ≤ s.length → ∀ j m g Wg (x : Int32), x = nI j + (-1 : Int32) → j ≤ t.length + 1 → j < m → qd_at g d Wg → qp_fr d (d + 15) h g → (∀ a b, a ≤ s.length → b ≤ t.length → i < a ∨ (a = i ∧ j ≤ b) → Wg a b = nI (qd_E s t a b)) → (∀ g2 W2, qd_at g2 d W2 → qp_fr d (d + 15) h g2 → (∀ a b, a ≤ s.length → b ≤ t.length → i ≤ a → W2 a b = nI (qd_E s t a b)) → k16 Ts Tt (nI s.length) (nI t.length) (nI i + (-1 : Int32)) g2) → qw_X5_byEnds_25 d Q k16 m Ts Tt (nI s.length) (nI t.length) (nI i) x g := by
    intro k16 i hi j
    induction j with
    | zero =>
      intro m g Wg x hx hj hm G f hW hk
      subst hx
      obtain ⟨m, rfl⟩ : ∃ m2, m = m2 + 1 := ⟨m - 1, by omega⟩
      unfold qw_X5_byEnds_25
      exact qp_iT (by decide) (hk g Wg G f fun a b ha hb hab => hW a b ha hb (by omega))
    | succ j ihj =>
      intro m g Wg x hx hj hm G f hW hk
      subst hx
      obtain ⟨m, rfl⟩ : ∃ m2, m = m2 + 1 := ⟨m - 1, by omega⟩
      unfold qw_X5_byEnds_25
      rw [qp_dn]
      refine qp_iF (nI_pos (by omega)) ?_
      have step : ∀ x : Nat, x = qd_E s t i j → ∀ {r : Option Nat}, r = some (d + 2 + i) → ql_sI g r 0 (nI j) (nI x) fun h => qw_X5_byEnds_149 d Q (qw_X5_byEnds_25 d Q k16 m) Ts Tt (nI s.length) (nI t.length) (nI i) (nI j) h := by
        intro x hx r hr
        subst hr
        refine qd_sI G (by omega) (by omega) fun h1 H1 f1 => ?_
        unfold qw_X5_byEnds_149
        refine ihj m h1 _ _ rfl (by omega) (by omega) H1 (f.tr f1) (fun a b ha hb hab => ?_) hk
        by_cases e : a = i ∧ b = j
        · obtain ⟨rfl, rfl⟩ := e
          rw [qd_s_s, hx]
        · rw [qd_s_n e]
          exact hW a b ha hb (by omega)
      have edge : qd_r s t i j = 0 → qw_X5_byEnds_44 d Q (qw_X5_byEnds_25 d Q k16 m) Ts Tt (nI s.length) (nI t.length) (nI i) (nI j) g := by
        intro e
        unfold qw_X5_byEnds_44
        rw [qd_r0 G, qd_lR G (by omega), pk_sub hi, nI_add, pk_sub (by omega)]
        refine step _ ?_ rfl
        unfold qd_E
        rw [e]
        omega
      by_cases ei : i = s.length
      · refine qp_iT (by rw [ei]) (edge ?_)
        have := (qd_rB s t i j).1
        omega
      · refine qp_iF (fun z => ei ((nI_eq (by omega) (by omega)).mp z)) ?_
        by_cases ej : j = t.length
        · refine qp_iT (by rw [ej]) (edge ?_)
          have := (qd_rB s t i j).2
          omega
        · refine qp_iF (fun z => ej ((nI_eq (by omega) (by omega)).mp z)) ?_
          have hi2 : i < s.length := by omega
          have hj2 : j < t.length := by omega
          have a1 := Is.1.1 _ (List.getElem_mem hi2)
          have a2 := It.1.1 _ (List.getElem_mem hj2)
          have b0 := qd_rB s t (i + 1) (j + 1)
          have b1 := qd_rB s t i (j + 1)
          have b2 := qd_rB s t (i + 1) j
          rw [nI_1, nI_1]
          refine qe_X9_noteOf Is hi2 ?_
          refine qe_X9_noteOf It hj2 ?_
          by_cases e : s[i] = t[j]
          · refine qp_iT (by rw [e]) ?_
            rw [qd_r0 G, qd_lR G (by omega), qd_r0 G, qd_lR G (by omega), qd_lI G (by omega) (by omega), hW (i + 1) (j + 1) (by omega) (by omega) (by omega)]
            refine step _ ?_ rfl
            unfold qd_E
            rw [qd_rE hi2 hj2 e]
            omega
          · refine qp_iF (fun z => e (by have := (nI_eq (by omega) (by omega)).mp z; omega)) ?_
            rw [qd_r0 G, qd_lR G (by omega), qd_r0 G, qd_lR G (by omega), qd_lI G (by omega) (by omega), hW (i + 1) j (by omega) (by omega) (by omega), qd_r0 G, qd_lR G (by omega), qd_lI G (by omega) (by omega), hW i (j + 1) (by omega) (by omega) (by omega)]
            refine qp_min (by unfold qd_E; omega) (by unfold qd_E; omega) ?_
            rw [show (1 : Int32) = nI 1 from rfl, nI_add]
            refine step _ ?_ rfl
            unfold qd_E
            rw [qd_rN hi2 hj2 e]
            omega
  have outer : ∀ i m g Wg (x : Int32), x = nI i + (-1 : Int32) → i ≤ s.length + 1 → i < m → qd_at g d Wg → qp_fr d (d + 15) h g → (∀ a b, a ≤ s.length → b ≤ t.length → i ≤ a → Wg a b = nI (qd_E s t a b)) → qw_X5_byEnds_16 d Q m Ts Tt (nI s.length) (nI t.length) x g := by
    intro i
    induction i with
    | zero =>
      intro m g Wg x hx hi hm G f hW
      subst hx
      obtain ⟨m, rfl⟩ : ∃ m2, m = m2 + 1 := ⟨m - 1, by omega⟩
      unfold qw_X5_byEnds_16
      refine qp_iT (by decide) ?_
      rw [qd_r0 G, show (0 : Int32) = nI 0 from rfl, qd_lR G (by omega), qd_lI G (by omega) (by omega), hW 0 0 (by omega) (by omega) (by omega)]
      have := k g Wg G f
      rwa [show qa_apart s t = qd_E s t 0 0 from rfl] at this
    | succ i ihi =>
      intro m g Wg x hx hi hm G f hW
      subst hx
      obtain ⟨m, rfl⟩ : ∃ m2, m = m2 + 1 := ⟨m - 1, by omega⟩
      unfold qw_X5_byEnds_16
      rw [qp_dn]
      refine qp_iF (nI_pos (by omega)) ?_
      refine inner (qw_X5_byEnds_16 d Q m) i (by omega) (t.length + 1) ql_FU g Wg _ (qp_dn _).symm (Nat.le_refl _) (by unfold ql_FU; omega) G f (fun a b ha hb hab => hW a b ha hb (by omega)) fun g2 W2 G2 f2 hW2 => ?_
      exact ihi m g2 W2 _ rfl (by omega) (by omega) G2 f2 hW2
  exact outer (s.length + 1) ql_FU h Wt _ (qp_dn _).symm (Nat.le_refl _) (by unfold ql_FU; omega) H qp_fr.rf fun a b ha _ h => absurd h (by omega)
end QDF
