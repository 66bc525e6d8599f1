/-! What the reference's small methods answer. -/
section QK2
variable {h h1 : ql_H} {m : Nat} {M : qk_T} {L : qa_L}
theorem qk_len (R : qk_G (M.2 0) L) : M.2 0 0 = nI L.1.length := R.1.2.1
theorem qk_cl (R : qk_G (M.2 0) L) {i : Nat} (hi : i < L.1.length) : qk_c (qk_row (M.2 0) i) L.1[i] := R.2.2 i hi
theorem qa_find_at : ∀ (l : List qa_C) (x : Int32) (i : Nat) (hi : i < l.length), qa_id l[i] = x → (∀ j (hj : j < i), qa_id (l[j]'(Nat.lt_trans hj hi)) ≠ x) → qa_find l x = some l[i]
  | [], _, _, hi, _, _ => absurd hi (Nat.not_lt_zero _)
  | A :: l, x, 0, _, h, _ => by
    have h2 : qa_id A = x := h
    unfold qa_find
    rw [List.find?_cons_of_pos (by rw [h2]; exact beq_self_eq_true x)]
    rfl
  | A :: l, x, i + 1, hi, h, hj => by
    have h0 : qa_id A ≠ x := hj 0 (Nat.succ_pos i)
    unfold qa_find
    rw [List.find?_cons_of_neg (by rw [beq_iff_eq]; exact h0)]
    exact qa_find_at l x i (Nat.lt_of_succ_lt_succ hi) h fun j hj2 => hj (j + 1) (Nat.succ_lt_succ hj2)
theorem qa_all {l : List qa_C} {P : qa_C → Prop} (h : ∀ i (hi : i < l.length), P l[i]) : ∀ A ∈ l, P A := fun A hA => by
  obtain ⟨i, hi, rfl⟩ := List.mem_iff_getElem.mp hA
  exact h i hi
theorem qe_X12_placeOf (H : qk_at h m M) (R : qk_G (M.2 0) L) {x : Int32} {Q : Int32 → ql_H → Prop} (k : ∀ i (hi : i < L.1.length), qa_id L.1[i] = x → qa_find L.1 x = some L.1[i] → Q (nI i) h) (k0 : qa_find L.1 x = none → Q (-1) h) : qw_X12_placeOf m x h Q := by
  have n16 := R.1.1
  have hL : ∀ n i, (hi : i ≤ L.1.length) → L.1.length - i < n → (∀ j (hj : j < i), qa_id (L.1[j]'(by omega)) ≠ x) → qw_X12_placeOf_2 m Q n x (nI i) h := by
    intro n
    induction n with
    | zero => intro i _ h; omega
    | succ n ih =>
      intro i hi hm hj
      unfold qw_X12_placeOf_2
      rw [qk_rg H, qk_lgx H 0 0, qk_len R]
      by_cases e : i = L.1.length
      · subst e
        exact qp_iT (nI_le (Nat.le_refl _) (by omega)) (k0 (qa_find_none.mpr (qa_all hj)))
      · have hi2 : i < L.1.length := by omega
        refine qp_iF (nI_ge hi2 (by omega)) ?_
        rw [qk_rv H]
        refine qe_X12_of H (w := 0) (by omega) (by omega) ?_
        rw [show M.2 0 (13 + 42 * i + 0) = qa_id L.1[i] from (qk_cl R hi2).1.1]
        refine qp_if (fun z => k i hi2 z (qa_find_at _ _ i hi2 z hj)) fun z => ?_
        rw [nI_1]
        refine ih (i + 1) hi2 (by omega) fun j hj2 => ?_
        by_cases e2 : j = i
        · subst e2
          exact z
        · exact hj j (by omega)
  exact hL ql_FU 0 (Nat.zero_le _) (by unfold ql_FU; omega) fun j hj => absurd hj (Nat.not_lt_zero j)
theorem qe_X12_isNone (H : qk_at h m M) (R : qk_G (M.2 0) L) {x : Int32} {Q : Int32 → ql_H → Prop} (k : ∀ h1, qk_at h1 m (qk_sI M 7 0) → qp_fr m (m + 10) h h1 → ∀ i (hi : i < L.1.length), qa_id L.1[i] = x → qa_find L.1 x = some L.1[i] → Q 0 h1) (k0 : ∀ h1, qk_at h1 m (qk_sI M 7 1) → qp_fr m (m + 10) h h1 → qa_find L.1 x = none → Q 1 h1) : qw_X12_isNone m x h Q := by
  have n16 := R.1.1
  unfold qw_X12_isNone
  rw [qk_rv H]
  refine qe_X12_placeOf H R (fun i hi e f => ?_) (fun e => ?_)
  · refine qp_iT (nI_pos' (by omega)) ?_
    unfold qw_X12_isNone_14
    rw [qk_rv H]
    exact qe_X12_fails H (n := 0) (by omega) fun h1 H1 f1 => ⟨ql_nz0, k h1 H1 f1 i hi e f⟩
  · refine qp_iF (by decide) ?_
    unfold qw_X12_isNone_14
    rw [qk_rv H]
    exact qe_X12_fails H (n := 1) (by omega) fun h1 H1 f1 => ⟨ql_nz1, k0 h1 H1 f1 e⟩
theorem qe_X12_withSection (H : qk_at h m M) (R : qk_G (M.2 0) L) {s : Int32} {Q : Int32 → ql_H → Prop} (k : ∀ i (hi : i < L.1.length), qa_sec L.1[i] = s → (∀ j (hj : j < i), qa_sec (L.1[j]'(Nat.lt_trans hj hi)) ≠ s) → Q (nI i) h) (k0 : (∀ A ∈ L.1, qa_sec A ≠ s) → Q (-1) h) : qw_X12_withSection m s h Q := by
  have n16 := R.1.1
  have hL : ∀ n i, (hi : i ≤ L.1.length) → L.1.length - i < n → (∀ j (hj : j < i), qa_sec (L.1[j]'(by omega)) ≠ s) → qw_X12_withSection_2 m Q n s (nI i) h := by
    intro n
    induction n with
    | zero => intro i _ h; omega
    | succ n ih =>
      intro i hi hm hj
      unfold qw_X12_withSection_2
      rw [qk_rg H, qk_lgx H 0 0, qk_len R]
      by_cases e : i = L.1.length
      · subst e
        exact qp_iT (nI_le (Nat.le_refl _) (by omega)) (k0 (qa_all hj))
      · have hi2 : i < L.1.length := by omega
        refine qp_iF (nI_ge hi2 (by omega)) ?_
        rw [qk_rv H]
        refine qe_X12_of H (w := 1) (by omega) (by omega) ?_
        rw [show M.2 0 (13 + 42 * i + 1) = qa_sec L.1[i] from (qk_cl R hi2).1.2.1]
        refine qp_if (fun z => k i hi2 z hj) fun z => ?_
        rw [nI_1]
        refine ih (i + 1) hi2 (by omega) fun j hj2 => ?_
        by_cases e2 : j = i
        · subst e2
          exact z
        · exact hj j (by omega)
  exact hL ql_FU 0 (Nat.zero_le _) (by unfold ql_FU; omega) fun j hj => absurd hj (Nat.not_lt_zero j)
/-- a sunset is -1 or from 0 up -/
def qa_sunok (A : qa_C) : Prop := qa_sun A = -1 ∨ ¬ qa_sun A < 0
theorem qa_sun_lt {A : qa_C} (h : qa_sunok A) : qa_sun A < 0 ↔ qa_sun A = -1 := by
  constructor
  · intro z
    exact h.resolve_right fun q => q z
  · intro z
    rw [z]
    decide
theorem qe_X12_isValid (H : qk_at h m M) (R : qk_G (M.2 0) L) {i : Nat} (hi : i < L.1.length) (hs : qa_sunok L.1[i]) {d : Int32} {Q : Int32 → ql_H → Prop} (k : Q (qp_b (qa_hold L.1[i] d)) h) : qw_X12_isValid m (nI i) d h Q := by
  have n16 := R.1.1
  have hc := qk_cl R hi
  unfold qw_X12_isValid qw_X12_isValid_29
  rw [qk_rv H]
  refine qe_X12_of H (w := 2) (by omega) (by omega) ?_
  rw [show M.2 0 (13 + 42 * i + 2) = qa_beg L.1[i] from hc.1.2.2.1]
  unfold qa_hold at k
  refine qp_if (fun z => ?_) fun z => ?_
  · rw [decide_eq_false (Int32.not_le.mpr z), Bool.false_and] at k
    exact ⟨ql_nz0, k⟩
  · rw [decide_eq_true (Int32.not_lt.mp z), Bool.true_and] at k
    rw [qk_rv H]
    refine qe_X12_of H (w := 3) (by omega) (by omega) ?_
    rw [show M.2 0 (13 + 42 * i + 3) = qa_sun L.1[i] from hc.1.2.2.2]
    refine qp_if (fun z2 => ?_) fun z2 => ?_
    · rw [(qa_sun_lt hs).mp z2] at k
      exact ⟨ql_nz1, k⟩
    · have e : (qa_sun L.1[i] == -1) = false := by
        rw [beq_eq_false_iff_ne]
        exact fun q => z2 ((qa_sun_lt hs).mpr q)
      rw [e, Bool.false_or] at k
      rw [qk_rv H]
      refine qe_X12_of H (w := 3) (by omega) (by omega) ?_
      rw [show M.2 0 (13 + 42 * i + 3) = qa_sun L.1[i] from hc.1.2.2.2]
      refine qp_if (fun z3 => ?_) fun z3 => ?_
      · rw [decide_eq_false (Int32.not_le.mpr z3)] at k
        exact ⟨ql_nz0, k⟩
      · rw [decide_eq_true (Int32.not_lt.mp z3)] at k
        exact ⟨ql_nz1, k⟩
theorem qe_X12_isOver (H : qk_at h m M) (R : qk_G (M.2 0) L) {i : Nat} (hi : i < L.1.length) (hs : qa_sunok L.1[i]) {Q : Int32 → ql_H → Prop} (k : Q (qp_b (qa_laps L.1[i] (L.2.1 2))) h) : qw_X12_isOver m (nI i) h Q := by
  have n16 := R.1.1
  have hc := qk_cl R hi
  unfold qw_X12_isOver
  rw [qk_rv H]
  refine qe_X12_of H (w := 3) (by omega) (by omega) ?_
  rw [show M.2 0 (13 + 42 * i + 3) = qa_sun L.1[i] from hc.1.2.2.2]
  unfold qa_laps at k
  refine qp_if (fun z => ?_) fun z => ?_
  · have e : (qa_sun L.1[i] != -1) = false := by
      rw [(qa_sun_lt hs).mp z]
      rfl
    rw [e, Bool.false_and] at k
    exact ⟨ql_nz0, k⟩
  · have e : (qa_sun L.1[i] != -1) = true := by
      rw [bne_iff_ne]
      exact fun q => z ((qa_sun_lt hs).mpr q)
    rw [e, Bool.true_and] at k
    rw [qk_rv H]
    refine qe_X12_of H (w := 3) (by omega) (by omega) ?_
    rw [show M.2 0 (13 + 42 * i + 3) = qa_sun L.1[i] from hc.1.2.2.2, qk_rg H, qk_lgx H 2 2, show M.2 0 2 = L.2.1 2 from R.1.2.2.2.1]
    refine qp_if (fun z3 => ?_) fun z3 => ?_
    · rw [decide_eq_false (Int32.not_lt.mpr z3)] at k
      exact ⟨ql_nz0, k⟩
    · rw [decide_eq_true (Int32.not_le.mp z3)] at k
      exact ⟨ql_nz1, k⟩
theorem qe_X12_lastVersion (H : qk_at h m M) {i v : Nat} (hi : i < 16) (hv : M.2 0 (13 + 42 * i + 4) = nI (v + 1)) {Q : Int32 → ql_H → Prop} (k : Q (nI (5 + 4 * v)) h) : qw_X12_lastVersion m (nI i) h Q := by
  unfold qw_X12_lastVersion
  rw [qk_rv H]
  refine qe_X12_of H (w := 4) hi (by omega) ?_
  rw [hv, show (5 : Int32) = nI 5 from rfl, show (4 : Int32) = nI 4 from rfl, pk_mul, nI_add, pk_sub (by omega), show 5 + 4 * (v + 1) - 4 = 5 + 4 * v by omega]
  exact k
theorem qe_X12_long0 (H : qk_at h m M) (R : qk_G (M.2 0) L) {i : Nat} (hi : i < L.1.length) {Q : Int32 → ql_H → Prop} (k : Q (nI (qa_txt L.1[i]).length) h) : qw_X12_long0 m (nI i) h Q := by
  have n16 := R.1.1
  have hc := qk_cl R hi
  have h1 := hc.2.2.2.1.1
  have h8 := hc.2.2.2.1.2.1
  obtain ⟨v, hv⟩ : ∃ v, (qa_vs L.1[i]).length = v + 1 := ⟨(qa_vs L.1[i]).length - 1, by omega⟩
  have h4 : M.2 0 (13 + 42 * i + 4) = nI (v + 1) := hv ▸ hc.2.1.1
  unfold qw_X12_long0
  rw [qk_rv H]
  refine qe_X12_lastVersion H (by omega) h4 ?_
  rw [qk_rv H, nI_1]
  refine qe_X12_of H (by omega) (by omega) ?_
  have := (hc.2.1.2 v (by omega)).2.1
  rw [show M.2 0 (13 + 42 * i + (5 + 4 * v + 1)) = _ from this]
  rw [qa_txt_get hv] at k
  exact k
theorem qe_X12_isClosed (H : qk_at h m M) (R : qk_G (M.2 0) L) {i : Nat} (hi : i < L.1.length) (hs : qa_sunok L.1[i]) {Q : Int32 → ql_H → Prop} (k : Q (qp_b (!qa_open L L.1[i])) h) : qw_X12_isClosed m (nI i) h Q := by
  have n16 := R.1.1
  have hc := qk_cl R hi
  have h8 := hc.2.2.2.1.2.1
  unfold qw_X12_isClosed qw_X12_isClosed_25
  rw [qk_rg H, qk_lgx H 2 2, show M.2 0 2 = L.2.1 2 from R.1.2.2.2.1, qk_rv H]
  refine qe_X12_isValid H R hi hs ?_
  unfold qa_open at k
  cases e : qa_hold L.1[i] (L.2.1 2) with
  | false =>
    rw [e] at k
    exact qp_iT rfl ⟨ql_nz1, k⟩
  | true =>
    rw [e, Bool.true_and] at k
    refine qp_iF qp_1 ?_
    rw [qk_rv H]
    refine qe_X12_of H (w := 4) (by omega) (by omega) ?_
    rw [show M.2 0 (13 + 42 * i + 4) = nI (qa_vs L.1[i]).length from hc.2.1.1]
    by_cases e8 : (qa_vs L.1[i]).length = 8
    · rw [decide_eq_false (by omega)] at k
      exact qp_iT (by rw [e8]; rfl) ⟨ql_nz1, k⟩
    · rw [decide_eq_true (by omega)] at k
      exact qp_iF (fun z => e8 ((nI_eq (b := 8) (by omega) (by omega)).mp z)) ⟨ql_nz0, k⟩
theorem qe_X12_note (H : qk_at h m M) {i v q : Nat} (hi : i < 16) (hv : v + 2 + q / 6 < 42) (hq : q < 100) {a : Nat} (ha : qk_nt (M.2 0 (13 + 42 * i + (v + 2 + q / 6))) (q % 6) = nI a) {Q : Int32 → ql_H → Prop} (k : Q (nI (97 + a)) h) : qw_X12_note m (nI i) (nI v) (nI q) h Q := by
  unfold qw_X12_note
  refine ⟨by decide, ?_⟩
  rw [qk_rv H, show (6 : Int32) = nI 6 from rfl, show (2 : Int32) = nI 2 from rfl, nI_add, pk_div (by omega) (by omega) (by omega), nI_add]
  refine qe_X12_of H hi hv ⟨by decide, ?_⟩
  rw [pk_mul, pk_sub (Nat.div_mul_le_self _ _), show q - q / 6 * 6 = q % 6 by omega]
  unfold qk_nt at ha
  rw [ha, show (97 : Int32) = nI 97 from rfl, nI_add]
  exact k
theorem qe_X12_versionOn (H : qk_at h m M) (R : qk_G (M.2 0) L) {i : Nat} (hi : i < L.1.length) {d : Int32} {Q : Int32 → ql_H → Prop} (k : ∀ v (hv : v < (qa_vs L.1[i]).length), qa_on L.1[i] d = some ((qa_vs L.1[i])[v]).2 → Q (nI (5 + 4 * v)) h) (k0 : qa_on L.1[i] d = none → Q (-1) h) : qw_X12_versionOn m (nI i) d h Q := by
  have n16 := R.1.1
  have hc := qk_cl R hi
  have h8 := hc.2.2.2.1.2.1
  -- the last of the first j that are not past d
  have hL : ∀ n j (f : Option Nat), j ≤ (qa_vs L.1[i]).length → (qa_vs L.1[i]).length - j < n → (match f with | none => ∀ t (ht : t < (qa_vs L.1[i]).length), t < j → ¬ ((qa_vs L.1[i])[t]).1 ≤ d | some v => v < j ∧ ∃ hv : v < (qa_vs L.1[i]).length, ((qa_vs L.1[i])[v]).1 ≤ d ∧ ∀ t (ht : t < (qa_vs L.1[i]).length), v < t → t < j → ¬ ((qa_vs L.1[i])[t]).1 ≤ d) → qw_X12_versionOn_5 m Q n (nI i) d (match f with | none => -1 | some v => nI (5 + 4 * v)) (nI j) h := by
    intro n
    induction n with
    | zero => intro j _ _ h; omega
    | succ n ih =>
      intro j f hj hm hf
      unfold qw_X12_versionOn_5 qw_X12_versionOn_38
      rw [qk_rv H]
      refine qe_X12_of H (w := 4) (by omega) (by omega) ?_
      rw [show M.2 0 (13 + 42 * i + 4) = nI (qa_vs L.1[i]).length from hc.2.1.1]
      by_cases e : j = (qa_vs L.1[i]).length
      · refine qp_iT (nI_le (by omega) (by omega)) ?_
        -- the answer
        have key : ∀ (l : List qa_V) (v : Nat) (hv : v < l.length), l[v].1 ≤ d → (∀ t (ht : t < l.length), v < t → ¬ l[t].1 ≤ d) → (l.reverse.find? fun w => decide (w.1 ≤ d)) = some l[v] := by
          intro l v hv h1 h2
          rw [List.find?_eq_some_iff_getElem]
          refine ⟨decide_eq_true h1, l.length - 1 - v, by rw [List.length_reverse]; omega, ?_, fun t ht => ?_⟩
          · rw [List.getElem_reverse]
            congr 1
            omega
          · rw [List.getElem_reverse, Bool.not_eq_true', decide_eq_false_iff_not]
            exact h2 _ _ (by omega)
        cases f with
        | none =>
          refine k0 ?_
          unfold qa_on
          rw [List.find?_eq_none.mpr, Option.map_none]
          intro w hw
          obtain ⟨t, ht, rfl⟩ := List.mem_iff_getElem.mp (List.mem_reverse.mp hw)
          rw [decide_eq_true_eq]
          exact hf t ht (by omega)
        | some v =>
          obtain ⟨_, hv, h1, h2⟩ := hf
          refine k v hv ?_
          unfold qa_on
          rw [key _ v hv h1 fun t ht hvt => h2 t ht hvt (by omega), Option.map_some]
      · have hj2 : j < (qa_vs L.1[i]).length := by omega
        refine qp_iF (nI_ge hj2 (by omega)) ?_
        rw [qk_rv H, show (5 : Int32) = nI 5 from rfl, show (4 : Int32) = nI 4 from rfl, pk_mul, nI_add]
        refine qe_X12_of H (by omega) (by omega) ?_
        rw [show M.2 0 (13 + 42 * i + (5 + 4 * j)) = ((qa_vs L.1[i])[j]).1 from (hc.2.1.2 j hj2).1, nI_1]
        refine qp_if (fun z => ?_) fun z => ?_
        · refine ih (j + 1) f (by omega) (by omega) ?_
          cases f with
          | none =>
            intro t ht h1
            by_cases e2 : t = j
            · subst e2
              exact Int32.not_le.mpr z
            · exact hf t ht (by omega)
          | some v =>
            obtain ⟨h0, hv, h1, h2⟩ := hf
            refine ⟨by omega, hv, h1, fun t ht h3 h4 => ?_⟩
            by_cases e2 : t = j
            · subst e2
              exact Int32.not_le.mpr z
            · exact h2 t ht h3 (by omega)
        · exact ih (j + 1) (some j) (by omega) (by omega) ⟨by omega, hj2, Int32.not_lt.mp z, fun t ht h3 h4 => by omega⟩
  exact hL ql_FU 0 none (Nat.zero_le _) (by unfold ql_FU; omega) fun t ht h => absurd h (Nat.not_lt_zero t)
theorem qe_X12_sectionsBefore (H : qk_at h m M) (R : qk_G (M.2 0) L) {i : Nat} (hi : i < L.1.length) {Q : Int32 → ql_H → Prop} (k : Q (nI (qa_below L.1 (qa_sec L.1[i]))) h) : qw_X12_sectionsBefore m (nI i) h Q := by
  have n16 := R.1.1
  have hL : ∀ n j, j ≤ L.1.length → L.1.length - j < n → qw_X12_sectionsBefore_4 m Q n (nI i) (nI (qa_below (L.1.take j) (qa_sec L.1[i]))) (nI j) h := by
    intro n
    induction n with
    | zero => intro j _ h; omega
    | succ n ih =>
      intro j hj hm
      unfold qw_X12_sectionsBefore_4 qw_X12_sectionsBefore_35
      rw [qk_rg H, qk_lgx H 0 0, qk_len R]
      by_cases e : j = L.1.length
      · subst e
        refine qp_iT (nI_le (Nat.le_refl _) (by omega)) ?_
        rw [List.take_length]
        exact k
      · have hj2 : j < L.1.length := by omega
        refine qp_iF (nI_ge hj2 (by omega)) ?_
        rw [qk_rv H]
        refine qe_X12_of H (w := 1) (by omega) (by omega) ?_
        rw [show M.2 0 (13 + 42 * j + 1) = qa_sec L.1[j] from (qk_cl R hj2).1.2.1, qk_rv H]
        refine qe_X12_of H (w := 1) (by omega) (by omega) ?_
        rw [show M.2 0 (13 + 42 * i + 1) = qa_sec L.1[i] from (qk_cl R hi).1.2.1, nI_1]
        have hn := ih (j + 1) hj2 (by omega)
        rw [List.take_succ_eq_append_getElem hj2] at hn
        unfold qa_below at hn ⊢
        refine qp_if (fun z => ?_) fun z => ?_
        · rw [qp_cp0 (P := fun C => decide (qa_sec C < qa_sec L.1[i])) (decide_eq_false (Int32.not_lt.mpr z))] at hn
          rw [Int32.add_zero]
          exact hn
        · rw [qp_cp1 (P := fun C => decide (qa_sec C < qa_sec L.1[i])) (decide_eq_true (Int32.not_le.mp z))] at hn
          rw [nI_1]
          exact hn
  exact hL ql_FU 0 (Nat.zero_le _) (by unfold ql_FU; omega)
theorem qe_X12_cited (H : qk_at h m M) (R : qk_G (M.2 0) L) {i : Nat} (hi : i < L.1.length) {x : Int32} {Q : Int32 → ql_H → Prop} (k : ∀ j (hj : j < (qa_ci L.1[i]).length), (qa_ci L.1[i])[j] = x → (∀ t (ht : t < j), (qa_ci L.1[i])[t]'(Nat.lt_trans ht hj) ≠ x) → Q (nI j) h) (k0 : x ∉ qa_ci L.1[i] → Q (-1) h) : qw_X12_cited m (nI i) x h Q := by
  have n16 := R.1.1
  have hc := qk_cl R hi
  have h4 := hc.2.2.2.2.1
  have hL : ∀ n j, (hj : j ≤ (qa_ci L.1[i]).length) → (qa_ci L.1[i]).length - j < n → (∀ t (ht : t < j), (qa_ci L.1[i])[t]'(by omega) ≠ x) → qw_X12_cited_2 m Q n (nI i) x (nI j) h := by
    intro n
    induction n with
    | zero => intro j _ h; omega
    | succ n ih =>
      intro j hj hm hp
      unfold qw_X12_cited_2
      rw [qk_rv H]
      refine qe_X12_of H (w := 37) (by omega) (by omega) ?_
      rw [show M.2 0 (13 + 42 * i + 37) = nI (qa_ci L.1[i]).length from hc.2.2.1.1]
      by_cases e : j = (qa_ci L.1[i]).length
      · subst e
        refine qp_iT (nI_le (Nat.le_refl _) (by omega)) (k0 fun z => ?_)
        obtain ⟨t, ht, e2⟩ := List.mem_iff_getElem.mp z
        exact hp t ht e2
      · have hj2 : j < (qa_ci L.1[i]).length := by omega
        refine qp_iF (nI_ge hj2 (by omega)) ?_
        rw [qk_rv H, show (38 : Int32) = nI 38 from rfl, nI_add]
        refine qe_X12_of H (by omega) (by omega) ?_
        rw [show M.2 0 (13 + 42 * i + (38 + j)) = (qa_ci L.1[i])[j] from hc.2.2.1.2 j hj2]
        refine qp_if (fun z => k j hj2 z hp) fun z => ?_
        rw [nI_1]
        refine ih (j + 1) hj2 (by omega) fun t ht => ?_
        by_cases e2 : t = j
        · subst e2
          exact z
        · exact hp t (by omega)
  exact hL ql_FU 0 (Nat.zero_le _) (by unfold ql_FU; omega) fun j hj => absurd hj (Nat.not_lt_zero j)
end QK2
