/-! The cells say what the ledger says. -/
section QR
theorem qp_zi {n : Nat} {x : Int32} (h : x.toInt = n) : nI n = x := by
  refine Int32.toInt_inj.mp ?_
  have h2 := Int32.toInt_lt x
  rw [nI_toInt (by omega), h]
def qa_sh (A : qa_C) : Prop :=
  (1 ≤ (qa_vs A).length ∧ (qa_vs A).length ≤ 8 ∧ ∀ v ∈ qa_vs A, qt_ok v.2 ∧ v.2 ≠ []) ∧ (qa_ci A).length ≤ 4 ∧ (qa_ci A).Nodup ∧ ∀ y ∈ qa_ci A, y ≠ -1
def qr_C (C : qc_T) (A : qa_C) : Prop :=
  (C.1 0 = 1 ∧ C.1 1 = qa_id A ∧ C.1 2 = qa_sec A ∧ C.1 3 = qa_beg A ∧ C.1 4 = qa_sun A) ∧
  ((∀ j (hj : j < (qa_vs A).length), C.2.1 j = ((qa_vs A)[j]).1 ∧ qt_is (C.2.2.1 j) ((qa_vs A)[j]).2) ∧ ∀ j, (qa_vs A).length ≤ j → j < 8 → C.2.2.1 j = 0) ∧
  ((∀ j (hj : j < (qa_ci A).length), C.2.2.2 j = (qa_ci A)[j]) ∧ ∀ j, (qa_ci A).length ≤ j → j < 4 → C.2.2.2 j = -1) ∧ qa_sh A
variable {C : qc_T} {A : qa_C}
theorem qt_ne0 {T : Int64} {t : List Nat} (I : qt_is T t) (h : t ≠ []) : T ≠ 0 := fun e => h ((qt_eq I qt_z).mp e)
theorem qr_C.ok (R : qr_C C A) : qc_ok C (qa_vs A).length (qa_ci A).length :=
  ⟨⟨R.2.2.2.1.2.1, fun j hj => qt_ne0 (R.2.1.1 j hj).2 (R.2.2.2.1.2.2 _ (List.getElem_mem hj)).2, R.2.1.2⟩, R.2.2.2.2.1, fun j hj => by
    rw [R.2.2.1.1 j hj]
    exact R.2.2.2.2.2.2 _ (List.getElem_mem hj), R.2.2.1.2⟩
theorem qr_C.v1 (R : qr_C C A) : ∃ v, (qa_vs A).length = v + 1 ∧ v < 8 ∧ qc_ok C (v + 1) (qa_ci A).length := by
  have h1 := R.2.2.2.1.1
  have h2 := R.2.2.2.1.2.1
  refine ⟨(qa_vs A).length - 1, by omega, by omega, ?_⟩
  rw [show (qa_vs A).length - 1 + 1 = (qa_vs A).length by omega]
  exact R.ok
theorem qa_txt_get {A : qa_C} {v : Nat} (h : (qa_vs A).length = v + 1) : qa_txt A = ((qa_vs A)[v]'(by omega)).2 := by
  unfold qa_txt
  rw [List.getLast?_eq_getElem?, show (qa_vs A).length - 1 = v by omega, List.getElem?_eq_getElem (by omega)]
  rfl
theorem qr_C.txt (R : qr_C C A) {v : Nat} (h : (qa_vs A).length = v + 1) : qt_is (C.2.2.1 v) (qa_txt A) := by
  rw [qa_txt_get h]
  exact (R.2.1.1 v (by omega)).2
theorem qr_C.tok (R : qr_C C A) : qt_ok (qa_txt A) ∧ qa_txt A ≠ [] := by
  obtain ⟨v, hv, _⟩ := R.v1
  rw [qa_txt_get hv]
  exact R.2.2.2.1.2.2 _ (List.getElem_mem _)
theorem qr_C.hold (R : qr_C C A) (d : Int32) : qc_hold C d = qa_hold A d := by
  unfold qc_hold qa_hold
  rw [R.1.2.2.2.1, R.1.2.2.2.2]
theorem qr_C.laps (R : qr_C C A) (d : Int32) : qc_laps C d = qa_laps A d := by
  unfold qc_laps qa_laps
  rw [R.1.2.2.2.2]
/-- the clauses of the first n slots -/
def qs_ls (S : Nat → Option qa_C) (n : Nat) : List qa_C := (List.range n).filterMap S
theorem qs_ls_succ (S : Nat → Option qa_C) (n : Nat) : qs_ls S (n + 1) = qs_ls S n ++ (S n).toList := by
  unfold qs_ls
  rw [List.range_succ, List.filterMap_append]
  cases h : S n <;> simp [h]
theorem qs_ls_none {S : Nat → Option qa_C} {n : Nat} (h : S n = none) : qs_ls S (n + 1) = qs_ls S n := by
  rw [qs_ls_succ, h, Option.toList_none, List.append_nil]
theorem qs_ls_some {S : Nat → Option qa_C} {n : Nat} {A : qa_C} (h : S n = some A) : qs_ls S (n + 1) = qs_ls S n ++ [A] := by
  rw [qs_ls_succ, h, Option.toList_some]
theorem qs_ls_mem {S : Nat → Option qa_C} {n : Nat} {A : qa_C} : A ∈ qs_ls S n ↔ ∃ i, i < n ∧ S i = some A := by
  unfold qs_ls
  rw [List.mem_filterMap]
  exact ⟨fun ⟨i, h1, h2⟩ => ⟨i, List.mem_range.mp h1, h2⟩, fun ⟨i, h1, h2⟩ => ⟨i, List.mem_range.mpr h1, h2⟩⟩
theorem qs_ls_le (S : Nat → Option qa_C) (n : Nat) : (qs_ls S n).length ≤ n := by
  have := List.length_filterMap_le S (List.range n)
  rwa [List.length_range] at this
theorem qs_ls_congr {S S2 : Nat → Option qa_C} {n : Nat} (h : ∀ i, i < n → S i = S2 i) : qs_ls S n = qs_ls S2 n := by
  induction n with
  | zero => rfl
  | succ n ih => rw [qs_ls_succ, qs_ls_succ, ih (fun i hi => h i (by omega)), h n (by omega)]
theorem qs_ls_map (S : Nat → Option qa_C) (f : qa_C → qa_C) (n : Nat) : qs_ls (fun j => (S j).map f) n = (qs_ls S n).map f := by
  induction n with
  | zero => rfl
  | succ n ih =>
    rw [qs_ls_succ, qs_ls_succ, ih, List.map_append]
    cases S n <;> rfl
theorem qs_ls_filter (S : Nat → Option qa_C) (p : qa_C → Bool) (n : Nat) : qs_ls (fun j => (S j).filter p) n = (qs_ls S n).filter p := by
  induction n with
  | zero => rfl
  | succ n ih =>
    rw [qs_ls_succ, qs_ls_succ, ih, List.filter_append]
    congr 1
    cases S n with
    | none => rfl
    | some A =>
      cases e : p A <;> simp [Option.filter, e]
theorem qs_ls_add {S : Nat → Option qa_C} {i : Nat} (A : qa_C) (h : S i = none) {n : Nat} (hi : i < n) : (qs_ls (va_up S i (some A)) n).Perm (qs_ls S n ++ [A]) := by
  induction n with
  | zero => omega
  | succ n ih =>
    by_cases e : i = n
    · subst e
      rw [qs_ls_some (va_up_self ..), qs_ls_none h, qs_ls_congr (S2 := S) fun j hj => va_up_ne _ _ (by omega)]
    · rw [qs_ls_succ, qs_ls_succ, va_up_ne _ _ (fun z => e z.symm), List.append_assoc]
      refine (List.Perm.append_right _ (ih (by omega))).trans ?_
      rw [List.append_assoc]
      exact List.Perm.append_left _ List.perm_append_comm
/-- a slot for each clause -/
def qr_S (B : qb_T) (S : Nat → Option qa_C) : Prop := ∀ i, i < 16 → (∀ A, S i = some A → qr_C (B.1 i) A) ∧ (S i = none → (B.1 i).1 0 = 0)
def qr_F (B : qb_T) (L : qa_L) : Prop := (B.2.1 1 = L.2.1 3 ∧ ∀ j, 2 ≤ j → j < 8 → B.2.1 j = L.2.1 j) ∧ ∀ e, e < 2 ^ 30 → L.2.1 7 = nI e → ∀ t, 1 ≤ t → t ≤ e → e < t + 6 → B.2.2 (t % 6) = L.2.2 t
def qr_L (B : qb_T) (L : qa_L) : Prop := ∃ S, qr_S B S ∧ (qs_ls S 16).Perm L.1 ∧ qr_F B L
end QR
section QRB
variable {h : ql_H} {b : Nat} {B : qb_T} {S : Nat → Option qa_C}
theorem qr_S.ex (R : qr_S B S) (i : Nat) (hi : i < 16) : (B.1 i).1 0 = 0 ∨ (B.1 i).1 0 = 1 := by
  cases e : S i with
  | none => exact Or.inl ((R i hi).2 e)
  | some A => exact Or.inr ((R i hi).1 A e).1.1
theorem qp_1 : ¬ (1 : Int32) = 0 := by decide
theorem qe_X1_freeClause (H : qb_at h b B) (R : qr_S B S) {Q : Option Nat → ql_H → Prop} (k : ∀ i, i < 16 → S i = none → Q (some (b + 3 + 4 * i)) h) (k0 : (qs_ls S 16).length = 16 → Q none h) : qw_X1_freeClause b h Q := by
  have hL : ∀ m i, i ≤ 16 → 16 - i < m → (qs_ls S i).length = i → qw_X1_freeClause_10 b Q m (some (b + 1)) (nI 16) (nI i) h := by
    intro m
    induction m with
    | zero => intro i _ h; omega
    | succ m ih =>
      intro i hi hm hj
      unfold qw_X1_freeClause_10
      by_cases e : i = 16
      · subst e
        exact qp_iT (nI_le (Nat.le_refl _) (by omega)) (k0 hj)
      · refine qp_iF (nI_ge (by omega) (by omega)) ?_
        rw [qb_lC H (by omega), qc_f (H.2.2.2 i (by omega)) 0]
        cases eS : S i with
        | none => exact qp_iT ((R i (by omega)).2 eS) (k i (by omega) eS)
        | some A =>
          refine qp_iF (by rw [((R i (by omega)).1 A eS).1.1]; exact qp_1) ?_
          rw [nI_1]
          refine ih (i + 1) (by omega) (by omega) ?_
          rw [qs_ls_some eS, List.length_append, hj]
          rfl
  unfold qw_X1_freeClause
  rw [qb_r0 H, qb_ln H]
  exact hL ql_FU 0 (Nat.zero_le _) (by unfold ql_FU; omega) rfl
theorem qe_X1_clauseWithSection (H : qb_at h b B) (R : qr_S B S) {s : Int32} {Q : Option Nat → ql_H → Prop} (k : ∀ i A, i < 16 → S i = some A → qa_sec A = s → Q (some (b + 3 + 4 * i)) h) (k0 : (∀ i A, i < 16 → S i = some A → qa_sec A ≠ s) → Q none h) : qw_X1_clauseWithSection b s h Q := by
  have hL : ∀ m i, i ≤ 16 → 16 - i < m → (∀ j A, j < i → S j = some A → qa_sec A ≠ s) → qw_X1_clauseWithSection_11 b Q m s (some (b + 1)) (nI 16) (nI i) h := by
    intro m
    induction m with
    | zero => intro i _ h; omega
    | succ m ih =>
      intro i hi hm hj
      unfold qw_X1_clauseWithSection_11 qw_X1_clauseWithSection_43
      by_cases e : i = 16
      · subst e
        exact qp_iT (nI_le (Nat.le_refl _) (by omega)) (k0 hj)
      · refine qp_iF (nI_ge (by omega) (by omega)) ?_
        have hC := H.2.2.2 i (by omega)
        rw [qb_lC H (by omega), qc_f hC 0, nI_1]
        have hn := ih (i + 1) (by omega) (by omega)
        cases eS : S i with
        | none =>
          refine qp_iT ((R i (by omega)).2 eS) (hn fun j A h1 h2 => ?_)
          by_cases e2 : j = i
          · subst e2
            rw [eS] at h2
            cases h2
          · exact hj j A (by omega) h2
        | some A =>
          have hA := (R i (by omega)).1 A eS
          refine qp_iF (by rw [hA.1.1]; exact qp_1) ?_
          rw [qc_f hC 2, hA.1.2.2.1]
          refine qp_if (fun z => k i A (by omega) eS z) fun z => hn fun j A2 h1 h2 => ?_
          by_cases e2 : j = i
          · subst e2
            rw [eS] at h2
            cases h2
            exact z
          · exact hj j A2 (by omega) h2
  unfold qw_X1_clauseWithSection
  rw [qb_r0 H, qb_ln H]
  exact hL ql_FU 0 (Nat.zero_le _) (by unfold ql_FU; omega) (fun j A h _ => absurd h (by omega))
theorem qe_X1_slotWithId (H : qb_at h b B) (R : qr_S B S) {x : Int32} {Q : Int32 → ql_H → Prop} (k : ∀ i A, i < 16 → S i = some A → qa_id A = x → Q (nI i) h) (k0 : (∀ i A, i < 16 → S i = some A → qa_id A ≠ x) → Q (-1) h) : qw_X1_slotWithId b x h Q := by
  have hL : ∀ m i, i ≤ 16 → 16 - i < m → (∀ j A, j < i → S j = some A → qa_id A ≠ x) → qw_X1_slotWithId_2 b Q m x (nI i) h := by
    intro m
    induction m with
    | zero => intro i _ h; omega
    | succ m ih =>
      intro i hi hm hj
      unfold qw_X1_slotWithId_2 qw_X1_slotWithId_38
      rw [qb_r0 H, qb_ln H]
      by_cases e : i = 16
      · subst e
        exact qp_iT (nI_le (Nat.le_refl _) (by omega)) (k0 hj)
      · refine qp_iF (nI_ge (by omega) (by omega)) ?_
        have hC := H.2.2.2 i (by omega)
        rw [qb_r0 H, qb_lC H (by omega), qc_f hC 0, nI_1]
        have hn := ih (i + 1) (by omega) (by omega)
        cases eS : S i with
        | none =>
          refine qp_iT ((R i (by omega)).2 eS) (hn fun j A h1 h2 => ?_)
          by_cases e2 : j = i
          · subst e2
            rw [eS] at h2
            cases h2
          · exact hj j A (by omega) h2
        | some A =>
          have hA := (R i (by omega)).1 A eS
          refine qp_iF (by rw [hA.1.1]; exact qp_1) ?_
          rw [qb_r0 H, qb_lC H (by omega), qc_f hC 1, hA.1.2.1]
          refine qp_if (fun z => k i A (by omega) eS z) fun z => hn fun j A2 h1 h2 => ?_
          by_cases e2 : j = i
          · subst e2
            rw [eS] at h2
            cases h2
            exact z
          · exact hj j A2 (by omega) h2
  unfold qw_X1_slotWithId
  exact hL ql_FU 0 (Nat.zero_le _) (by unfold ql_FU; omega) (fun j A h _ => absurd h (by omega))
theorem qe_X1_clauseWithId (H : qb_at h b B) (R : qr_S B S) {x : Int32} {Q : Option Nat → ql_H → Prop} (k : ∀ i A, i < 16 → S i = some A → qa_id A = x → Q (some (b + 3 + 4 * i)) h) (k0 : (∀ i A, i < 16 → S i = some A → qa_id A ≠ x) → Q none h) : qw_X1_clauseWithId b x h Q := by
  unfold qw_X1_clauseWithId
  rw [qb_rv H]
  refine qe_X1_slotWithId H R (fun i A hi eS z => ?_) (fun z => qp_iT rfl (k0 z))
  refine qp_iF (qp_nI_m1 (by omega)) ?_
  rw [qb_r0 H, qb_lC H hi]
  exact k i A hi eS z
theorem qe_X1_countClauses (H : qb_at h b B) (R : qr_S B S) {Q : Int32 → ql_H → Prop} (k : Q (nI (qs_ls S 16).length) h) : qw_X1_countClauses b h Q := by
  have hL : ∀ m i, i ≤ 16 → 16 - i < m → qw_X1_countClauses_13 b Q m (nI (qs_ls S i).length) (some (b + 1)) (nI 16) (nI i) h := by
    intro m
    induction m with
    | zero => intro i _ h; omega
    | succ m ih =>
      intro i hi hm
      unfold qw_X1_countClauses_13 qw_X1_countClauses_36
      by_cases e : i = 16
      · subst e
        exact qp_iT (nI_le (Nat.le_refl _) (by omega)) k
      · refine qp_iF (nI_ge (by omega) (by omega)) ?_
        rw [qb_lC H (by omega), qc_f (H.2.2.2 i (by omega)) 0, nI_1, nI_1]
        have hn := ih (i + 1) (by omega) (by omega)
        cases eS : S i with
        | none =>
          rw [qs_ls_none eS] at hn
          exact qp_iT ((R i (by omega)).2 eS) hn
        | some A =>
          rw [qs_ls_some eS, List.length_append] at hn
          exact qp_iF (by rw [((R i (by omega)).1 A eS).1.1]; exact qp_1) hn
  unfold qw_X1_countClauses
  rw [qb_r0 H, qb_ln H]
  exact hL ql_FU 0 (Nat.zero_le _) (by unfold ql_FU; omega)
theorem qp_cp1 {P : qa_C → Bool} {l : List qa_C} {A : qa_C} (h : P A = true) : (l ++ [A]).countP P = l.countP P + 1 := by
  rw [List.countP_append, List.countP_singleton, if_pos h]
theorem qp_cp0 {P : qa_C → Bool} {l : List qa_C} {A : qa_C} (h : P A = false) : (l ++ [A]).countP P = l.countP P := by
  rw [List.countP_append, List.countP_singleton, if_neg (by rw [h]; decide), Nat.add_zero]
theorem qe_X1_countLapsed (H : qb_at h b B) (R : qr_S B S) {Q : Int32 → ql_H → Prop} (k : Q (nI ((qs_ls S 16).countP fun A => qa_laps A (B.2.1 2))) h) : qw_X1_countLapsed b h Q := by
  have hL : ∀ m i, i ≤ 16 → 16 - i < m → qw_X1_countLapsed_13 b Q m (nI ((qs_ls S i).countP fun A => qa_laps A (B.2.1 2))) (some (b + 1)) (nI 16) (nI i) h := by
    intro m
    induction m with
    | zero => intro i _ h; omega
    | succ m ih =>
      intro i hi hm
      unfold qw_X1_countLapsed_13 qw_X1_countLapsed_48
      by_cases e : i = 16
      · subst e
        exact qp_iT (nI_le (Nat.le_refl _) (by omega)) k
      · refine qp_iF (nI_ge (by omega) (by omega)) ?_
        have hC := H.2.2.2 i (by omega)
        rw [qb_lC H (by omega), qc_f hC 0, nI_1, nI_1]
        have hn := ih (i + 1) (by omega) (by omega)
        cases eS : S i with
        | none =>
          rw [qs_ls_none eS] at hn
          exact qp_iT ((R i (by omega)).2 eS) hn
        | some A =>
          have hA := (R i (by omega)).1 A eS
          refine qp_iF (by rw [hA.1.1]; exact qp_1) ?_
          rw [qb_f H 2, qc_rv hC]
          refine qe_X3_lapsedBy hC ?_
          rw [hA.laps]
          rw [qs_ls_some eS] at hn
          cases e2 : qa_laps A (B.2.1 2) with
          | false =>
            rw [qp_cp0 (P := fun A => qa_laps A (B.2.1 2)) e2] at hn
            exact qp_iT rfl hn
          | true =>
            rw [qp_cp1 (P := fun A => qa_laps A (B.2.1 2)) e2] at hn
            exact qp_iF qp_1 hn
  unfold qw_X1_countLapsed
  rw [qb_r0 H, qb_ln H]
  exact hL ql_FU 0 (Nat.zero_le _) (by unfold ql_FU; omega)
theorem qe_X1_countHoldingOn (H : qb_at h b B) (R : qr_S B S) {d : Int32} {Q : Int32 → ql_H → Prop} (k : Q (nI ((qs_ls S 16).countP fun A => qa_hold A d)) h) : qw_X1_countHoldingOn b d h Q := by
  have hL : ∀ m i, i ≤ 16 → 16 - i < m → qw_X1_countHoldingOn_14 b Q m d (nI ((qs_ls S i).countP fun A => qa_hold A d)) (some (b + 1)) (nI 16) (nI i) h := by
    intro m
    induction m with
    | zero => intro i _ h; omega
    | succ m ih =>
      intro i hi hm
      unfold qw_X1_countHoldingOn_14 qw_X1_countHoldingOn_47
      by_cases e : i = 16
      · subst e
        exact qp_iT (nI_le (Nat.le_refl _) (by omega)) k
      · refine qp_iF (nI_ge (by omega) (by omega)) ?_
        have hC := H.2.2.2 i (by omega)
        rw [qb_lC H (by omega), qc_f hC 0, nI_1, nI_1]
        have hn := ih (i + 1) (by omega) (by omega)
        cases eS : S i with
        | none =>
          rw [qs_ls_none eS] at hn
          exact qp_iT ((R i (by omega)).2 eS) hn
        | some A =>
          have hA := (R i (by omega)).1 A eS
          refine qp_iF (by rw [hA.1.1]; exact qp_1) ?_
          rw [qc_rv hC]
          refine qe_X3_holdsOn hC ?_
          rw [hA.hold]
          rw [qs_ls_some eS] at hn
          cases e2 : qa_hold A d with
          | false =>
            rw [qp_cp0 (P := fun A => qa_hold A d) e2] at hn
            exact qp_iT rfl hn
          | true =>
            rw [qp_cp1 (P := fun A => qa_hold A d) e2] at hn
            exact qp_iF qp_1 hn
  unfold qw_X1_countHoldingOn
  rw [qb_r0 H, qb_ln H]
  exact hL ql_FU 0 (Nat.zero_le _) (by unfold ql_FU; omega)
theorem qe_X1_countSectionsBelow (H : qb_at h b B) (R : qr_S B S) {s : Int32} {Q : Int32 → ql_H → Prop} (k : Q (nI (qa_below (qs_ls S 16) s)) h) : qw_X1_countSectionsBelow b s h Q := by
  have hL : ∀ m i, i ≤ 16 → 16 - i < m → qw_X1_countSectionsBelow_14 b Q m s (nI (qa_below (qs_ls S i) s)) (some (b + 1)) (nI 16) (nI i) h := by
    intro m
    induction m with
    | zero => intro i _ h; omega
    | succ m ih =>
      intro i hi hm
      unfold qw_X1_countSectionsBelow_14 qw_X1_countSectionsBelow_47
      by_cases e : i = 16
      · subst e
        exact qp_iT (nI_le (Nat.le_refl _) (by omega)) k
      · refine qp_iF (nI_ge (by omega) (by omega)) ?_
        have hC := H.2.2.2 i (by omega)
        rw [qb_lC H (by omega), qc_f hC 0, nI_1, nI_1]
        have hn := ih (i + 1) (by omega) (by omega)
        cases eS : S i with
        | none =>
          rw [qs_ls_none eS] at hn
          exact qp_iT ((R i (by omega)).2 eS) hn
        | some A =>
          have hA := (R i (by omega)).1 A eS
          refine qp_iF (by rw [hA.1.1]; exact qp_1) ?_
          rw [qc_f hC 2, hA.1.2.2.1]
          rw [qs_ls_some eS] at hn
          unfold qa_below at hn ⊢
          refine qp_if (fun z => ?_) (fun z => ?_)
          · rw [qp_cp0 (P := fun C => decide (qa_sec C < s)) (decide_eq_false (Int32.not_lt.mpr z))] at hn
            exact hn
          · rw [qp_cp1 (P := fun C => decide (qa_sec C < s)) (decide_eq_true (Int32.not_le.mp z))] at hn
            exact hn
  unfold qw_X1_countSectionsBelow
  rw [qb_r0 H, qb_ln H]
  exact hL ql_FU 0 (Nat.zero_le _) (by unfold ql_FU; omega)
theorem qe_X1_clauseAtRank (H : qb_at h b B) (R : qr_S B S) {r : Int32} {Q : Option Nat → ql_H → Prop} (k : ∀ i A, i < 16 → S i = some A → nI (qa_below (qs_ls S 16) (qa_sec A)) = r → Q (some (b + 3 + 4 * i)) h) (k0 : (∀ i A, i < 16 → S i = some A → nI (qa_below (qs_ls S 16) (qa_sec A)) ≠ r) → Q none h) : qw_X1_clauseAtRank b r h Q := by
  have hL : ∀ m i, i ≤ 16 → 16 - i < m → (∀ j A, j < i → S j = some A → nI (qa_below (qs_ls S 16) (qa_sec A)) ≠ r) → qw_X1_clauseAtRank_11 b Q m r (some (b + 1)) (nI 16) (nI i) h := by
    intro m
    induction m with
    | zero => intro i _ h; omega
    | succ m ih =>
      intro i hi hm hj
      unfold qw_X1_clauseAtRank_11 qw_X1_clauseAtRank_47
      by_cases e : i = 16
      · subst e
        exact qp_iT (nI_le (Nat.le_refl _) (by omega)) (k0 hj)
      · refine qp_iF (nI_ge (by omega) (by omega)) ?_
        have hC := H.2.2.2 i (by omega)
        rw [qb_lC H (by omega), qc_f hC 0, nI_1]
        have hn := ih (i + 1) (by omega) (by omega)
        cases eS : S i with
        | none =>
          refine qp_iT ((R i (by omega)).2 eS) (hn fun j A h1 h2 => ?_)
          by_cases e2 : j = i
          · subst e2
            rw [eS] at h2
            cases h2
          · exact hj j A (by omega) h2
        | some A =>
          have hA := (R i (by omega)).1 A eS
          refine qp_iF (by rw [hA.1.1]; exact qp_1) ?_
          rw [qc_f hC 2, hA.1.2.2.1, qb_rv H]
          refine qe_X1_countSectionsBelow H R ?_
          refine qp_if (fun z => k i A (by omega) eS z) fun z => hn fun j A2 h1 h2 => ?_
          by_cases e2 : j = i
          · subst e2
            rw [eS] at h2
            cases h2
            exact z
          · exact hj j A2 (by omega) h2
  unfold qw_X1_clauseAtRank
  rw [qb_r0 H, qb_ln H]
  exact hL ql_FU 0 (Nat.zero_le _) (by unfold ql_FU; omega) (fun j A h _ => absurd h (by omega))
theorem qe_X3_txt {C : qc_T} {A : qa_C} {c : Nat} (hC : qc_at h c C) (R : qr_C C A) {Q : Int64 → ql_H → Prop} (k : ∀ T, qt_is T (qa_txt A) → Q T h) : qw_X3_latestText c h Q := by
  obtain ⟨v, hv, _, ok⟩ := R.v1
  exact qe_X3_latestText hC ok (k _ (R.txt hv))
theorem qe_X1_countNotes (H : qb_at h b B) (R : qr_S B S) {Q : Int32 → ql_H → Prop} (k : Q (nI (qa_notes (qs_ls S 16))) h) : qw_X1_countNotes b h Q := by
  have hL : ∀ m i, i ≤ 16 → 16 - i < m → qw_X1_countNotes_13 b Q m (nI (qa_notes (qs_ls S i))) (some (b + 1)) (nI 16) (nI i) h := by
    intro m
    induction m with
    | zero => intro i _ h; omega
    | succ m ih =>
      intro i hi hm
      unfold qw_X1_countNotes_13 qw_X1_countNotes_44
      by_cases e : i = 16
      · subst e
        exact qp_iT (nI_le (Nat.le_refl _) (by omega)) k
      · refine qp_iF (nI_ge (by omega) (by omega)) ?_
        have hC := H.2.2.2 i (by omega)
        rw [qb_lC H (by omega), qc_f hC 0, nI_1]
        have hn := ih (i + 1) (by omega) (by omega)
        cases eS : S i with
        | none =>
          rw [qs_ls_none eS] at hn
          exact qp_iT ((R i (by omega)).2 eS) hn
        | some A =>
          have hA := (R i (by omega)).1 A eS
          refine qp_iF (by rw [hA.1.1]; exact qp_1) ?_
          rw [qc_rv hC]
          refine qe_X3_txt hC hA fun T I => ?_
          refine qe_X9_lenOf I ?_
          rw [nI_add]
          rw [qs_ls_some eS, qa_notes, List.map_append, List.sum_append_nat] at hn
          exact hn
  unfold qw_X1_countNotes
  rw [qb_r0 H, qb_ln H]
  exact hL ql_FU 0 (Nat.zero_le _) (by unfold ql_FU; omega)
end QRB
