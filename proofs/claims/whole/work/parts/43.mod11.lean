/-! More of what the reference answers. -/
section QKB
variable {h h1 : ql_H} {m : Nat} {M : qk_T} {L : qa_L}
theorem qa_find_first : ∀ (l : List qa_C) (P : qa_C → Bool) (i : Nat) (hi : i < l.length), P l[i] = true → (∀ j (hj : j < i), P (l[j]'(Nat.lt_trans hj hi)) = false) → l.find? P = some l[i]
  | [], _, _, hi, _, _ => absurd hi (Nat.not_lt_zero _)
  | A :: l, P, 0, _, h, _ => List.find?_cons_of_pos h
  | A :: l, P, i + 1, hi, h, hj => by
    have h0 : P A = false := hj 0 (Nat.succ_pos i)
    rw [List.find?_cons_of_neg (by rw [h0]; decide)]
    exact qa_find_first l P i (Nat.lt_of_succ_lt_succ hi) h fun j hj2 => hj (j + 1) (Nat.succ_lt_succ hj2)
theorem qa_find_no {l : List qa_C} {P : qa_C → Bool} (h : ∀ i (hi : i < l.length), P l[i] = false) : l.find? P = none := by
  rw [List.find?_eq_none]
  intro A hA
  obtain ⟨i, hi, rfl⟩ := List.mem_iff_getElem.mp hA
  rw [h i hi]
  decide
theorem qe_X12_clauseAt (H : qk_at h m M) (R : qk_G (M.2 0) L) {p : Int32} {Q : Int32 → ql_H → Prop} (k : ∀ h1 M1 x, qk_at h1 m M1 → qp_fr m (m + 10) h h1 → qk_pq M M1 (qq_clauseAt L p) x → Q x h1) : qw_X12_clauseAt m p h Q := by
  have n16 := R.1.1
  have hL : ∀ n i, (hi : i ≤ L.1.length) → L.1.length - i < n → (∀ j (hj : j < i), (nI (qa_below L.1 (qa_sec (L.1[j]'(by omega)))) == p) = false) → qw_X12_clauseAt_2 m Q n p (nI i) h := by
    intro n
    induction n with
    | zero => intro i _ h; omega
    | succ n ih =>
      intro i hi hm hj
      unfold qw_X12_clauseAt_2
      rw [qk_rg H, qk_lgx H 0 0, qk_len R]
      by_cases e : i = L.1.length
      · subst e
        refine qp_iT (nI_le (Nat.le_refl _) (by omega)) ?_
        refine qk_p H 7 fun h1 H1 f1 => k h1 _ _ H1 f1 ?_
        unfold qq_clauseAt qa_rank
        rw [qa_ans_n (qa_find_no hj)]
        exact qk_pq.mk (n := 1) rfl fun z => by cases z
      · have hi2 : i < L.1.length := by omega
        refine qp_iF (nI_ge hi2 (by omega)) ?_
        rw [qk_rv H]
        refine qe_X12_sectionsBefore H R hi2 ?_
        refine qp_if (fun z => ?_) fun z => ?_
        · refine qk_p H 7 fun h1 H1 f1 => ?_
          rw [qk_rv H1]
          refine qe_X12_of H1 (w := 0) (by omega) (by omega) (k h1 _ _ H1 f1 ?_)
          unfold qq_clauseAt qa_rank
          rw [qa_ans_s (qa_find_first L.1 (fun C => nI (qa_below L.1 (qa_sec C)) == p) i hi2 (by rw [z]; exact beq_self_eq_true p) hj)]
          exact qk_pq.mk (n := 0) rfl fun _ => (qk_cl R hi2).1.1
        · rw [nI_1]
          refine ih (i + 1) hi2 (by omega) fun j hj2 => ?_
          by_cases e2 : j = i
          · subst e2
            rw [beq_eq_false_iff_ne]
            exact z
          · exact hj j (by omega)
  exact hL ql_FU 0 (Nat.zero_le _) (by unfold ql_FU; omega) fun j hj => absurd hj (Nat.not_lt_zero j)
theorem qe_X12_clauseOfSection (H : qk_at h m M) (R : qk_G (M.2 0) L) {s : Int32} {Q : Int32 → ql_H → Prop} (k : ∀ h1 M1 x, qk_at h1 m M1 → qp_fr m (m + 10) h h1 → qk_pq M M1 (qq_ofSection L s) x → Q x h1) : qw_X12_clauseOfSection m s h Q := by
  have n16 := R.1.1
  unfold qw_X12_clauseOfSection qw_X12_clauseOfSection_14
  rw [qk_rv H]
  refine qe_X12_withSection H R (fun i hi e hj => ?_) (fun e => ?_)
  · refine qp_iT (nI_pos' (by omega)) ?_
    rw [qk_rv H]
    refine qe_X12_fails H (n := 0) (by omega) fun h1 H1 f1 => qp_iT rfl ?_
    rw [qk_rv H1]
    refine qe_X12_withSection H1 (L := L) R (fun i2 hi2 e2 hj2 => ?_) (fun e2 => absurd e (e2 _ (List.getElem_mem hi)))
    rw [qk_rv H1]
    refine qe_X12_of H1 (w := 0) (by omega) (by omega) (k h1 _ _ H1 f1 ?_)
    unfold qq_ofSection qa_ofSec
    rw [qa_ans_s (qa_find_first L.1 (fun C => qa_sec C == s) i2 hi2 (by rw [e2]; exact beq_self_eq_true s) fun j hj3 => by rw [beq_eq_false_iff_ne]; exact hj2 j hj3)]
    exact qk_pq.mk (n := 0) rfl fun _ => (qk_cl R hi2).1.1
  · refine qp_iF (by decide) ?_
    rw [qk_rv H]
    refine qe_X12_fails H (n := 1) (by omega) fun h1 H1 f1 => qp_iF qp_1 (k h1 _ _ H1 f1 ?_)
    unfold qq_ofSection qa_ofSec
    rw [qa_ans_n (List.find?_eq_none.mpr fun A hA => by rw [beq_iff_eq]; exact e A hA)]
    exact qk_pq.mk (n := 1) rfl fun z => by cases z
theorem qa_nth_in {t : List Nat} {j : Nat} (hj : j < t.length) (h31 : t.length < 2 ^ 31) : qa_nth t (nI j) = (0, nI (97 + t[j])) := by
  unfold qa_nth
  rw [if_neg (fun z => by
    rcases z with z | z
    · exact nI_pos (by omega) z
    · exact nI_ge hj h31 z), nI_clamp (by omega), List.getD_eq_getElem?_getD, List.getElem?_eq_getElem hj]
  rfl
theorem qa_nth_out {t : List Nat} {p : Int32} (h : p < 0 ∨ nI t.length ≤ p) : qa_nth t p = (2, 0) := if_pos h
theorem qp_ch {a : Nat} (ha : a < 8) : ((nI (97 + a)).toUInt32 % 65536).toInt32 = nI (97 + a) ∧ ql_nz .char (nI (97 + a)) := by
  have hs : ∀ a, a < 8 → ((nI (97 + a)).toUInt32 % 65536).toInt32 = nI (97 + a) := by decide +kernel
  exact ⟨hs a ha, (pk_charN (by omega)).1⟩
theorem qk_pos {t : List Nat} (h0 : 0 < t.length) (h31 : t.length < 2 ^ 31) (p : Int32) : (decide ((0 : Int32) ≤ p) && decide (p ≤ nI t.length - 1)) = false ∧ (p < 0 ∨ nI t.length ≤ p) ∨ (decide ((0 : Int32) ≤ p) && decide (p ≤ nI t.length - 1)) = true ∧ ∃ j, j < t.length ∧ p = nI j := by
  rw [decide_eq_decide.mpr (qp_len1 h0 h31 p)]
  by_cases z : p < 0
  · exact Or.inl ⟨by rw [decide_eq_false (Int32.not_le.mpr z), Bool.false_and], Or.inl z⟩
  · by_cases z2 : nI t.length ≤ p
    · exact Or.inl ⟨by rw [decide_eq_false (p := p < nI t.length) (Int32.not_lt.mpr z2), Bool.and_false], Or.inr z2⟩
    · refine Or.inr ⟨by rw [decide_eq_true (Int32.not_lt.mp z), decide_eq_true (Int32.not_le.mp z2)]; rfl, ?_⟩
      obtain ⟨j, hj, rfl⟩ := nI_of z
      exact ⟨j, (nI_ltI hj h31).mp (Int32.not_le.mp z2), rfl⟩
theorem qe_X12_noteAt (H : qk_at h m M) (R : qk_G (M.2 0) L) {c p : Int32} {Q : Int32 → ql_H → Prop} (k : ∀ h1 M1 x, qk_at h1 m M1 → qp_fr m (m + 10) h h1 → qk_pq M M1 (qq_noteAt L c p) x → Q x h1) : qw_X12_noteAt m c p h Q := by
  have n16 := R.1.1
  have fl : ∀ (e : Nat) (pl : Int32), 0 < e → e < 10 → qq_noteAt L c p = (e, 0) → qw_X12_noteAt_35 m Q p pl (some m) (nI e) h := by
    intro e pl h0 h10 eq
    unfold qw_X12_noteAt_35
    rw [qk_rv H]
    refine qe_X12_fails H (by omega) fun h1 H1 f1 => ?_
    rw [decide_eq_true h0]
    refine qp_iF qp_1 ⟨rfl, k h1 _ _ H1 f1 ?_⟩
    rw [eq]
    exact qk_pq.mk rfl fun z => by
      have : e = 0 := z
      omega
  unfold qw_X12_noteAt
  rw [qk_rv H]
  refine qe_X12_placeOf H R (fun i hi e f => ?_) (fun e => qp_iF (by decide) (fl 1 _ (by omega) (by omega) (qa_bind_n e)))
  have hc := qk_cl R hi
  obtain ⟨v, hv, hv8, htk, htn⟩ := qk_vs1 hc
  have hl := htk.2
  have hl0 : 0 < (qa_txt L.1[i]).length := List.length_pos_iff.mpr htn
  have eq : qq_noteAt L c p = qa_nth (qa_txt L.1[i]) p := qa_bind_s f
  refine qp_iT (nI_pos' (by omega)) ?_
  rw [qk_rv H]
  refine qe_X12_long0 H R hi ?_
  refine qe_X12_in ?_
  rcases qk_pos hl0 (by omega) p with ⟨e1, e2⟩ | ⟨e1, j, hj, rfl⟩
  · rw [e1]
    exact qp_iT rfl (fl 2 _ (by omega) (by omega) (eq.trans (qa_nth_out e2)))
  · rw [e1]
    refine qp_iF qp_1 ?_
    unfold qw_X12_noteAt_35
    rw [qk_rv H]
    refine qe_X12_fails H (n := 0) (by omega) fun h1 H1 f1 => qp_iT rfl ?_
    rw [qk_rv H1]
    refine qe_X12_lastVersion H1 (v := v) (by omega) (hv ▸ hc.2.1.1) ?_
    rw [qk_rv H1]
    obtain ⟨_, nf, l2, l3⟩ := qk_last (R.2.2 i hi) hv
    have ha : (qa_txt L.1[i])[j] < 8 := by
      rw [l3 j hj]
      exact (l2 j (by omega)).1
    refine qe_X12_note H1 (v := 5 + 4 * v) (q := j) (a := (qa_txt L.1[i])[j]) (by omega) (by omega) (by omega) (by rw [← Nat.add_assoc (13 + 42 * i), l3 j hj]; exact (l2 j (by omega)).2) ?_
    rw [(qp_ch ha).1]
    refine ⟨(qp_ch ha).2, k h1 _ _ H1 f1 ?_⟩
    rw [eq, qa_nth_in hj (by omega)]
    exact qk_pq.mk rfl fun _ => rfl
/-- a text there was, or none -/
theorem qe_X12_isBlank (H : qk_at h m M) (R : qk_G (M.2 0) L) {c d : Int32} {Q : Int32 → ql_H → Prop} (k : ∀ h1, qk_at h1 m (qk_sI M 7 0) → qp_fr m (m + 10) h h1 → ∀ t, qa_fon L c d = some t → Q 0 h1) (k0 : ∀ h1, qk_at h1 m (qk_sI M 7 1) → qp_fr m (m + 10) h h1 → qa_fon L c d = none → Q 1 h1) : qw_X12_isBlank m c d h Q := by
  have n16 := R.1.1
  unfold qw_X12_isBlank qw_X12_isBlank_22 qw_X12_isBlank_27
  have none_ : qa_fon L c d = none → ql_rv h (some m) 13 fun b1 => qw_X12_fails b1 (1 : Int32) h (fun x1 h => ql_nz .boolean x1 ∧ Q x1 h) := fun e => by
    rw [qk_rv H]
    exact qe_X12_fails H (n := 1) (by omega) fun h1 H1 f1 => ⟨ql_nz1, k0 h1 H1 f1 e⟩
  rw [qk_rv H]
  refine qe_X12_placeOf H R (fun i hi e f => ?_) (fun e => qp_iT (by decide) (none_ (by unfold qa_fon; rw [e]; rfl)))
  refine qp_iF (nI_pos (by omega)) ?_
  rw [qk_rv H]
  refine qe_X12_placeOf H R (fun i2 hi2 e2 f2 => ?_) (fun e2 => by rw [f] at e2; cases e2)
  have v8 := (qk_cl R hi2).2.2.2.1.2.1
  rw [qk_rv H]
  have ef : qa_fon L c d = qa_on L.1[i2] d := by
    unfold qa_fon
    rw [f2]
    rfl
  refine qe_X12_versionOn H R hi2 (fun v hv e3 => qp_iT (nI_pos' (by omega)) ?_) (fun e3 => qp_iF (by decide) (none_ (by rw [ef, e3])))
  rw [qk_rv H]
  exact qe_X12_fails H (n := 0) (by omega) fun h1 H1 f1 => ⟨ql_nz0, k h1 H1 f1 _ (by rw [ef, e3])⟩
/-- where such a text lies -/
theorem qk_fon (R : qk_G (M.2 0) L) {c d : Int32} {t : List Nat} (e : qa_fon L c d = some t) {i : Nat} (hi : i < L.1.length) (f : qa_find L.1 c = some L.1[i]) : qa_on L.1[i] d = some t := by
  unfold qa_fon at e
  rw [f] at e
  exact e
theorem qe_X12_lengthOn (H : qk_at h m M) (R : qk_G (M.2 0) L) {c d : Int32} {Q : Int32 → ql_H → Prop} (k : ∀ h1 M1 x, qk_at h1 m M1 → qp_fr m (m + 10) h h1 → qk_pq M M1 (qq_lengthOn L c d) x → Q x h1) : qw_X12_lengthOn m c d h Q := by
  have n16 := R.1.1
  unfold qw_X12_lengthOn
  rw [qk_rv H]
  refine qe_X12_isBlank H R (fun h1 H1 f1 t e => ?_) (fun h1 H1 f1 e => qp_iF qp_1 ?_)
  · have hff : ∃ A, qa_find L.1 c = some A := by
      unfold qa_fon at e
      cases ef : qa_find L.1 c with
      | none => rw [ef] at e; cases e
      | some A => exact ⟨A, rfl⟩
    obtain ⟨A, hA⟩ := hff
    refine qp_iT rfl ?_
    rw [qk_rv H1]
    refine qe_X12_placeOf H1 (L := L) R (fun i hi e2 f2 => ?_) (fun e2 => by rw [hA] at e2; cases e2)
    rw [qk_rv H1]
    refine qe_X12_placeOf H1 (L := L) R (fun i3 hi3 e4 f4 => ?_) (fun e2 => by rw [hA] at e2; cases e2)
    rw [qk_rv H1]
    have v8 := (qk_cl R hi3).2.2.2.1.2.1
    refine qe_X12_versionOn H1 (L := L) R hi3 (fun v hv e3 => ?_) (fun e3 => by rw [qk_fon R e hi3 f4] at e3; cases e3)
    rw [qk_rv H1, nI_1]
    refine qe_X12_of H1 (by omega) (by omega) (k h1 _ _ H1 f1 ?_)
    unfold qq_lengthOn
    rw [qa_ans_s e]
    refine qk_pq.mk rfl fun _ => ?_
    -- the same clause
    have hlen : ∀ (j : Nat) (hj : j < L.1.length), qa_find L.1 c = some L.1[j] → ∀ w (hw : w < (qa_vs L.1[j]).length), qa_on L.1[j] d = some ((qa_vs L.1[j])[w]).2 → M.2 0 (13 + 42 * j + (5 + 4 * w + 1)) = nI t.length := fun j hj fj w hw ew => by
      have h2 := qk_fon R e hj fj
      rw [ew] at h2
      have h3 := Option.some.inj h2
      rw [← h3]
      exact ((qk_cl R hj).2.1.2 w hw).2.1
    have hii : L.1[i] = L.1[i3] := Option.some.inj (f2.symm.trans f4)
    have hv2 : v < (qa_vs L.1[i]).length := by rw [hii]; exact hv
    refine hlen i hi f2 v hv2 ?_
    have hx : ((qa_vs L.1[i])[v]'hv2).2 = ((qa_vs L.1[i3])[v]'hv).2 := by
      congr 2
      rw [hii]
    rw [hx, hii]
    exact e3
  · refine k h1 _ _ H1 f1 ?_
    unfold qq_lengthOn
    rw [qa_ans_n e]
    exact qk_pq.mk rfl fun z => by cases z
theorem qe_X12_noteOn (H : qk_at h m M) (R : qk_G (M.2 0) L) {c d p : Int32} {Q : Int32 → ql_H → Prop} (k : ∀ h1 M1 x, qk_at h1 m M1 → qp_fr m (m + 10) h h1 → qk_pq M M1 (qq_noteOn L c d p) x → Q x h1) : qw_X12_noteOn m c d p h Q := by
  have n16 := R.1.1
  unfold qw_X12_noteOn
  rw [qk_rv H]
  refine qe_X12_isBlank H R (fun h1 H1 f1 t e => ?_) (fun h1 H1 f1 e => qp_iF qp_1 ⟨rfl, ?_⟩)
  · have hff : ∃ A, qa_find L.1 c = some A := by
      unfold qa_fon at e
      cases ef : qa_find L.1 c with
      | none => rw [ef] at e; cases e
      | some A => exact ⟨A, rfl⟩
    obtain ⟨A, hA⟩ := hff
    have eq : qq_noteOn L c d p = qa_nth t p := by
      unfold qq_noteOn
      rw [e]
    refine qp_iT rfl ?_
    rw [qk_rv H1]
    refine qe_X12_placeOf H1 (L := L) R (fun i hi e2 f2 => ?_) (fun e2 => by rw [hA] at e2; cases e2)
    have hc := qk_cl R hi
    have v8 := hc.2.2.2.1.2.1
    rw [qk_rv H1]
    refine qe_X12_versionOn H1 (L := L) R hi (fun v hv e3 => ?_) (fun e3 => by rw [qk_fon R e hi f2] at e3; cases e3)
    have ht : ((qa_vs L.1[i])[v]).2 = t := Option.some.inj (e3.symm.trans (qk_fon R e hi f2))
    obtain ⟨htk, htn⟩ := hc.2.2.2.1.2.2 _ (List.getElem_mem hv)
    rw [ht] at htk htn
    have hl := htk.2
    have hl0 : 0 < t.length := List.length_pos_iff.mpr htn
    obtain ⟨b1, b2, b3⟩ := hc.2.1.2 v hv
    rw [qk_rv H1, nI_1]
    refine qe_X12_of H1 (by omega) (by omega) ?_
    rw [show (qk_sI M 7 0).2 0 (13 + 42 * i + (5 + 4 * v + 1)) = nI t.length from b2.trans (by rw [ht])]
    refine qe_X12_in ?_
    have fl : ∀ (e : Nat), 0 < e → e < 10 → qq_noteOn L c d p = (e, 0) → qw_X12_noteOn_54 m Q p (nI i) (nI (5 + 4 * v)) (some m) (nI e) h1 := by
      intro e h0 h10 eq
      unfold qw_X12_noteOn_54
      rw [qk_rv H1]
      refine qe_X12_fails H1 (by omega) fun h2 H2 f2 => ?_
      rw [decide_eq_true h0]
      refine qp_iF qp_1 ⟨rfl, k h2 _ _ H2 (f1.tr f2) ?_⟩
      rw [eq]
      refine ⟨qk_sI_s, fun j hj => (qk_sI_n hj).trans (qk_sI_n hj), fun _ _ => rfl, fun z => ?_⟩
      have : e = 0 := z
      omega
    rcases qk_pos hl0 (by omega) p with ⟨e1, e2⟩ | ⟨e1, j, hj, rfl⟩
    · rw [e1]
      exact qp_iT rfl (fl 2 (by omega) (by omega) (eq.trans (qa_nth_out e2)))
    · rw [e1]
      refine qp_iF qp_1 ?_
      unfold qw_X12_noteOn_54
      rw [qk_rv H1]
      refine qe_X12_fails H1 (n := 0) (by omega) fun h2 H2 f2' => qp_iT rfl ?_
      rw [qk_rv H2]
      have ha := htk.1 _ (List.getElem_mem hj)
      have b4 := b3 j (by rw [ht]; exact hj)
      have ht2 : ((qa_vs L.1[i])[v]).2[j]'(by rw [ht]; exact hj) = t[j] := by
        congr 1
      rw [ht2] at b4
      refine qe_X12_note H2 (v := 5 + 4 * v) (q := j) (a := t[j]) (by omega) (by omega) (by omega) b4 ?_
      rw [(qp_ch (by omega)).1]
      refine ⟨(qp_ch (by omega)).2, k h2 _ _ H2 (f1.tr f2') ?_⟩
      rw [eq, qa_nth_in hj (by omega)]
      exact ⟨qk_sI_s, fun j hj => (qk_sI_n hj).trans (qk_sI_n hj), fun _ _ => rfl, fun _ => rfl⟩
  · refine k h1 _ _ H1 f1 ?_
    unfold qq_noteOn
    rw [e]
    exact qk_pq.mk rfl fun z => by cases z
theorem qe_X12_citeAt (H : qk_at h m M) (R : qk_G (M.2 0) L) {c p : Int32} {Q : Int32 → ql_H → Prop} (k : ∀ h1 M1 x, qk_at h1 m M1 → qp_fr m (m + 10) h h1 → qk_pq M M1 (qq_citeAt L c p) x → Q x h1) : qw_X12_citeAt m c p h Q := by
  have n16 := R.1.1
  have fl : ∀ (e : Nat) (pl : Int32), 0 < e → e < 10 → qq_citeAt L c p = (e, 0) → qw_X12_citeAt_37 m Q p pl (some m) (nI e) h := by
    intro e pl h0 h10 eq
    unfold qw_X12_citeAt_37
    rw [qk_rv H]
    refine qe_X12_fails H (by omega) fun h1 H1 f1 => ?_
    rw [decide_eq_true h0]
    refine qp_iF qp_1 (k h1 _ _ H1 f1 ?_)
    rw [eq]
    exact qk_pq.mk rfl fun z => by
      have : e = 0 := z
      omega
  unfold qw_X12_citeAt
  rw [qk_rv H]
  refine qe_X12_placeOf H R (fun i hi e f => ?_) (fun e => qp_iF (by decide) (fl 1 _ (by omega) (by omega) (qa_bind_n e)))
  have hc := qk_cl R hi
  have h4 := hc.2.2.2.2.1
  have eq : qq_citeAt L c p = if p < 0 ∨ nI (qa_ci L.1[i]).length ≤ p then (2, 0) else (0, (qa_ci L.1[i]).getD p.toNatClampNeg 0) := qa_bind_s f
  refine qp_iT (nI_pos' (by omega)) ?_
  rw [qk_rv H]
  refine qe_X12_of H (w := 37) (by omega) (by omega) ?_
  rw [show M.2 0 (13 + 42 * i + 37) = nI (qa_ci L.1[i]).length from hc.2.2.1.1]
  refine qe_X12_in ?_
  by_cases z : p < 0 ∨ nI (qa_ci L.1[i]).length ≤ p
  · have e1 : (decide ((0 : Int32) ≤ p) && decide (p ≤ nI (qa_ci L.1[i]).length - 1)) = false := by
      rcases z with z | z
      · rw [decide_eq_false (Int32.not_le.mpr z), Bool.false_and]
      · by_cases h0 : (qa_ci L.1[i]).length = 0
        · rw [h0]
          by_cases z2 : (0 : Int32) ≤ p
          · have : ¬ p ≤ nI 0 - 1 := fun q => by
              have := Int32.le_trans z2 q
              revert this
              decide
            rw [decide_eq_false this, Bool.and_false]
          · rw [decide_eq_false z2, Bool.false_and]
        · have : ¬ p ≤ nI (qa_ci L.1[i]).length - 1 := fun q => absurd ((qp_len1 (by omega) (by omega) p).mp q) (Int32.not_lt.mpr z)
          rw [decide_eq_false this, Bool.and_false]
    rw [e1]
    exact qp_iT rfl (fl 2 _ (by omega) (by omega) (eq.trans (if_pos z)))
  · have z1 : ¬ p < 0 := fun q => z (Or.inl q)
    have z2 : p < nI (qa_ci L.1[i]).length := Int32.not_le.mp fun q => z (Or.inr q)
    obtain ⟨j, hj, rfl⟩ := nI_of z1
    have hjl : j < (qa_ci L.1[i]).length := (nI_ltI hj (by omega)).mp z2
    rw [decide_eq_true (Int32.not_lt.mp z1), decide_eq_true ((qp_len1 (by omega) (by omega) _).mpr z2)]
    refine qp_iF qp_1 ?_
    unfold qw_X12_citeAt_37
    rw [qk_rv H]
    refine qe_X12_fails H (n := 0) (by omega) fun h1 H1 f1 => qp_iT rfl ?_
    rw [qk_rv H1, show (38 : Int32) = nI 38 from rfl, nI_add]
    refine qe_X12_of H1 (by omega) (by omega) (k h1 _ _ H1 f1 ?_)
    rw [eq, if_neg z, nI_clamp hj, List.getD_eq_getElem?_getD, List.getElem?_eq_getElem hjl]
    exact qk_pq.mk rfl fun _ => hc.2.2.1.2 j hjl
end QKB
