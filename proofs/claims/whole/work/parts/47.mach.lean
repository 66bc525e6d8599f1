/-! The whole machine: the ledger; the ledgers kept, the eldest first; the one saved; what is typed; the last error; the last refusal; the output. -/
abbrev qa_S : Type := qa_L × List qa_L × Option qa_L × List Nat × Int32 × Int32 × List Nat
section QKS
variable {h h1 : ql_H} {m : Nat} {M M1 : qk_T} {L : qa_L} {S : qa_S}
def qk_arr (f : Nat → Int32) (l : List Nat) : Prop := ∀ j (hj : j < l.length), f j = nI l[j]
def qk_sv (M : qk_T) (o : Option qa_L) : Prop := match o with
  | none => M.1 4 = 0
  | some L => M.1 4 = 1 ∧ qk_G (M.2 2) L
def qk_all (M : qk_T) (S : qa_S) : Prop :=
  (qk_G (M.2 0) S.1 ∧ qk_P M S.2.1 ∧ qk_sv M S.2.2.1 ∧ M.1 6 = 0) ∧ (S.2.2.2.1.length ≤ 60 ∧ M.1 9 = nI S.2.2.2.1.length ∧ qk_arr (M.2 8) S.2.2.2.1) ∧ (M.1 10 = S.2.2.2.2.1 ∧ M.1 11 = S.2.2.2.2.2.1) ∧ S.2.2.2.2.2.2.length ≤ 40 ∧ M.1 13 = nI S.2.2.2.2.2.2.length ∧ qk_arr (M.2 12) S.2.2.2.2.2.2
theorem qk_sv.eq {o : Option qa_L} (s : qk_sv M o) (e1 : M1.1 4 = M.1 4) (e2 : M1.2 2 = M.2 2) : qk_sv M1 o := by
  cases o with
  | none => exact e1.trans s
  | some L =>
    refine ⟨e1.trans s.1, ?_⟩
    rw [e2]
    exact s.2
theorem qk_P.eq {P : List qa_L} (HP : qk_P M P) (e1 : M1.1 5 = M.1 5) (e2 : M1.2 1 = M.2 1) : qk_P M1 P := by
  refine ⟨HP.1, e1.trans HP.2.1, ?_⟩
  rw [e2]
  exact HP.2.2
/-- asked, and no more -/
theorem qk_all.pq (A : qk_all M S) {a : Nat × Int32} {x : Int32} (q : qk_pq M M1 a x) : qk_all M1 S := by
  obtain ⟨⟨a1, a2, a3, a4⟩, ⟨b1, b2, b3⟩, ⟨c1, c2⟩, d1, d2, d3⟩ := A
  obtain ⟨_, e1, e2, _⟩ := q
  refine ⟨⟨by rw [e2 0 (by decide)]; exact a1, a2.eq (e1 5 (by decide)) (e2 1 (by decide)), a3.eq (e1 4 (by decide)) (e2 2 (by decide)), (e1 6 (by decide)).trans a4⟩, ⟨b1, (e1 9 (by decide)).trans b2, by rw [e2 8 (by decide)]; exact b3⟩, ⟨(e1 10 (by decide)).trans c1, (e1 11 (by decide)).trans c2⟩, d1, (e1 13 (by decide)).trans d2, by rw [e2 12 (by decide)]; exact d3⟩
/-- changed, or refused -/
def qa_did (S : qa_S) (r : Int32 × qa_L) : qa_S := (r.2, (if r.1 < 0 then S.2.1 else qa_push S.2.1 S.1), S.2.2)
theorem qk_all.po (A : qk_all M S) {r : Int32 × qa_L} {f : Int32 → Nat} {x : Int32} (q : qk_po M M1 S.2.1 S.1 r f x) : qk_all M1 (qa_did S r) := by
  obtain ⟨⟨a1, a2, a3, a4⟩, ⟨b1, b2, b3⟩, ⟨c1, c2⟩, d1, d2, d3⟩ := A
  obtain ⟨q1, q2, _, ⟨e1, e2⟩, _⟩ := q
  refine ⟨⟨q1, ?_, a3.eq (e1 4 (by decide) (by decide)) (e2 2 (by decide)), (e1 6 (by decide) (by decide)).trans a4⟩, ⟨b1, (e1 9 (by decide) (by decide)).trans b2, ?_⟩, ⟨(e1 10 (by decide) (by decide)).trans c1, (e1 11 (by decide) (by decide)).trans c2⟩, d1, (e1 13 (by decide) (by decide)).trans d2, ?_⟩
  · show qk_P M1 (if r.1 < 0 then S.2.1 else qa_push S.2.1 S.1)
    unfold qa_kp at q2
    rw [if_pos a4] at q2
    exact q2
  · rw [e2 8 (by decide)]
    exact b3
  · rw [e2 12 (by decide)]
    exact d3
/-! steps back, saved, restored -/
def qm_undo (S : qa_S) : Nat × Int32 × qa_S := match S.2.1.getLast? with
  | none => (1, 0, S)
  | some L => (0, nI (S.2.1.length - 1), L, S.2.1.dropLast, S.2.2)
def qm_save (S : qa_S) : qa_S := (S.1, S.2.1, some S.1, S.2.2.2)
def qm_restore (S : qa_S) : Nat × Int32 × qa_S := match S.2.2.1 with
  | none => (1, 0, S)
  | some L => (0, nI L.1.length, L, [], S.2.2)
/-- code, answer, what is left -/
def qk_pm (M1 : qk_T) (r : Nat × Int32 × qa_S) (x : Int32) : Prop := M1.1 7 = nI r.1 ∧ (r.1 = 0 → x = r.2.1) ∧ qk_all M1 r.2.2
theorem qk_all.code (A : qk_all M S) (x : Int32) : qk_all (qk_sI M 7 x) S := A
theorem qe_X12_undo (H : qk_at h m M) (A : qk_all M S) {Q : Int32 → ql_H → Prop} (k : ∀ h1 M1 x, qk_at h1 m M1 → qp_fr m (m + 10) h h1 → qk_pm M1 (qm_undo S) x → Q x h1) : qw_X12_undo m h Q := by
  obtain ⟨⟨a1, a2, a3, a4⟩, b, c, d⟩ := id A
  have a2l := a2.1
  unfold qw_X12_undo
  rw [qk_f H 5, a2.2.1]
  by_cases e : S.2.1.length = 0
  · refine qp_iT (by rw [e]; rfl) ?_
    unfold qw_X12_undo_13
    rw [qk_rv H]
    refine qe_X12_fails H (n := 1) (by omega) fun h1 H1 f1 => qp_iF qp_1 (k h1 _ _ H1 f1 ?_)
    have eq : qm_undo S = (1, 0, S) := by
      unfold qm_undo
      rw [List.length_eq_zero_iff.mp e]
      rfl
    rw [eq]
    exact ⟨qk_sI_s, fun z => (by cases z), A.code _⟩
  · refine qp_iF (nI_ne0 (by omega) (by omega)) ?_
    obtain ⟨n, hn⟩ : ∃ n, S.2.1.length = n + 1 := ⟨S.2.1.length - 1, by omega⟩
    have eq : qm_undo S = (0, nI n, S.2.1[n]'(by omega), S.2.1.dropLast, S.2.2) := by
      unfold qm_undo
      rw [List.getLast?_eq_getElem?, show S.2.1.length - 1 = n by omega, List.getElem?_eq_getElem (by omega)]
    rw [eq] at k
    unfold qw_X12_undo_13
    rw [qk_rv H]
    refine qe_X12_fails H (n := 0) (by omega) fun h1 H1 f1 => qp_iT rfl ?_
    rw [qk_f H1 5, show (qk_sI M 7 (nI 0)).1 5 = nI (n + 1) from a2.2.1.trans (by rw [hn]), nI_pred]
    refine qk_p H1 5 fun h2 H2 f2 => ?_
    rw [qk_rk H2, qk_f H2 5, show (qk_sI (qk_sI M 7 (nI 0)) 5 (nI n)).1 5 = nI n from rfl, qk_rg H2, show (685 : Int32) = nI 685 from rfl, pk_mul]
    refine qe_X12_copies H2 (k1 := 1) (k2 := 0) (o1 := 685 * n) (o2 := 0) (by decide) (by show 685 * n + 685 ≤ 5480; omega) (by decide) (k := fun h3 M3 H3 f3 c1 c2 c3 => ?_)
    rw [qk_f H3 5, c1, show (qk_sI (qk_sI M 7 (nI 0)) 5 (nI n)).1 5 = nI n from rfl]
    refine k h3 M3 _ H3 (f1.tr (f2.tr f3)) ⟨by rw [c1]; rfl, fun _ => rfl, ⟨?_, ?_, ?_, by rw [c1]; exact a4⟩, ?_, by rw [c1]; exact c, d.1, by rw [c1]; exact d.2.1, ?_⟩
    · refine (a2.2.2 n (by omega)).eq fun i hi => ?_
      rw [c3, if_pos ⟨Nat.zero_le _, by omega⟩]
      rfl
    · refine ⟨by show S.2.1.dropLast.length ≤ 8; rw [List.length_dropLast]; omega, ?_, fun j hj => ?_⟩
      · rw [c1]
        show nI n = nI S.2.1.dropLast.length
        rw [List.length_dropLast, hn]
        rfl
      · have hj2 : j < S.2.1.dropLast.length := hj
        have hj3 : j < n := by
          rw [List.length_dropLast] at hj2
          omega
        rw [c2 1 (by decide)]
        show qk_G (fun w => M.2 1 (685 * j + w)) (S.2.1.dropLast[j]'hj2)
        rw [List.getElem_dropLast]
        exact a2.2.2 j (by omega)
    · exact a3.eq (by rw [c1]; rfl) (c2 2 (by decide))
    · exact ⟨b.1, by rw [c1]; exact b.2.1, by rw [c2 8 (by decide)]; exact b.2.2⟩
    · rw [c2 12 (by decide)]
      exact d.2.2
theorem qe_X12_save (H : qk_at h m M) (A : qk_all M S) {Q : Int32 → ql_H → Prop} (k : ∀ h1 M1, qk_at h1 m M1 → qp_fr m (m + 10) h h1 → qk_all M1 (qm_save S) → Q (nI S.1.1.length) h1) : qw_X12_save m h Q := by
  obtain ⟨⟨a1, a2, a3, a4⟩, b, c, d⟩ := id A
  unfold qw_X12_save
  refine qk_p H 7 fun h1 H1 f1 => ?_
  refine qk_p H1 4 fun h2 H2 f2 => ?_
  rw [qk_rg H2, qk_rs H2]
  refine qe_X12_copies H2 (k1 := 0) (k2 := 2) (o1 := 0) (o2 := 0) (by decide) (by decide) (by decide) (k := fun h3 M3 H3 f3 c1 c2 c3 => ?_)
  rw [qk_rg H3, qk_lgx H3 0 0, c2 0 (by decide), show (qk_sI (qk_sI M 7 0) 4 1).2 0 0 = nI S.1.1.length from a1.1.2.1]
  refine k h3 M3 H3 (f1.tr (f2.tr f3)) ⟨⟨by rw [c2 0 (by decide)]; exact a1, a2.eq (by rw [c1]; rfl) (c2 1 (by decide)), ⟨by rw [c1]; rfl, a1.eq fun i hi => ?_⟩, by rw [c1]; exact a4⟩, ⟨b.1, by rw [c1]; exact b.2.1, by rw [c2 8 (by decide)]; exact b.2.2⟩, by rw [c1]; exact c, d.1, by rw [c1]; exact d.2.1, by rw [c2 12 (by decide)]; exact d.2.2⟩
  rw [c3, if_pos ⟨Nat.zero_le _, by omega⟩, Nat.zero_add, Nat.sub_zero]
  rfl
theorem qe_X12_restore (H : qk_at h m M) (A : qk_all M S) {Q : Int32 → ql_H → Prop} (k : ∀ h1 M1 x, qk_at h1 m M1 → qp_fr m (m + 10) h h1 → qk_pm M1 (qm_restore S) x → Q x h1) : qw_X12_restore m h Q := by
  obtain ⟨⟨a1, a2, a3, a4⟩, b, c, d⟩ := id A
  unfold qw_X12_restore
  rw [qk_f H 4]
  cases eo : S.2.2.1 with
  | none =>
    rw [eo] at a3
    refine qp_iT a3 ?_
    unfold qw_X12_restore_13
    rw [qk_rv H]
    refine qe_X12_fails H (n := 1) (by omega) fun h1 H1 f1 => qp_iF qp_1 (k h1 _ _ H1 f1 ?_)
    have eq : qm_restore S = (1, 0, S) := by
      unfold qm_restore
      rw [eo]
    rw [eq]
    exact ⟨qk_sI_s, fun z => (by cases z), A.code _⟩
  | some L =>
    rw [eo] at a3
    have eq : qm_restore S = (0, nI L.1.length, L, [], S.2.2) := by
      unfold qm_restore
      rw [eo]
    rw [eq] at k
    refine qp_iF (by rw [a3.1]; exact qp_1) ?_
    unfold qw_X12_restore_13
    rw [qk_rv H]
    refine qe_X12_fails H (n := 0) (by omega) fun h1 H1 f1 => qp_iT rfl ?_
    rw [qk_rs H1, qk_rg H1]
    refine qe_X12_copies H1 (k1 := 2) (k2 := 0) (o1 := 0) (o2 := 0) (by decide) (by decide) (by decide) (k := fun h3 M3 H3 f3 c1 c2 c3 => ?_)
    refine qk_p H3 5 fun h4 H4 f4 => ?_
    have hL : qk_G (M3.2 0) L := a3.2.eq fun i hi => by
      rw [c3, if_pos ⟨Nat.zero_le _, by omega⟩, Nat.zero_add, Nat.sub_zero]
      rfl
    rw [qk_rg H4, qk_lgx H4 0 0, show (qk_sI M3 5 0).2 0 0 = nI L.1.length from hL.1.2.1]
    refine k h4 _ _ H4 (f1.tr (f3.tr f4)) ⟨?_, fun _ => rfl, ⟨hL, ⟨Nat.zero_le _, qk_sI_s, fun j hj => absurd hj (Nat.not_lt_zero j)⟩, ?_, ?_⟩, ⟨b.1, ?_, by show qk_arr (M3.2 8) _; rw [c2 8 (by decide)]; exact b.2.2⟩, ⟨?_, ?_⟩, d.1, ?_, by show qk_arr (M3.2 12) _; rw [c2 12 (by decide)]; exact d.2.2⟩
    · rw [qk_sI_n (by decide), c1]
      rfl
    · show qk_sv _ S.2.2.1
      rw [eo]
      refine qk_sv.eq (M := M) a3 ?_ (c2 2 (by decide))
      rw [qk_sI_n (by decide), c1]
      rfl
    · rw [qk_sI_n (by decide), c1]
      exact a4
    · rw [qk_sI_n (by decide), c1]
      exact b.2.1
    · rw [qk_sI_n (by decide), c1]
      exact c.1
    · rw [qk_sI_n (by decide), c1]
      exact c.2
    · rw [qk_sI_n (by decide), c1]
      exact d.2.1
def qm_type (S : qa_S) (c : Nat) : Nat × Int32 × qa_S :=
  if c < 32 ∨ 126 < c then (1, 0, S) else if S.2.2.2.1.length = 60 then (2, 0, S) else (0, nI (S.2.2.2.1.length + 1), S.1, S.2.1, S.2.2.1, S.2.2.2.1 ++ [c], S.2.2.2.2)
theorem qk_arr.app {f : Nat → Int32} {l : List Nat} (h : qk_arr f l) (c : Nat) : qk_arr (upd f l.length (nI c)) (l ++ [c]) := fun j hj => by
  by_cases e : j = l.length
  · subst e
    rw [pk_us, qt_g1 (l := l ++ [c]) rfl hj rfl]
  · have hj2 : j < l.length := by
      rw [List.length_append] at hj
      have : j < l.length + 1 := hj
      omega
    rw [pk_un e, qt_gl (l := l ++ [c]) rfl hj hj2]
    exact h j hj2
theorem qe_X12_type (H : qk_at h m M) (A : qk_all M S) {c : Nat} (hc : c < 65536) {Q : Int32 → ql_H → Prop} (k : ∀ h1 M1 x, qk_at h1 m M1 → qp_fr m (m + 10) h h1 → qk_pm M1 (qm_type S c) x → Q x h1) : qw_X12_type m (nI c) h Q := by
  obtain ⟨⟨a1, a2, a3, a4⟩, b, cc, d⟩ := id A
  have no : ∀ e, 0 < e → e < 10 → qm_type S c = (e, 0, S) → qw_X12_type_30 m Q (nI c) (some m) (nI e) h := fun e e0 e10 eq => by
    unfold qw_X12_type_30
    rw [qk_rv H]
    refine qe_X12_fails H (by omega) fun h1 H1 f1 => ?_
    rw [decide_eq_true e0]
    refine qp_iF qp_1 (k h1 _ _ H1 f1 ?_)
    rw [eq]
    exact ⟨qk_sI_s, fun z => by have : e = 0 := z; omega, A.code _⟩
  unfold qw_X12_type
  refine qe_X12_in ?_
  have e1 : (decide ((32 : Int32) ≤ nI c) && decide (nI c ≤ (126 : Int32))) = decide (32 ≤ c ∧ c ≤ 126) := by
    rw [show (32 : Int32) = nI 32 from rfl, show (126 : Int32) = nI 126 from rfl, decide_eq_decide.mpr (nI_leI (a := 32) (b := c) (by omega) (by omega)), decide_eq_decide.mpr (nI_leI (a := c) (b := 126) (by omega) (by omega)), Bool.decide_and]
  rw [e1]
  by_cases z : 32 ≤ c ∧ c ≤ 126
  · rw [decide_eq_true z]
    refine qp_iF qp_1 ?_
    rw [qk_f H 9, b.2.1]
    by_cases z2 : S.2.2.2.1.length = 60
    · exact qp_iT (by rw [z2]; rfl) (no 2 (by omega) (by omega) (by unfold qm_type; rw [if_neg (by omega), if_pos z2]))
    · have hb := b.1
      refine qp_iF (fun q => z2 ((nI_eq (b := 60) (by omega) (by omega)).mp q)) ?_
      have eq : qm_type S c = (0, nI (S.2.2.2.1.length + 1), S.1, S.2.1, S.2.2.1, S.2.2.2.1 ++ [c], S.2.2.2.2) := by
        unfold qm_type
        rw [if_neg (by omega), if_neg z2]
      rw [eq] at k
      unfold qw_X12_type_30
      rw [qk_rv H]
      refine qe_X12_fails H (n := 0) (by omega) fun h1 H1 f1 => qp_iT rfl ?_
      rw [qk_ri H1, qk_f H1 9, show (qk_sI M 7 (nI 0)).1 9 = nI S.2.2.2.1.length from b.2.1]
      refine qk_si H1 (by omega) fun h2 H2 f2 => ?_
      rw [qk_f H2 9, show (qk_sA (qk_sI M 7 (nI 0)) 8 S.2.2.2.1.length (nI c)).1 9 = nI S.2.2.2.1.length from b.2.1, nI_1]
      refine qk_p H2 9 fun h3 H3 f3 => ?_
      rw [qk_f H3 9]
      refine k h3 _ _ H3 (f1.tr (f2.tr f3)) ⟨rfl, fun _ => qk_sI_s, ⟨a1, a2, a3, a4⟩, ⟨?_, ?_, ?_⟩, cc, d⟩
      · show (S.2.2.2.1 ++ [c]).length ≤ 60
        rw [List.length_append]
        have : S.2.2.2.1.length + 1 ≤ 60 := by omega
        exact this
      · rw [qk_sI_s]
        show nI (S.2.2.2.1.length + 1) = nI (S.2.2.2.1 ++ [c]).length
        rw [List.length_append]
        rfl
      · show qk_arr ((qk_sA (qk_sI M 7 (nI 0)) 8 S.2.2.2.1.length (nI c)).2 8) (S.2.2.2.1 ++ [c])
        rw [qk_sAs]
        exact b.2.2.app c
  · rw [decide_eq_false z]
    exact qp_iT rfl (no 1 (by omega) (by omega) (if_pos (by omega)))
def qm_outAt (S : qa_S) (p : Int32) : Nat × Int32 := if p < 0 ∨ nI S.2.2.2.2.2.2.length ≤ p then (1, 0) else (0, nI (S.2.2.2.2.2.2.getD p.toNatClampNeg 0))
theorem qe_X12_outputAt (H : qk_at h m M) (A : qk_all M S) (hc : ∀ c ∈ S.2.2.2.2.2.2, c < 65536) {p : Int32} {Q : Int32 → ql_H → Prop} (k : ∀ h1 M1 x, qk_at h1 m M1 → qp_fr m (m + 10) h h1 → qk_pq M M1 (qm_outAt S p) x → Q x h1) : qw_X12_outputAt m p h Q := by
  obtain ⟨⟨a1, a2, a3, a4⟩, b, cc, d⟩ := id A
  have hd := d.1
  unfold qw_X12_outputAt
  rw [qk_f H 13, d.2.1]
  refine qe_X12_in ?_
  by_cases z : p < 0 ∨ nI S.2.2.2.2.2.2.length ≤ p
  · have e1 : (decide ((0 : Int32) ≤ p) && decide (p ≤ nI S.2.2.2.2.2.2.length - 1)) = false := by
      rcases z with z | z
      · rw [decide_eq_false (Int32.not_le.mpr z), Bool.false_and]
      · by_cases h0 : S.2.2.2.2.2.2.length = 0
        · rw [h0]
          by_cases z2 : (0 : Int32) ≤ p
          · have : ¬ p ≤ nI 0 - 1 := fun q => by
              have := Int32.le_trans z2 q
              revert this
              decide
            rw [decide_eq_false this, Bool.and_false]
          · rw [decide_eq_false z2, Bool.false_and]
        · have : ¬ p ≤ nI S.2.2.2.2.2.2.length - 1 := fun q => absurd ((qp_len1 (by omega) (by omega) p).mp q) (Int32.not_lt.mpr z)
          rw [decide_eq_false this, Bool.and_false]
    rw [e1]
    refine qp_iT rfl ?_
    unfold qw_X12_outputAt_20
    rw [qk_rv H]
    refine qe_X12_fails H (n := 1) (by omega) fun h1 H1 f1 => qp_iF qp_1 ⟨rfl, k h1 _ _ H1 f1 ?_⟩
    unfold qm_outAt
    rw [if_pos z]
    exact qk_pq.mk rfl fun q => by cases q
  · have z1 : ¬ p < 0 := fun q => z (Or.inl q)
    have z2 : p < nI S.2.2.2.2.2.2.length := Int32.not_le.mp fun q => z (Or.inr q)
    obtain ⟨j, hj, rfl⟩ := nI_of z1
    have hjl : j < S.2.2.2.2.2.2.length := (nI_ltI hj (by omega)).mp z2
    rw [decide_eq_true (Int32.not_lt.mp z1), decide_eq_true ((qp_len1 (by omega) (by omega) _).mpr z2)]
    refine qp_iF qp_1 ?_
    unfold qw_X12_outputAt_20
    rw [qk_rv H]
    refine qe_X12_fails H (n := 0) (by omega) fun h1 H1 f1 => qp_iT rfl ?_
    rw [qk_rc H1, qk_lc H1 (by omega), show (qk_sI M 7 (nI 0)).2 12 j = nI S.2.2.2.2.2.2[j] from d.2.2 j hjl]
    refine ⟨(pk_charN (hc _ (List.getElem_mem hjl))).1, k h1 _ _ H1 f1 ?_⟩
    unfold qm_outAt
    rw [if_neg z, nI_clamp hj, List.getD_eq_getElem?_getD, List.getElem?_eq_getElem hjl]
    exact qk_pq.mk rfl fun _ => rfl
def qm_err (x : Int32) : Nat × Int32 := if x < 0 then (1, 0) else (0, x)
theorem qe_X12_errorPosition (H : qk_at h m M) (A : qk_all M S) {Q : Int32 → ql_H → Prop} (k : ∀ h1 M1 x, qk_at h1 m M1 → qp_fr m (m + 10) h h1 → qk_pq M M1 (qm_err S.2.2.2.2.1) x → Q x h1) : qw_X12_errorPosition m h Q := by
  obtain ⟨_, _, ⟨c1, c2⟩, _⟩ := id A
  unfold qw_X12_errorPosition qw_X12_errorPosition_13 qm_err at *
  rw [qk_f H 10, c1]
  refine qp_if (fun z => ?_) fun z => ?_
  · rw [qk_rv H]
    refine qe_X12_fails H (n := 0) (by omega) fun h1 H1 f1 => qp_iT rfl ?_
    rw [qk_f H1 10]
    refine k h1 _ _ H1 f1 ?_
    rw [if_neg (Int32.not_lt.mpr z)]
    exact qk_pq.mk rfl fun _ => c1
  · rw [qk_rv H]
    refine qe_X12_fails H (n := 1) (by omega) fun h1 H1 f1 => qp_iF qp_1 (k h1 _ _ H1 f1 ?_)
    rw [if_pos (Int32.not_le.mp z)]
    exact qk_pq.mk rfl fun q => by cases q
theorem qe_X12_failedCommand (H : qk_at h m M) (A : qk_all M S) {Q : Int32 → ql_H → Prop} (k : ∀ h1 M1 x, qk_at h1 m M1 → qp_fr m (m + 10) h h1 → qk_pq M M1 (qm_err S.2.2.2.2.2.1) x → Q x h1) : qw_X12_failedCommand m h Q := by
  obtain ⟨_, _, ⟨c1, c2⟩, _⟩ := id A
  unfold qw_X12_failedCommand qw_X12_failedCommand_13 qm_err at *
  rw [qk_f H 11, c2]
  refine qp_if (fun z => ?_) fun z => ?_
  · rw [qk_rv H]
    refine qe_X12_fails H (n := 0) (by omega) fun h1 H1 f1 => qp_iT rfl ?_
    rw [qk_f H1 11]
    refine k h1 _ _ H1 f1 ?_
    rw [if_neg (Int32.not_lt.mpr z)]
    exact qk_pq.mk rfl fun _ => c2
  · rw [qk_rv H]
    refine qe_X12_fails H (n := 1) (by omega) fun h1 H1 f1 => qp_iF qp_1 (k h1 _ _ H1 f1 ?_)
    rw [if_pos (Int32.not_le.mp z)]
    exact qk_pq.mk rfl fun q => by cases q
end QKS
