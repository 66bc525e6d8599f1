/-! The reference: ranks by cites, totals, editions, means, soundness. -/
section QKE
set_option maxRecDepth 100000 in
theorem qf_mean : ∀ c, c < 17 → 0 < c → ∀ s, s < 193 → (FP.ddiv (FP.i2d (nI s)) (FP.i2d (nI c)) &&& 0x7fffffffffffffff ≤ 0x7ff0000000000000) ∧ Op.cmpValue (FP.dcmp (FP.ddiv (FP.i2d (nI s)) (FP.i2d (nI c))) (FP.ddiv (FP.i2d (nI s)) (FP.i2d (nI c)))) .l = 0 := by decide +kernel
set_option maxRecDepth 100000 in
theorem qf_share : ∀ c, c < 17 → 0 < c → ∀ s, s < 17 → (FP.fdiv (FP.i2f (nI s)) (FP.i2f (nI c)) &&& 0x7fffffff ≤ 0x7f800000) ∧ (FP.f2d (FP.fdiv (FP.i2f (nI s)) (FP.i2f (nI c))) &&& 0x7fffffffffffffff ≤ 0x7ff0000000000000) ∧ Op.cmpValue (FP.dcmp (FP.f2d (FP.fdiv (FP.i2f (nI s)) (FP.i2f (nI c)))) (FP.f2d (FP.fdiv (FP.i2f (nI s)) (FP.i2f (nI c))))) .l = 0 := by decide +kernel
variable {h h1 : ql_H} {m : Nat} {M : qk_T} {L : qa_L}
theorem qe_X12_citing (H : qk_at h m M) (R : qk_G (M.2 0) L) {i : Nat} (hi : i < L.1.length) {Q : Int32 → ql_H → Prop} (k : Q (nI (qa_citing L.1 L.1[i])) h) : qw_X12_citing m (nI i) h Q := by
  have n16 := R.1.1
  have hL : ∀ c j fu, j + c = L.1.length → c < fu → qw_X12_citing_4 m Q fu (nI i) (nI ((L.1.take j).countP fun D => decide (qa_id L.1[i] ∈ qa_ci D))) (nI j) h := by
    intro c
    induction c with
    | zero =>
      intro j fu hj hfu
      obtain ⟨fu, rfl⟩ : ∃ z, fu = z + 1 := ⟨fu - 1, by omega⟩
      unfold qw_X12_citing_4
      rw [qk_rg H, qk_lgx H 0 0, qk_len R]
      refine qp_iT (nI_le (by omega) (by omega)) ?_
      rw [List.take_of_length_le (by omega)]
      exact k
    | succ c ih =>
      intro j fu hj hfu
      obtain ⟨fu, rfl⟩ : ∃ z, fu = z + 1 := ⟨fu - 1, by omega⟩
      unfold qw_X12_citing_4 qw_X12_citing_34
      rw [qk_rg H, qk_lgx H 0 0, qk_len R]
      refine qp_iF (nI_ge (by omega) (by omega)) ?_
      have hj2 : j < L.1.length := by omega
      have h4 := (qk_cl R hj2).2.2.2.2.1
      rw [qk_rv H]
      refine qe_X12_of H (w := 0) (by omega) (by omega) ?_
      rw [show M.2 0 (13 + 42 * i + 0) = qa_id L.1[i] from (qk_cl R hi).1.1, qk_rv H, nI_1]
      have hn := ih (j + 1) fu (by omega) (by omega)
      rw [qa_cnt_take hj2] at hn
      refine qe_X12_cited H R hj2 (fun q hq e _ => ?_) (fun e => ?_)
      · refine qp_iF (nI_pos (by omega)) ?_
        rw [if_pos (decide_eq_true (e ▸ List.getElem_mem hq))] at hn
        rw [nI_1]
        exact hn
      · refine qp_iT (by decide) ?_
        rw [if_neg (by rw [decide_eq_false e]; decide), Nat.add_zero] at hn
        rw [Int32.add_zero]
        exact hn
  exact hL L.1.length 0 ql_FU (by omega) (by unfold ql_FU; omega)
theorem qe_X12_clauseByCites (H : qk_at h m M) (R : qk_G (M.2 0) L) {r : Int32} {Q : Int32 → ql_H → Prop} (k : ∀ h1 M1 x, qk_at h1 m M1 → qp_fr m (m + 10) h h1 → qk_pq M M1 (qq_byCites L r) x → Q x h1) : qw_X12_clauseByCites m r h Q := by
  have n16 := R.1.1
  have cit : ∀ C, qa_citing L.1 C ≤ 16 := fun C => Nat.le_trans List.countP_le_length n16
  have hL : ∀ c i fu, (hc : i + c = L.1.length) → c < fu → (∀ j (hj : j < i), (nI (qa_ahead L.1 (L.1[j]'(by omega))) == r) = false) → qw_X12_clauseByCites_2 m Q fu r (nI i) h := by
    intro c
    induction c with
    | zero =>
      intro i fu hi hfu hj
      obtain ⟨fu, rfl⟩ : ∃ z, fu = z + 1 := ⟨fu - 1, by omega⟩
      unfold qw_X12_clauseByCites_2
      rw [qk_rg H, qk_lgx H 0 0, qk_len R]
      refine qp_iT (nI_le (by omega) (by omega)) ?_
      refine qk_p H 7 fun h1 H1 f1 => k h1 _ _ H1 f1 ?_
      unfold qq_byCites qa_byCites
      rw [qa_ans_n (qa_find_no fun j hj2 => hj j (by omega))]
      exact qk_pq.mk (n := 1) rfl fun z => by cases z
    | succ c ih =>
      intro i fu hi hfu hj
      obtain ⟨fu, rfl⟩ : ∃ z, fu = z + 1 := ⟨fu - 1, by omega⟩
      have hi2 : i < L.1.length := by omega
      unfold qw_X12_clauseByCites_2
      rw [qk_rg H, qk_lgx H 0 0, qk_len R]
      refine qp_iF (nI_ge (by omega) (by omega)) ?_
      have h17 : ∀ c o fu2, o + c = L.1.length → c < fu2 → qw_X12_clauseByCites_17 m Q (qw_X12_clauseByCites_2 m Q fu) fu2 r (nI i) (nI ((L.1.take o).countP fun D => decide (qa_citing L.1 L.1[i] < qa_citing L.1 D) || (qa_citing L.1 D == qa_citing L.1 L.1[i] && decide (qa_sec D < qa_sec L.1[i])))) (nI o) h := by
        intro c
        induction c with
        | zero =>
          intro o fu2 ho hfu2
          obtain ⟨fu2, rfl⟩ : ∃ z, fu2 = z + 1 := ⟨fu2 - 1, by omega⟩
          unfold qw_X12_clauseByCites_17
          rw [qk_rg H, qk_lgx H 0 0, qk_len R]
          refine qp_iT (nI_le (by omega) (by omega)) ?_
          rw [List.take_of_length_le (by omega)]
          refine qp_if (fun z => ?_) fun z => ?_
          · refine qk_p H 7 fun h1 H1 f1 => ?_
            rw [qk_rv H1]
            refine qe_X12_of H1 (w := 0) (by omega) (by omega) (k h1 _ _ H1 f1 ?_)
            unfold qq_byCites qa_byCites
            rw [qa_ans_s (qa_find_first L.1 (fun C => nI (qa_ahead L.1 C) == r) i hi2 (by unfold qa_ahead; rw [z]; exact beq_self_eq_true r) hj)]
            exact qk_pq.mk (n := 0) rfl fun _ => (qk_cl R hi2).1.1
          · rw [nI_1]
            refine ih (i + 1) fu (by omega) (by omega) fun j hj2 => ?_
            by_cases e2 : j = i
            · subst e2
              rw [beq_eq_false_iff_ne]
              exact z
            · exact hj j (by omega)
        | succ c ih2 =>
          intro o fu2 ho hfu2
          obtain ⟨fu2, rfl⟩ : ∃ z, fu2 = z + 1 := ⟨fu2 - 1, by omega⟩
          have ho2 : o < L.1.length := by omega
          unfold qw_X12_clauseByCites_17 qw_X12_clauseByCites_73 qw_X12_clauseByCites_77 qw_X12_clauseByCites_78
          rw [qk_rg H, qk_lgx H 0 0, qk_len R]
          refine qp_iF (nI_ge (by omega) (by omega)) ?_
          have hn := ih2 (o + 1) fu2 (by omega) (by omega)
          rw [qa_cnt_take ho2] at hn
          have c1 := cit L.1[o]
          have c2 := cit L.1[i]
          rw [qk_rv H]
          refine qe_X12_citing H R ho2 ?_
          rw [qk_rv H]
          refine qe_X12_citing H R hi2 ?_
          rw [nI_1 o]
          refine qp_if (fun z => ?_) fun z => ?_
          · have z2 := (nI_ltI (by omega) (by omega)).mp z
            rw [if_pos (by rw [decide_eq_true z2]; rfl)] at hn
            rw [nI_1]
            exact hn
          · have z2 : ¬ qa_citing L.1 L.1[i] < qa_citing L.1 L.1[o] := fun q => z ((nI_ltI (by omega) (by omega)).mpr q)
            rw [decide_eq_false z2, Bool.false_or] at hn
            rw [qk_rv H]
            refine qe_X12_citing H R ho2 ?_
            rw [qk_rv H]
            refine qe_X12_citing H R hi2 ?_
            by_cases z3 : qa_citing L.1 L.1[o] = qa_citing L.1 L.1[i]
            · refine qp_iT (by rw [z3]) ?_
              rw [show (qa_citing L.1 L.1[o] == qa_citing L.1 L.1[i]) = true from beq_iff_eq.mpr z3, Bool.true_and] at hn
              rw [qk_rv H]
              refine qe_X12_of H (w := 1) (by omega) (by omega) ?_
              rw [show M.2 0 (13 + 42 * o + 1) = qa_sec L.1[o] from (qk_cl R ho2).1.2.1, qk_rv H]
              refine qe_X12_of H (w := 1) (by omega) (by omega) ?_
              rw [show M.2 0 (13 + 42 * i + 1) = qa_sec L.1[i] from (qk_cl R hi2).1.2.1]
              refine qp_if (fun z4 => ?_) fun z4 => ?_
              · rw [if_neg (by rw [decide_eq_false (Int32.not_lt.mpr z4)]; decide), Nat.add_zero] at hn
                rw [Int32.add_zero]
                exact hn
              · rw [if_pos (decide_eq_true (Int32.not_le.mp z4))] at hn
                rw [nI_1]
                exact hn
            · refine qp_iF (fun q => z3 ((nI_eq (by omega) (by omega)).mp q)) ?_
              rw [show (qa_citing L.1 L.1[o] == qa_citing L.1 L.1[i]) = false from beq_eq_false_iff_ne.mpr z3, Bool.false_and, if_neg (by decide), Nat.add_zero] at hn
              rw [Int32.add_zero]
              exact hn
      exact h17 L.1.length 0 ql_FU (by omega) (by unfold ql_FU; omega)
  exact hL L.1.length 0 ql_FU (by omega) (by unfold ql_FU; omega) fun j hj => absurd hj (Nat.not_lt_zero j)
/-- numbers told as they stand -/
theorem qk_num (H : qk_at h m M) {j : Nat} {v : Int32} (hv : M.2 0 j = v) (hj : j < 685) {x : Int32} (hx : x = nI j) {Q : Int32 → ql_H → Prop} (k : ∀ h1 M1 r, qk_at h1 m M1 → qp_fr m (m + 10) h h1 → qk_pq M M1 (0, v) r → Q r h1) : ql_pV h (some m) 13 7 (.int (0 : Int32)) fun h => ql_gR h (some m) 13 0 fun r1 => ql_lI h r1 0 x fun x2 => Q x2 h := by
  subst hx
  refine qk_p H 7 fun h1 H1 f1 => ?_
  rw [qk_rg H1, qk_lg H1 hj]
  exact k h1 _ _ H1 f1 (qk_pq.mk (n := 0) rfl fun _ => hv)
theorem qe_X12_isConsistent (H : qk_at h m M) (R : qk_G (M.2 0) L) {Q : Int32 → ql_H → Prop} (k : ∀ h1 M1 x, qk_at h1 m M1 → qp_fr m (m + 10) h h1 → qk_pq M M1 (0, qp_b (qa_sound L)) x → Q x h1) : qw_X12_isConsistent m h Q := by
  unfold qw_X12_isConsistent
  refine qk_p H 7 fun h1 H1 f1 => ?_
  rw [qk_rg H1, qk_lgx H1 0 0, show (qk_sI M 7 0).2 0 0 = nI L.1.length from R.1.2.1, qk_rg H1, qk_lgx H1 1 1, show (qk_sI M 7 0).2 0 1 = L.2.1 3 from R.1.2.2.1, qk_rg H1, qk_lgx H1 4 4, show (qk_sI M 7 0).2 0 4 = L.2.1 5 from R.1.2.2.2.2.2.1, qk_rg H1, qk_lgx H1 5 5, show (qk_sI M 7 0).2 0 5 = L.2.1 6 from R.1.2.2.2.2.2.2.1]
  refine qp_if (fun z => ⟨ql_nz1, k h1 _ _ H1 f1 (qk_pq.mk (n := 0) rfl fun _ => ?_)⟩) fun z => ⟨ql_nz0, k h1 _ _ H1 f1 (qk_pq.mk (n := 0) rfl fun _ => ?_)⟩
  · show (1 : Int32) = qp_b (decide _)
    rw [decide_eq_true z]
    rfl
  · show (0 : Int32) = qp_b (decide _)
    rw [decide_eq_false z]
    rfl
theorem qe_X12_editionDay (H : qk_at h m M) (R : qk_G (M.2 0) L) {e : Nat} (he : e < 2 ^ 29) (hE : L.2.1 7 = nI e) {d : Int32} {Q : Int32 → ql_H → Prop} (k : ∀ h1 M1 x, qk_at h1 m M1 → qp_fr m (m + 10) h h1 → qk_pq M M1 (qq_edition L d) x → Q x h1) : qw_X12_editionDay m d h Q := by
  have h6 : M.2 0 6 = nI e := R.1.2.2.2.2.2.2.2.trans hE
  unfold qw_X12_editionDay qw_X12_editionDay_34
  have no : qq_edition L d = (1, 0) → qw_X12_editionDay_35 m Q d (some m) (nI 1) h := fun eq => by
    unfold qw_X12_editionDay_35
    rw [qk_rv H]
    refine qe_X12_fails H (by omega) fun h1 H1 f1 => qp_iF qp_1 (k h1 _ _ H1 f1 ?_)
    rw [eq]
    exact qk_pq.mk rfl fun z => by cases z
  rw [qk_rg H, qk_lgx H 6 6, h6]
  refine qe_X12_in ?_
  by_cases z : d < 1 ∨ nI e < d
  · have e1 : (decide ((1 : Int32) ≤ d) && decide (d ≤ nI e)) = false := by
      rcases z with z | z
      · rw [decide_eq_false (Int32.not_le.mpr z), Bool.false_and]
      · rw [decide_eq_false (p := d ≤ nI e) (Int32.not_le.mpr z), Bool.and_false]
    rw [e1]
    refine qp_iT rfl (no (if_pos ?_))
    rw [hE]
    rcases z with z | z
    · exact Or.inl z
    · exact Or.inr (Or.inl z)
  · have z1 : ¬ d < 1 := fun q => z (Or.inl q)
    have z2 : d ≤ nI e := Int32.not_lt.mp fun q => z (Or.inr q)
    rw [decide_eq_true (Int32.not_lt.mp z1), decide_eq_true z2]
    refine qp_iF qp_1 ?_
    rw [qk_rg H, qk_lgx H 6 6, h6]
    refine qp_if (fun z3 => no (if_pos (Or.inr (Or.inr (by rw [hE]; exact z3))))) fun z3 => ?_
    have d0 : ¬ d < 0 := fun q => z1 (Int32.lt_trans q (by decide))
    obtain ⟨j, hj, rfl⟩ := nI_of d0
    have hje : j ≤ e := (nI_leI hj (by omega)).mp z2
    have hj1 : 1 ≤ j := by
      rcases Nat.eq_zero_or_pos j with q | q
      · subst q
        exact absurd (by decide) z1
      · exact q
    have hj6 : e < j + 6 := by
      rcases Nat.lt_or_ge e 6 with q | q
      · omega
      · rw [show (6 : Int32) = nI 6 from rfl, pk_sub q] at z3
        rcases Nat.lt_or_ge (e - 6) j with q2 | q2
        · omega
        · exact absurd (nI_le q2 (by omega)) z3
    have eq : qq_edition L (nI j) = (0, L.2.2 j) := by
      unfold qq_edition
      rw [hE, if_neg, nI_clamp hj]
      rintro (q | q | q)
      · exact z1 q
      · exact absurd z2 (Int32.not_le.mpr q)
      · exact z3 q
    unfold qw_X12_editionDay_35
    rw [qk_rv H]
    refine qe_X12_fails H (n := 0) (by omega) fun h1 H1 f1 => qp_iT rfl ?_
    rw [qk_rg H1]
    refine ⟨by decide, ?_⟩
    obtain ⟨j1, rfl⟩ : ∃ j1, j = j1 + 1 := ⟨j - 1, by omega⟩
    rw [nI_pred, show (6 : Int32) = nI 6 from rfl, pk_rem (by omega) (by omega) (by omega), show (7 : Int32) = nI 7 from rfl, nI_add, qk_lg H1 (by omega)]
    refine k h1 _ _ H1 f1 ?_
    rw [eq]
    exact qk_pq.mk (n := 0) rfl fun _ => R.2.1 e (by omega) hE (j1 + 1) hj1 hje hj6
theorem qa_notes_le {l : List qa_C} (h16 : l.length ≤ 16) (h : ∀ A ∈ l, (qa_txt A).length ≤ 12) : qa_notes l ≤ 192 := by
  have := qa_sum_le (l := l.map fun C => (qa_txt C).length) (b := 12) fun x hx => by
    obtain ⟨A, hA, rfl⟩ := List.mem_map.mp hx
    exact h A hA
  rw [List.length_map] at this
  unfold qa_notes
  omega
theorem qk_t12 (R : qk_G (M.2 0) L) : ∀ A ∈ L.1, (qa_txt A).length ≤ 12 := qa_all fun i hi => by
  obtain ⟨_, _, _, h, _⟩ := qk_vs1 (qk_cl R hi)
  exact h.2
theorem qe_X12_meanLength (H : qk_at h m M) (R : qk_G (M.2 0) L) {Q : UInt64 → ql_H → Prop} (k0 : L.1.length = 0 → ∀ h1 M1, qk_at h1 m M1 → qp_fr m (m + 10) h h1 → qk_pq M M1 (1, 0) 0 → Q FP.dconst0 h1) (k : L.1.length ≠ 0 → ∀ h1 M1, qk_at h1 m M1 → qp_fr m (m + 10) h h1 → qk_pq M M1 (0, 0) 0 → Q (FP.ddiv (FP.i2d (nI (qa_notes L.1))) (FP.i2d (nI L.1.length))) h1) : qw_X12_meanLength m h Q := by
  have n16 := R.1.1
  have t12 := qk_t12 R
  unfold qw_X12_meanLength qw_X12_meanLength_15
  rw [qk_rg H, qk_lgx H 0 0, qk_len R]
  by_cases e0 : L.1.length = 0
  · refine qp_iT (by rw [e0]; rfl) ?_
    rw [qk_rv H]
    refine qe_X12_fails H (n := 1) (by omega) fun h1 H1 f1 => qp_iF qp_1 (k0 e0 h1 _ H1 f1 (qk_pq.mk (n := 1) rfl fun z => by cases z))
  · refine qp_iF (nI_ne0 (by omega) (by omega)) ?_
    rw [qk_rv H]
    refine qe_X12_fails H (n := 0) (by omega) fun h1 H1 f1 => qp_iT rfl ?_
    have hL : ∀ c j fu, j + c = L.1.length → c < fu → qw_X12_meanLength_27 m Q fu (nI ((L.1.map fun C => (qa_txt C).length).take j).sum) (nI j) h1 := by
      intro c
      induction c with
      | zero =>
        intro j fu hj hfu
        obtain ⟨fu, rfl⟩ : ∃ z, fu = z + 1 := ⟨fu - 1, by omega⟩
        unfold qw_X12_meanLength_27
        rw [qk_rg H1, qk_lgx H1 0 0, show (qk_sI M 7 (nI 0)).2 0 0 = nI L.1.length from qk_len R]
        refine qp_iT (nI_le (by omega) (by omega)) ?_
        rw [List.take_of_length_le (by rw [List.length_map]; omega), qk_rg H1, qk_lgx H1 0 0, show (qk_sI M 7 (nI 0)).2 0 0 = nI L.1.length from qk_len R]
        have hn := qa_notes_le n16 t12
        exact ⟨(qf_mean L.1.length (by omega) (by omega) (qa_notes L.1) (by omega)).1, k e0 h1 _ H1 f1 (qk_pq.mk (n := 0) rfl fun _ => rfl)⟩
      | succ c ih =>
        intro j fu hj hfu
        obtain ⟨fu, rfl⟩ : ∃ z, fu = z + 1 := ⟨fu - 1, by omega⟩
        unfold qw_X12_meanLength_27
        rw [qk_rg H1, qk_lgx H1 0 0, show (qk_sI M 7 (nI 0)).2 0 0 = nI L.1.length from qk_len R]
        refine qp_iF (nI_ge (by omega) (by omega)) ?_
        have hj2 : j < L.1.length := by omega
        rw [qk_rv H1]
        refine qe_X12_long0 H1 (L := L) R hj2 ?_
        have hn := ih (j + 1) fu (by omega) (by omega)
        rw [qa_sum_take (by rw [List.length_map]; exact hj2), List.getElem_map] at hn
        rw [nI_add, nI_1]
        exact hn
    have := hL L.1.length 0 ql_FU (by omega) (by unfold ql_FU; omega)
    exact this
theorem qe_X12_inForceShare (H : qk_at h m M) (R : qk_G (M.2 0) L) (hs : ∀ A ∈ L.1, qa_sunok A) {Q : UInt32 → ql_H → Prop} (k0 : L.1.length = 0 → ∀ h1 M1, qk_at h1 m M1 → qp_fr m (m + 10) h h1 → qk_pq M M1 (1, 0) 0 → Q FP.fconst0 h1) (k : L.1.length ≠ 0 → ∀ h1 M1, qk_at h1 m M1 → qp_fr m (m + 10) h h1 → qk_pq M M1 (0, 0) 0 → Q (FP.fdiv (FP.i2f (nI (qa_valid L.1 (L.2.1 2)))) (FP.i2f (nI L.1.length))) h1) : qw_X12_inForceShare m h Q := by
  have n16 := R.1.1
  unfold qw_X12_inForceShare qw_X12_inForceShare_15
  rw [qk_rg H, qk_lgx H 0 0, qk_len R]
  by_cases e0 : L.1.length = 0
  · refine qp_iT (by rw [e0]; rfl) ?_
    rw [qk_rv H]
    refine qe_X12_fails H (n := 1) (by omega) fun h1 H1 f1 => qp_iF qp_1 (k0 e0 h1 _ H1 f1 (qk_pq.mk (n := 1) rfl fun z => by cases z))
  · refine qp_iF (nI_ne0 (by omega) (by omega)) ?_
    rw [qk_rv H]
    refine qe_X12_fails H (n := 0) (by omega) fun h1 H1 f1 => qp_iT rfl ?_
    rw [qk_rg H1, qk_lgx H1 2 2, show (qk_sI M 7 (nI 0)).2 0 2 = L.2.1 2 from R.1.2.2.2.1, qk_rv H1]
    refine qe_X12_valid H1 (L := L) R hs ?_
    rw [qk_rg H1, qk_lgx H1 0 0, show (qk_sI M 7 (nI 0)).2 0 0 = nI L.1.length from qk_len R]
    have hv : qa_valid L.1 (L.2.1 2) ≤ 16 := Nat.le_trans List.countP_le_length n16
    exact ⟨(qf_share L.1.length (by omega) (by omega) _ (by omega)).1, k e0 h1 _ H1 f1 (qk_pq.mk (n := 0) rfl fun _ => rfl)⟩
end QKE
