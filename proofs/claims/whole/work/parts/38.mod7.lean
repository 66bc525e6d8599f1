/-! The reference: sunset, cites, repeal, days, a new clause. -/
section QK7
variable {h h1 : ql_H} {m : Nat} {M : qk_T} {L : qa_L} {P : List qa_L}
theorem qk_G.set {g g1 : Nat → Int32} (R : qk_G g L) {i : Nat} (hi : i < L.1.length) {A : qa_C} (lo : ∀ x, ¬ (13 + 42 * i ≤ x ∧ x < 13 + 42 * i + 42) → g1 x = g x) (hc : qk_c (qk_row g1 i) A) : qk_G g1 (L.1.set i A, L.2) := by
  obtain ⟨⟨a0, a1, a2, a3, a4, a5, a6, a7⟩, b, c⟩ := R
  have w : ∀ x, x < 13 → g1 x = g x := fun x h1 => lo x (by omega)
  refine ⟨⟨?_, ?_, ?_, ?_, ?_, ?_, ?_, ?_⟩, fun e he hh t t1 t2 t3 => ?_, fun k hk => ?_⟩
  · show (L.1.set i A).length ≤ 16
    rw [List.length_set]
    exact a0
  · show g1 0 = nI (L.1.set i A).length
    rw [List.length_set, w 0 (by omega)]
    exact a1
  · exact (w 1 (by omega)).trans a2
  · exact (w 2 (by omega)).trans a3
  · exact (w 3 (by omega)).trans a4
  · exact (w 4 (by omega)).trans a5
  · exact (w 5 (by omega)).trans a6
  · exact (w 6 (by omega)).trans a7
  · exact (w _ (by omega)).trans (b e he hh t t1 t2 t3)
  · have hk2 : k < L.1.length := by
      have : k < (L.1.set i A).length := hk
      rwa [List.length_set] at this
    show qk_c (qk_row g1 k) (L.1.set i A)[k]
    rw [List.getElem_set]
    by_cases e : i = k
    · subst e
      rw [if_pos rfl]
      exact hc
    · rw [if_neg e]
      exact (c k hk2).eq fun x hx => lo _ (by omega)
theorem qa_upd_set {l : List qa_C} (hd : (l.map qa_id).Pairwise (· < ·)) {i : Nat} (hi : i < l.length) (f : qa_C → qa_C) : qa_upd l (qa_id l[i]) f = l.set i (f l[i]) := by
  refine List.ext_getElem (by rw [qa_upd_len, List.length_set]) fun k h1 h2 => ?_
  rw [qa_upd_get hd hi, List.getElem_set]
  by_cases e : i = k
  · subst e
    rw [if_pos rfl]
  · rw [if_neg e, if_neg (fun z => e z.symm)]
def qf_sun (y : Int32) : Nat := if y = -1 then 1 else if y = -3 then 2 else 3
theorem qp_sub0 {d : Int32} {t : Nat} (ht : t < 2 ^ 31) (h : ¬ d < nI t) : ¬ d - nI t < 0 := by
  have h0 : ¬ d < 0 := fun z => h (Int32.lt_of_lt_of_le z (nI_pos' ht))
  obtain ⟨j, hj, rfl⟩ := nI_of h0
  have : t ≤ j := by
    rcases Nat.lt_or_ge j t with z | z
    · exact absurd (nI_lt z ht) h
    · exact z
  rw [pk_sub this]
  exact nI_pos (by omega)
theorem qe_X12_setSunset (H : qk_at h m M) (R : qk_G (M.2 0) L) (HP : qk_P M P) (hd : (L.1.map qa_id).Pairwise (· < ·)) (hs : ∀ A ∈ L.1, qa_sunok A) (ht : ∃ t, t < 2 ^ 31 ∧ L.2.1 2 = nI t) {c d : Int32} {Q : Int32 → ql_H → Prop} (k : ∀ h1 M1 x, qk_at h1 m M1 → qp_fr m (m + 10) h h1 → qk_po M M1 P L (qa_setSun L c d) qf_sun x → Q x h1) : qw_X12_setSunset m c d h Q := by
  have n16 := R.1.1
  have fl : ∀ (e : Nat) (y : Int32) (pl : Int32), 0 < e → e < 10 → y < 0 → qf_sun y = e → qa_setSun L c d = (y, L) → qw_X12_setSunset_56 m Q d pl (some m) (nI e) h := by
    intro e y pl h0 h10 hy hf eq
    unfold qw_X12_setSunset_56
    rw [qk_rv H]
    refine qe_X12_fails H (by omega) fun h1 H1 f1 => ?_
    rw [decide_eq_true h0]
    exact qp_iF qp_1 (k h1 _ 0 H1 f1 (qk_po.fail R HP eq hy hf))
  have hg2 : M.2 0 2 = L.2.1 2 := R.1.2.2.2.1
  unfold qw_X12_setSunset qw_X12_setSunset_39
  rw [qk_rv H]
  refine qe_X12_placeOf H R (fun i hi e f => ?_) (fun e => qp_iF (by decide) (fl 1 (-1) _ (by omega) (by omega) (by decide) (by decide) (qa_by_n e)))
  have hf : qa_setSun L c d = qa_sunC L L.1[i] d := qa_by_s f
  rw [hf] at k fl
  have hsi := hs _ (List.getElem_mem hi)
  refine qp_iT (nI_pos' (by omega)) ?_
  rw [qk_rg H, qk_lgx H 2 2, hg2]
  refine qp_if (fun z => fl 2 (-3) _ (by omega) (by omega) (by decide) (by decide) (if_pos (Or.inl z))) fun z1 => ?_
  rw [qk_rg H, qk_lgx H 2 2, hg2]
  refine qp_if (fun z2 => ?_) (fun z2 => fl 2 (-3) _ (by omega) (by omega) (by decide) (by decide) (if_pos (Or.inr (Int32.not_le.mp z2))))
  have hA1 : ¬ (d < L.2.1 2 ∨ 9999 < d - L.2.1 2) := fun z => by
    rcases z with z | z
    · exact z1 z
    · exact absurd z2 (Int32.not_le.mpr z)
  rw [qk_rv H]
  refine qe_X12_isOver H R hi hsi ?_
  cases el : qa_laps L.1[i] (L.2.1 2) with
  | true => exact qp_iF qp_1 (fl 3 (-4) _ (by omega) (by omega) (by decide) (by decide) (by unfold qa_sunC; rw [if_neg hA1, if_pos el]))
  | false =>
    refine qp_iT rfl ?_
    have eq : qa_sunC L L.1[i] d = (d - L.2.1 2, qa_upd L.1 (qa_id L.1[i]) (fun C => ((qa_id C, qa_sec C, qa_beg C, d), C.2)), L.2) := by
      unfold qa_sunC
      rw [if_neg hA1, if_neg (by rw [el]; decide)]
    rw [eq] at k
    unfold qw_X12_setSunset_56
    rw [qk_rv H]
    refine qe_X12_fails H (n := 0) (by omega) fun h1 H1 f1 => ?_
    refine qp_iT rfl ?_
    rw [qk_rg H1, qk_rv H1]
    refine qe_X12_keeps H1 (P := P) (L := L) HP R fun h2 M2 H2 f2 hP2 h72 e12' e22 => ?_
    have R2 : qk_G (M2.2 0) L := by rw [e22 0 (by omega)]; exact R
    rw [qk_rv H2]
    refine qe_X12_lays H2 (w := 3) (by omega) (by omega) fun h3 H3 f3 => ?_
    rw [qk_rg H3, qk_lgx H3 2 2, show (qk_sA M2 0 (13 + 42 * i + 3) d).2 0 2 = L.2.1 2 by rw [qk_sAs, pk_un (by omega)]; exact R2.1.2.2.2.1]
    obtain ⟨t, t1, t2⟩ := ht
    refine k h3 _ _ H3 (f1.tr (f2.tr f3)) (qk_po.done (M1 := M2) ?_ hP2 h72 (fun z z5 z7 => (e12' z z5 z7).trans (qk_sI_n z7)) e22 rfl (fun z hz => qk_sAn (by omega)) ?_ rfl)
    · show qk_G _ (qa_upd L.1 (qa_id L.1[i]) (fun C => ((qa_id C, qa_sec C, qa_beg C, d), C.2)), L.2)
      rw [qa_upd_set hd hi]
      refine R2.set hi (fun x hx => by rw [qk_sAs, pk_un (by omega)]) ?_
      obtain ⟨⟨a0, a1, a2, a3⟩, ⟨a4, a5⟩, ⟨a6, a7⟩, a8⟩ := R2.2.2 i hi
      have ne : ∀ w, w ≠ 3 → qk_row ((qk_sA M2 0 (13 + 42 * i + 3) d).2 0) i w = qk_row (M2.2 0) i w := fun w hw => by
        show (qk_sA M2 0 (13 + 42 * i + 3) d).2 0 (13 + 42 * i + w) = _
        rw [qk_sAs, pk_un (by omega)]
        rfl
      refine ⟨⟨(ne 0 (by omega)).trans a0, (ne 1 (by omega)).trans a1, (ne 2 (by omega)).trans a2, ?_⟩, ⟨(ne 4 (by omega)).trans a4, fun j hj => ?_⟩, ⟨(ne 37 (by omega)).trans a6, fun j hj => (ne (38 + j) (by omega)).trans (a7 j hj)⟩, a8⟩
      · show (qk_sA M2 0 (13 + 42 * i + 3) d).2 0 (13 + 42 * i + 3) = d
        rw [qk_sAs, pk_us]
      · obtain ⟨b1, b2, b3⟩ := a5 j hj
        refine ⟨(ne _ (by omega)).trans b1, (ne _ (by omega)).trans b2, fun q hq => ?_⟩
        rw [ne _ (by omega)]
        exact b3 q hq
    · show ¬ d - L.2.1 2 < 0
      rw [t2] at z1 ⊢
      exact qp_sub0 t1 z1
def qf_cite (y : Int32) : Nat := if y = -1 then 1 else if y = -3 then 2 else 3
theorem qe_X12_cite (H : qk_at h m M) (R : qk_G (M.2 0) L) (HP : qk_P M P) (hd : (L.1.map qa_id).Pairwise (· < ·)) (hm : ∀ A ∈ L.1, qa_id A ≠ -1) {c y : Int32} {Q : Int32 → ql_H → Prop} (k : ∀ h1 M1 x, qk_at h1 m M1 → qp_fr m (m + 10) h h1 → qk_po M M1 P L (qa_cite L c y) qf_cite x → Q x h1) : qw_X12_cite m c y h Q := by
  have n16 := R.1.1
  have fl : ∀ (e : Nat) (v : Int32) (pl : Int32), 0 < e → e < 10 → v < 0 → qf_cite v = e → qa_cite L c y = (v, L) → qw_X12_cite_57 m Q y pl (some m) (nI e) h := by
    intro e v pl h0 h10 hy hf eq
    unfold qw_X12_cite_57
    rw [qk_rv H]
    refine qe_X12_fails H (by omega) fun h1 H1 f1 => ?_
    rw [decide_eq_true h0]
    exact qp_iF qp_1 (k h1 _ 0 H1 f1 (qk_po.fail R HP eq hy hf))
  unfold qw_X12_cite qw_X12_cite_19 qw_X12_cite_52
  rw [qk_rv H]
  refine qe_X12_placeOf H R (fun i hi e f => ?_) (fun e => qp_iT (by decide) (fl 1 (-1) _ (by omega) (by omega) (by decide) (by decide) (qa_by_n e)))
  have hf : qa_cite L c y = qa_citeC L L.1[i] y := qa_by_s f
  rw [hf] at k fl
  have hc := qk_cl R hi
  have h4 := hc.2.2.2.2.1
  refine qp_iF (nI_pos (by omega)) ?_
  rw [qk_rv H]
  refine qe_X12_placeOf H R (fun i2 hi2 e2 f2 => ?_) (fun e2 => qp_iF (by decide) (fl 1 (-1) _ (by omega) (by omega) (by decide) (by decide) ?_))
  · have hh : ¬ qa_has L.1 y = false := by
      rw [qa_has_iff.mpr ⟨_, List.getElem_mem hi2, e2⟩]
      decide
    have hy1 : y ≠ -1 := e2 ▸ hm _ (List.getElem_mem hi2)
    refine qp_iT (nI_pos' (by omega)) ?_
    refine qp_if (fun z => fl 2 (-3) _ (by omega) (by omega) (by decide) (by decide) (by unfold qa_citeC; rw [if_neg hh, if_pos (e.trans z)])) fun z => ?_
    have hne : ¬ qa_id L.1[i] = y := fun q => z (e.symm.trans q)
    rw [qk_rv H]
    refine qe_X12_cited H R hi (fun j hj e3 _ => qp_iT (nI_pos' (by omega)) (fl 3 (-4) _ (by omega) (by omega) (by decide) (by decide) ?_)) (fun hny => ?_)
    · unfold qa_citeC
      rw [if_neg hh, if_neg hne, if_pos (Or.inl (e3 ▸ List.getElem_mem hj))]
    · refine qp_iF (by decide) ?_
      rw [qk_rv H]
      refine qe_X12_of H (w := 37) (by omega) (by omega) ?_
      rw [show M.2 0 (13 + 42 * i + 37) = nI (qa_ci L.1[i]).length from hc.2.2.1.1]
      by_cases e4 : (qa_ci L.1[i]).length = 4
      · refine qp_iT (by rw [e4]; rfl) (fl 3 (-4) _ (by omega) (by omega) (by decide) (by decide) ?_)
        unfold qa_citeC
        rw [if_neg hh, if_neg hne, if_pos (Or.inr (by omega))]
      · refine qp_iF (fun q => e4 ((nI_eq (b := 4) (by omega) (by omega)).mp q)) ?_
        have eq : qa_citeC L L.1[i] y = (nI ((qa_ci L.1[i]).length + 1), qa_upd L.1 (qa_id L.1[i]) (fun C => (C.1, qa_vs C, qa_ci C ++ [y])), L.2) := by
          unfold qa_citeC
          rw [if_neg hh, if_neg hne, if_neg (fun q => by
            rcases q with q | q
            · exact hny q
            · omega)]
        rw [eq] at k
        unfold qw_X12_cite_57
        rw [qk_rv H]
        refine qe_X12_fails H (n := 0) (by omega) fun h1 H1 f1 => ?_
        refine qp_iT rfl ?_
        rw [qk_rg H1, qk_rv H1]
        refine qe_X12_keeps H1 (P := P) (L := L) HP R fun h2 M2 H2 f2 hP2 h72 e12' e22 => ?_
        have R2 : qk_G (M2.2 0) L := by rw [e22 0 (by omega)]; exact R
        rw [qk_rv H2]
        refine qe_X12_of H2 (w := 37) (by omega) (by omega) ?_
        rw [show M2.2 0 (13 + 42 * i + 37) = nI (qa_ci L.1[i]).length from (R2.2.2 i hi).2.2.1.1, qk_rv H2, show (38 : Int32) = nI 38 from rfl, nI_add]
        refine qe_X12_lays H2 (by omega) (by omega) fun h3 H3 f3 => ?_
        rw [qk_rv H3, nI_1]
        refine qe_X12_lays H3 (w := 37) (by omega) (by omega) fun h4 H4 f4 => ?_
        refine k h4 _ _ H4 (f1.tr (f2.tr (f3.tr f4))) (qk_po.done (M1 := M2) ?_ hP2 h72 (fun z z5 z7 => (e12' z z5 z7).trans (qk_sI_n z7)) e22 rfl (fun z hz => (qk_sAn (by omega)).trans (qk_sAn (by omega))) (nI_pos (by omega)) rfl)
        show qk_G _ (qa_upd L.1 (qa_id L.1[i]) (fun C => (C.1, qa_vs C, qa_ci C ++ [y])), L.2)
        rw [qa_upd_set hd hi]
        refine R2.set hi (fun x hx => by rw [qk_sAs, pk_un (by omega), qk_sAs, pk_un (by omega)]) ?_
        obtain ⟨⟨a0, a1, a2, a3⟩, ⟨a4, a5⟩, ⟨a6, a7⟩, a8⟩ := R2.2.2 i hi
        have ne : ∀ w, w ≠ 37 → w ≠ 38 + (qa_ci L.1[i]).length → qk_row ((qk_sA (qk_sA M2 0 (13 + 42 * i + (38 + (qa_ci L.1[i]).length)) y) 0 (13 + 42 * i + 37) (nI ((qa_ci L.1[i]).length + 1))).2 0) i w = qk_row (M2.2 0) i w := fun w hw hw2 => by
          show (qk_sA (qk_sA M2 0 (13 + 42 * i + (38 + (qa_ci L.1[i]).length)) y) 0 (13 + 42 * i + 37) (nI ((qa_ci L.1[i]).length + 1))).2 0 (13 + 42 * i + w) = _
          rw [qk_sAs, pk_un (by omega), qk_sAs, pk_un (by omega)]
          rfl
        have v8 := a8.1.2.1
        refine ⟨⟨(ne 0 (by omega) (by omega)).trans a0, (ne 1 (by omega) (by omega)).trans a1, (ne 2 (by omega) (by omega)).trans a2, (ne 3 (by omega) (by omega)).trans a3⟩, ⟨(ne 4 (by omega) (by omega)).trans a4, fun j hj => ?_⟩, ⟨?_, fun j hj => ?_⟩, a8.cite (by omega) hny hy1⟩
        · have hj2 : j < (qa_vs L.1[i]).length := hj
          obtain ⟨b1, b2, b3⟩ := a5 j hj
          have := (a8.1.2.2 _ (List.getElem_mem hj2)).1.2
          refine ⟨(ne _ (by omega) (by omega)).trans b1, (ne _ (by omega) (by omega)).trans b2, fun q hq => ?_⟩
          have hq2 : q < ((qa_vs L.1[i])[j]).2.length := hq
          rw [ne _ (by omega) (by omega)]
          exact b3 q hq
        · show (qk_sA (qk_sA M2 0 (13 + 42 * i + (38 + (qa_ci L.1[i]).length)) y) 0 (13 + 42 * i + 37) (nI ((qa_ci L.1[i]).length + 1))).2 0 (13 + 42 * i + 37) = nI (qa_ci L.1[i] ++ [y]).length
          rw [qk_sAs, pk_us, List.length_append]
          rfl
        · have hj2 : j < (qa_ci L.1[i] ++ [y]).length := hj
          have hj3 : j < (qa_ci L.1[i]).length + 1 := by
            have h := hj2
            rw [List.length_append] at h
            exact h
          show (qk_sA (qk_sA M2 0 (13 + 42 * i + (38 + (qa_ci L.1[i]).length)) y) 0 (13 + 42 * i + 37) (nI ((qa_ci L.1[i]).length + 1))).2 0 (13 + 42 * i + (38 + j)) = (qa_ci L.1[i] ++ [y])[j]
          rw [qk_sAs, pk_un (by omega), qk_sAs]
          by_cases e5 : j = (qa_ci L.1[i]).length
          · subst e5
            rw [pk_us]
            exact (qt_g1 (l := qa_ci L.1[i] ++ [y]) rfl hj2 rfl).symm
          · rw [pk_un (by omega), qt_gl (l := qa_ci L.1[i] ++ [y]) rfl hj2 (by omega)]
            exact a7 j (by omega)
  · unfold qa_citeC
    rw [if_pos]
    cases e3 : qa_has L.1 y with
    | false => rfl
    | true =>
      obtain ⟨D, hD, e4⟩ := qa_has_iff.mp e3
      exact absurd e4 (qa_find_none.mp e2 D hD)
/-- a cite taken out of row i -/
theorem qe_X12_dropsCite (H : qk_at h m M) {i p n : Nat} (hi : i < 16) (hn : M.2 0 (13 + 42 * i + 37) = nI n) (h4 : n ≤ 4) (hp : p < n) {Q : ql_H → Prop} (k : ∀ h1 M1, qk_at h1 m M1 → qp_fr m (m + 10) h h1 → qk_ch M M1 (fun x => 13 + 42 * i + 37 ≤ x ∧ x < 13 + 42 * i + 42) → M1.2 0 (13 + 42 * i + 37) = nI (n - 1) → (∀ j, j < n - 1 → M1.2 0 (13 + 42 * i + (38 + j)) = M.2 0 (13 + 42 * i + (38 + if j < p then j else j + 1))) → Q h1) : qw_X12_dropsCite m (nI i) (nI p) h Q := by
  have hL : ∀ c j hh M1, j + c = n - 1 → p ≤ j → ∀ fu, c < fu → qk_at hh m M1 → qp_fr m (m + 10) h hh → qk_ch M M1 (fun x => 13 + 42 * i + 37 ≤ x ∧ x < 13 + 42 * i + 42) → (∀ t, t < 4 → M1.2 0 (13 + 42 * i + (38 + t)) = M.2 0 (13 + 42 * i + (38 + if p ≤ t ∧ t < j then t + 1 else t))) → qw_X12_dropsCite_11 m Q fu (nI i) (nI n) (nI j) hh := by
    intro c
    induction c with
    | zero =>
      intro j hh M1 hj hpj fu hfu G f ch e
      obtain ⟨fu, rfl⟩ : ∃ z, fu = z + 1 := ⟨fu - 1, by omega⟩
      unfold qw_X12_dropsCite_11
      rw [nI_1]
      refine qp_iT (nI_le (by omega) (by omega)) ?_
      obtain ⟨n1, rfl⟩ : ∃ n1, n = n1 + 1 := ⟨n - 1, by omega⟩
      rw [qk_rv G, nI_pred]
      refine qe_X12_lays G (w := 37) hi (by omega) fun h5 H5 f5 => ?_
      refine k h5 _ H5 (f.tr f5) (ch.tr (qk_ch.up ⟨by omega, by omega⟩)) (by rw [qk_sAs, pk_us]; rfl) fun t ht => ?_
      rw [qk_sAs, pk_un (by omega), e t (by omega)]
      by_cases e2 : t < p
      · rw [if_pos e2, if_neg (by omega)]
      · rw [if_neg e2, if_pos (by omega)]
    | succ c ih =>
      intro j hh M1 hj hpj fu hfu G f ch e
      obtain ⟨fu, rfl⟩ : ∃ z, fu = z + 1 := ⟨fu - 1, by omega⟩
      unfold qw_X12_dropsCite_11
      rw [nI_1]
      refine qp_iF (nI_ge (by omega) (by omega)) ?_
      rw [qk_rv G, show (39 : Int32) = nI 39 from rfl, nI_add]
      refine qe_X12_of G hi (by omega) ?_
      rw [qk_rv G, show (38 : Int32) = nI 38 from rfl, nI_add]
      refine qe_X12_lays G hi (by omega) fun h5 H5 f5 => ?_
      refine ih (j + 1) h5 _ (by omega) (by omega) fu (by omega) H5 (f.tr f5) (ch.tr (qk_ch.up ⟨by omega, by omega⟩)) fun t ht => ?_
      rw [qk_sAs]
      by_cases e2 : t = j
      · subst e2
        rw [pk_us, if_pos (by omega), show 39 + t = 38 + (t + 1) by omega, e (t + 1) (by omega), if_neg (by omega)]
      · rw [pk_un (by omega), e t ht]
        by_cases e3 : p ≤ t ∧ t < j
        · rw [if_pos e3, if_pos (by omega)]
        · rw [if_neg e3, if_neg (by omega)]
  unfold qw_X12_dropsCite
  rw [qk_rv H]
  refine qe_X12_of H (w := 37) hi (by omega) ?_
  rw [hn]
  exact hL (n - 1 - p) p h M (by omega) (Nat.le_refl _) ql_FU (by unfold ql_FU; omega) H qp_fr.rf qk_ch.rf fun t ht => by rw [if_neg (by omega)]
/-- row i with one cite less -/
theorem qk_c.rm {g g1 : Nat → Int32} {A : qa_C} {i p : Nat} (hc : qk_c (qk_row g i) A) (hp : p < (qa_ci A).length) (lo : ∀ w, w < 37 → g1 (13 + 42 * i + w) = g (13 + 42 * i + w)) (h37 : g1 (13 + 42 * i + 37) = nI ((qa_ci A).length - 1)) (h38 : ∀ j, j < (qa_ci A).length - 1 → g1 (13 + 42 * i + (38 + j)) = g (13 + 42 * i + (38 + if j < p then j else j + 1))) : qk_c (qk_row g1 i) (A.1, qa_vs A, (qa_ci A).eraseIdx p) := by
  obtain ⟨⟨a0, a1, a2, a3⟩, ⟨a4, a5⟩, ⟨a6, a7⟩, a8⟩ := hc
  have v8 := a8.1.2.1
  refine ⟨⟨(lo 0 (by omega)).trans a0, (lo 1 (by omega)).trans a1, (lo 2 (by omega)).trans a2, (lo 3 (by omega)).trans a3⟩, ⟨(lo 4 (by omega)).trans a4, fun j hj => ?_⟩, ⟨?_, fun j hj => ?_⟩, a8.sub (List.eraseIdx_sublist ..)⟩
  · have hj2 : j < (qa_vs A).length := hj
    obtain ⟨b1, b2, b3⟩ := a5 j hj
    have := (a8.1.2.2 _ (List.getElem_mem hj2)).1.2
    refine ⟨(lo _ (by omega)).trans b1, (lo (5 + 4 * j + 1) (by omega)).trans b2, fun q hq => ?_⟩
    have hq2 : q < ((qa_vs A)[j]).2.length := hq
    have e : qk_row g1 i (5 + 4 * j + 2 + q / 6) = qk_row g i (5 + 4 * j + 2 + q / 6) := lo _ (by omega)
    rw [e]
    exact b3 q hq
  · show g1 (13 + 42 * i + 37) = nI ((qa_ci A).eraseIdx p).length
    rw [List.length_eraseIdx_of_lt hp]
    exact h37
  · have hj2 : j < ((qa_ci A).eraseIdx p).length := hj
    have hj3 : j < (qa_ci A).length - 1 := by
      have h := hj2
      rw [List.length_eraseIdx_of_lt hp] at h
      exact h
    have eg : ((qa_ci A).eraseIdx p)[j]'hj2 = if h : j < p then (qa_ci A)[j]'(by omega) else (qa_ci A)[j + 1]'(by omega) := List.getElem_eraseIdx hj2
    show g1 (13 + 42 * i + (38 + j)) = ((qa_ci A).eraseIdx p)[j]'hj2
    rw [h38 j hj3, eg]
    by_cases e : j < p
    · rw [if_pos e, dif_pos e]
      exact a7 j (by omega)
    · rw [if_neg e, dif_neg e]
      exact a7 (j + 1) (by omega)
def qf_1 (_ : Int32) : Nat := 1
theorem qe_X12_uncite (H : qk_at h m M) (R : qk_G (M.2 0) L) (HP : qk_P M P) (hd : (L.1.map qa_id).Pairwise (· < ·)) {c y : Int32} {Q : Int32 → ql_H → Prop} (k : ∀ h1 M1 x, qk_at h1 m M1 → qp_fr m (m + 10) h h1 → qk_po M M1 P L (qa_uncite L c y) qf_1 x → Q x h1) : qw_X12_uncite m c y h Q := by
  have n16 := R.1.1
  have fl : ∀ (v : Int32) (pl : Int32), v < 0 → qa_uncite L c y = (v, L) → qw_X12_uncite_25 m Q y pl (some m) (nI 1) h := by
    intro v pl hy eq
    unfold qw_X12_uncite_25
    rw [qk_rv H]
    refine qe_X12_fails H (by omega) fun h1 H1 f1 => ?_
    exact qp_iF qp_1 (k h1 _ 0 H1 f1 (qk_po.fail R HP eq hy rfl))
  unfold qw_X12_uncite qw_X12_uncite_20
  rw [qk_rv H]
  refine qe_X12_placeOf H R (fun i hi e f => ?_) (fun e => qp_iT (by decide) (fl (-1) _ (by decide) (qa_by_n e)))
  have hf : qa_uncite L c y = qa_unciteC L L.1[i] y := qa_by_s f
  rw [hf] at k fl
  have hc := qk_cl R hi
  have h4 := hc.2.2.2.2.1
  refine qp_iF (nI_pos (by omega)) ?_
  rw [qk_rv H]
  refine qe_X12_cited H R hi (fun j hj e3 hfst => ?_) (fun hny => qp_iF (by decide) (fl (-1) _ (by decide) (by unfold qa_unciteC; rw [if_neg hny])))
  refine qp_iT (nI_pos' (by omega)) ?_
  have eq : qa_unciteC L L.1[i] y = (nI ((qa_ci L.1[i]).length - 1), qa_upd L.1 (qa_id L.1[i]) (fun C => (C.1, qa_vs C, (qa_ci C).erase y)), L.2) := by
    unfold qa_unciteC
    rw [if_pos (e3 ▸ List.getElem_mem hj)]
  rw [eq] at k
  unfold qw_X12_uncite_25
  rw [qk_rv H]
  refine qe_X12_fails H (n := 0) (by omega) fun h1 H1 f1 => ?_
  refine qp_iT rfl ?_
  rw [qk_rg H1, qk_rv H1]
  refine qe_X12_keeps H1 (P := P) (L := L) HP R fun h2 M2 H2 f2 hP2 h72 e12' e22 => ?_
  have R2 : qk_G (M2.2 0) L := by rw [e22 0 (by omega)]; exact R
  rw [qk_rv H2]
  refine qe_X12_cited H2 R2 hi (fun j2 hj2 e4 hfst2 => ?_) (fun hny => absurd (e3 ▸ List.getElem_mem hj) hny)
  rw [qk_rv H2]
  refine qe_X12_dropsCite H2 (i := i) (p := j2) (n := (qa_ci L.1[i]).length) (by omega) (R2.2.2 i hi).2.2.1.1 h4 hj2 fun h3 M3 H3 f3 ch e37 e38 => ?_
  rw [qk_rv H3]
  refine qe_X12_of H3 (w := 37) (by omega) (by omega) ?_
  rw [e37]
  refine k h3 _ _ H3 (f1.tr (f2.tr f3)) (qk_po.done (M1 := M2) ?_ hP2 h72 (fun z z5 z7 => (e12' z z5 z7).trans (qk_sI_n z7)) e22 ch.1 (fun z hz => qk_chP ch z hz) (nI_pos (by omega)) rfl)
  show qk_G _ (qa_upd L.1 (qa_id L.1[i]) (fun C => (C.1, qa_vs C, (qa_ci C).erase y)), L.2)
  rw [qa_upd_set hd hi]
  refine R2.set hi (fun x hx => ch.2.2 x (by omega)) ?_
  rw [qa_er _ y j2 hj2 e4 hfst2]
  exact (R2.2.2 i hi).rm hj2 (fun w hw => ch.2.2 _ (by omega)) e37 e38
/-- a row taken out -/
theorem qe_X12_drops (H : qk_at h m M) {p n : Nat} (hn : M.2 0 0 = nI n) (hp : p < n) (h16 : n ≤ 16) {Q : ql_H → Prop} (k : ∀ h1 M1, qk_at h1 m M1 → qp_fr m (m + 10) h h1 → M1.1 = M.1 → (∀ j, j ≠ 0 → M1.2 j = M.2 j) → M1.2 0 0 = nI (n - 1) → (∀ x, 0 < x → x < 13 + 42 * p → M1.2 0 x = M.2 0 x) → (∀ x, 13 + 42 * p ≤ x → x < 13 + 42 * (n - 1) → M1.2 0 x = M.2 0 (x + 42)) → Q h1) : qw_X12_drops m (nI p) h Q := by
  obtain ⟨n1, rfl⟩ : ∃ n1, n = n1 + 1 := ⟨n - 1, by omega⟩
  unfold qw_X12_drops
  rw [qk_rg H, qk_lgx H 0 0, hn, nI_pred, show (0 : Int32) = nI 0 from rfl]
  refine qk_sg H (by omega) fun h1 H1 f1 => ?_
  rw [show (13 : Int32) = nI 13 from rfl, show (42 : Int32) = nI 42 from rfl, pk_mul, nI_add]
  have hL : ∀ c x hh M1, x + c = 13 + 42 * n1 → 13 + 42 * p ≤ x → ∀ fu, c < fu → qk_at hh m M1 → qp_fr m (m + 10) h hh → M1.1 = M.1 → (∀ j, j ≠ 0 → M1.2 j = M.2 j) → M1.2 0 0 = nI n1 → (∀ t, 0 < t → M1.2 0 t = if 13 + 42 * p ≤ t ∧ t < x then M.2 0 (t + 42) else M.2 0 t) → qw_X12_drops_18 m Q fu (nI x) hh := by
    intro c
    induction c with
    | zero =>
      intro x hh M1 hx hpx fu hfu G f a1 a2 a3 a4
      obtain ⟨fu, rfl⟩ : ∃ z, fu = z + 1 := ⟨fu - 1, by omega⟩
      unfold qw_X12_drops_18
      rw [qk_rg G, qk_lgx G 0 0, a3, show (13 : Int32) = nI 13 from rfl, show (42 : Int32) = nI 42 from rfl, pk_mul, nI_add]
      refine qp_iT (nI_le (by omega) (by omega)) (k hh M1 G f a1 a2 a3 (fun t t1 t2 => ?_) fun t t1 t2 => ?_)
      · rw [a4 t t1, if_neg (by omega)]
      · have t3 : t < 13 + 42 * n1 := t2
        rw [a4 t (by omega), if_pos (by omega)]
    | succ c ih =>
      intro x hh M1 hx hpx fu hfu G f a1 a2 a3 a4
      obtain ⟨fu, rfl⟩ : ∃ z, fu = z + 1 := ⟨fu - 1, by omega⟩
      unfold qw_X12_drops_18
      rw [qk_rg G, qk_lgx G 0 0, a3, show (13 : Int32) = nI 13 from rfl, show (42 : Int32) = nI 42 from rfl, pk_mul, nI_add]
      refine qp_iF (nI_ge (by omega) (by omega)) ?_
      rw [qk_rg G, qk_rg G, nI_add, qk_lg G (by omega)]
      refine qk_sg G (by omega) fun h2 H2 f2 => ?_
      rw [nI_1]
      refine ih (x + 1) h2 _ (by omega) (by omega) fu (by omega) H2 (f.tr f2) a1 (fun j hj => (qk_sAn hj).trans (a2 j hj)) (by rw [qk_sAs, pk_un (by omega)]; exact a3) fun t ht => ?_
      rw [qk_sAs]
      by_cases e : t = x
      · subst e
        rw [pk_us, a4 (t + 42) (by omega), if_neg (by omega), if_pos (by omega)]
      · rw [pk_un e, a4 t ht]
        by_cases e2 : 13 + 42 * p ≤ t ∧ t < x
        · rw [if_pos e2, if_pos (by omega)]
        · rw [if_neg e2, if_neg (by omega)]
  refine hL (42 * (n1 - p)) _ h1 _ (by omega) (Nat.le_refl _) ql_FU (by unfold ql_FU; omega) H1 f1 rfl (fun j hj => qk_sAn hj) (by rw [qk_sAs, pk_us]) fun t ht => ?_
  rw [if_neg (by omega), qk_sAs, pk_un (by omega)]
theorem qk_G.drop {g g1 : Nat → Int32} (R : qk_G g L) {p : Nat} (hp : p < L.1.length) (e0 : g1 0 = nI (L.1.length - 1)) (e1 : ∀ x, 0 < x → x < 13 + 42 * p → g1 x = g x) (e2 : ∀ x, 13 + 42 * p ≤ x → x < 13 + 42 * (L.1.length - 1) → g1 x = g (x + 42)) : qk_G g1 (L.1.eraseIdx p, L.2) := by
  obtain ⟨⟨a0, a1, a2, a3, a4, a5, a6, a7⟩, b, c⟩ := R
  have w : ∀ x, 0 < x → x < 13 → g1 x = g x := fun x h1 h2 => e1 x h1 (by omega)
  have hl : (L.1.eraseIdx p).length = L.1.length - 1 := List.length_eraseIdx_of_lt hp
  refine ⟨⟨?_, ?_, (w 1 (by omega) (by omega)).trans a2, (w 2 (by omega) (by omega)).trans a3, (w 3 (by omega) (by omega)).trans a4, (w 4 (by omega) (by omega)).trans a5, (w 5 (by omega) (by omega)).trans a6, (w 6 (by omega) (by omega)).trans a7⟩, fun e he hh t t1 t2 t3 => (w _ (by omega) (by omega)).trans (b e he hh t t1 t2 t3), fun k hk => ?_⟩
  · show (L.1.eraseIdx p).length ≤ 16
    omega
  · show g1 0 = nI (L.1.eraseIdx p).length
    rw [hl]
    exact e0
  · have hk2 : k < (L.1.eraseIdx p).length := hk
    show qk_c (qk_row g1 k) (L.1.eraseIdx p)[k]
    rw [List.getElem_eraseIdx]
    by_cases e : k < p
    · rw [dif_pos e]
      exact (c k (by omega)).eq fun x hx => e1 _ (by omega) (by omega)
    · rw [dif_neg e]
      exact (c (k + 1) (by omega)).eq fun x hx => by
        show g1 (13 + 42 * k + x) = g (13 + 42 * (k + 1) + x)
        rw [e2 _ (by omega) (by omega)]
        congr 1
        omega
theorem qa_filter_erase : ∀ (l : List qa_C) (hd : (l.map qa_id).Pairwise (· < ·)) (i : Nat) (hi : i < l.length), l.filter (fun C => qa_id C != qa_id l[i]) = l.eraseIdx i
  | [], _, _, hi => absurd hi (Nat.not_lt_zero _)
  | A :: l, hd, 0, _ => by
    rw [List.map_cons, List.pairwise_cons] at hd
    show (A :: l).filter (fun C => qa_id C != qa_id A) = l
    rw [List.filter_cons, if_neg (by simp)]
    refine List.filter_eq_self.mpr fun C hC => ?_
    have := hd.1 _ (List.mem_map_of_mem hC)
    rw [bne_iff_ne]
    intro z
    rw [z] at this
    exact Int32.lt_irrefl this
  | A :: l, hd, i + 1, hi => by
    rw [List.map_cons, List.pairwise_cons] at hd
    have hi2 : i < l.length := Nat.lt_of_succ_lt_succ hi
    show (A :: l).filter (fun C => qa_id C != qa_id l[i]) = A :: l.eraseIdx i
    have := hd.1 _ (List.mem_map_of_mem (List.getElem_mem hi2))
    rw [List.filter_cons, if_pos, qa_filter_erase l hd.2 i hi2]
    rw [bne_iff_ne]
    intro z
    rw [z] at this
    exact Int32.lt_irrefl this
theorem qe_X12_repeal (H : qk_at h m M) (R : qk_G (M.2 0) L) (HP : qk_P M P) (hd : (L.1.map qa_id).Pairwise (· < ·)) {c : Int32} {Q : Int32 → ql_H → Prop} (k : ∀ h1 M1 x, qk_at h1 m M1 → qp_fr m (m + 10) h h1 → qk_po M M1 P L (qa_repeal L c) qf_1 x → Q x h1) : qw_X12_repeal m c h Q := by
  have n16 := R.1.1
  unfold qw_X12_repeal
  rw [qk_rv H]
  refine qe_X12_placeOf H R (fun i hi e f => ?_) (fun e => ?_)
  · refine qp_iT (nI_pos' (by omega)) ?_
    subst e
    have eq : qa_repeal L (qa_id L.1[i]) = (nI (L.1.eraseIdx i).length, L.1.eraseIdx i, upd L.2.1 5 (L.2.1 5 + 1), L.2.2) := by
      unfold qa_repeal
      rw [if_pos (qa_has_iff.mpr ⟨_, List.getElem_mem hi, rfl⟩), qa_filter_erase L.1 hd i hi]
    rw [eq] at k
    have hl : (L.1.eraseIdx i).length = L.1.length - 1 := List.length_eraseIdx_of_lt hi
    unfold qw_X12_repeal_16
    rw [qk_rv H]
    refine qe_X12_fails H (n := 0) (by omega) fun h1 H1 f1 => ?_
    refine qp_iT rfl ?_
    rw [qk_rg H1, qk_rv H1]
    refine qe_X12_keeps H1 (P := P) (L := L) HP R fun h2 M2 H2 f2 hP2 h72 e12' e22 => ?_
    have R2 : qk_G (M2.2 0) L := by rw [e22 0 (by omega)]; exact R
    rw [qk_rv H2]
    refine qe_X12_drops H2 R2.1.2.1 hi n16 fun h3 M3 H3 f3 a1 a2 a3 a4 a5 => ?_
    have R3 := R2.drop hi a3 a4 a5
    rw [qk_rg H3, qk_lgx H3 4 4, show M3.2 0 4 = L.2.1 5 from R3.1.2.2.2.2.2.1, show (4 : Int32) = nI 4 from rfl]
    refine qk_sg H3 (by omega) fun h4 H4 f4 => ?_
    rw [qk_rg H4, qk_lgx H4 0 0, show (qk_sA M3 0 4 (L.2.1 5 + 1)).2 0 0 = nI (L.1.length - 1) by rw [qk_sAs, pk_un (by omega)]; exact a3]
    refine k h4 _ _ H4 (f1.tr (f2.tr (f3.tr f4))) (qk_po.done (M1 := M2) ?_ hP2 h72 (fun z z5 z7 => (e12' z z5 z7).trans (qk_sI_n z7)) e22 a1 (fun z hz => (qk_sAn (by omega)).trans (a2 z (by omega))) (nI_pos (by omega)) (by rw [hl]))
    show qk_G _ (L.1.eraseIdx i, upd L.2.1 5 (L.2.1 5 + 1), L.2.2)
    obtain ⟨⟨c0, c1, c2, c3, c4, c5, c6, c7⟩, d, e⟩ := R3
    have w : ∀ x, x ≠ 4 → (qk_sA M3 0 4 (L.2.1 5 + 1)).2 0 x = M3.2 0 x := fun x hx => by rw [qk_sAs, pk_un hx]
    refine ⟨⟨c0, (w 0 (by omega)).trans c1, (w 1 (by omega)).trans c2, (w 2 (by omega)).trans c3, (w 3 (by omega)).trans c4, ?_, (w 5 (by omega)).trans c6, (w 6 (by omega)).trans c7⟩, fun x hx hh t t1 t2 t3 => (w _ (by omega)).trans (d x hx hh t t1 t2 t3), fun q hq => (e q hq).eq fun x hx => w _ (by omega)⟩
    rw [qk_sAs, pk_us]
    rfl
  · refine qp_iF (by decide) ?_
    unfold qw_X12_repeal_16
    rw [qk_rv H]
    refine qe_X12_fails H (n := 1) (by omega) fun h1 H1 f1 => ?_
    refine qp_iF qp_1 (k h1 _ 0 H1 f1 (qk_po.fail R HP (y := -1) ?_ (by decide) rfl))
    unfold qa_repeal
    rw [if_neg]
    intro z
    obtain ⟨D, hD, e2⟩ := qa_has_iff.mp z
    exact absurd e2 (qa_find_none.mp e D hD)
end QK7
