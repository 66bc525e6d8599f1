/-! The reference's edition. -/
section QK9
variable {h h1 : ql_H} {m : Nat} {M : qk_T} {L : qa_L} {P : List qa_L} {Lv Z : List qa_C} {F E : Nat → Int32}
def qk_c2 (M M1 : qk_T) : Prop := M1.1 = M.1 ∧ ∀ j, j ≠ 0 → j ≠ 14 → M1.2 j = M.2 j
theorem qk_c2.rf : qk_c2 M M := ⟨rfl, fun _ _ _ => rfl⟩
theorem qk_c2.tr {M1 M2 : qk_T} (a : qk_c2 M M1) (b : qk_c2 M1 M2) : qk_c2 M M2 := ⟨b.1.trans a.1, fun j h0 h14 => (b.2 j h0 h14).trans (a.2 j h0 h14)⟩
theorem qk_c2.up {i : Nat} {x : Int32} : qk_c2 M (qk_sA M 0 i x) := ⟨rfl, fun j hj _ => qk_sAn hj⟩
theorem qk_c2.up14 {i : Nat} {x : Int32} : qk_c2 M (qk_sA M 14 i x) := ⟨rfl, fun j _ hj => qk_sAn hj⟩
theorem qk_c2.ch {M1 : qk_T} {P0 : Nat → Prop} (c : qk_ch M M1 P0) : qk_c2 M M1 := ⟨c.1, fun j hj _ => c.2.1 j hj⟩
/-- a clause's section changed -/
theorem qk_c.sec {g g1 : Nat → Int32} {A : qa_C} {i : Nat} {s : Int32} (hc : qk_c (qk_row g i) A) (h1 : g1 (13 + 42 * i + 1) = s) (lo : ∀ w, w ≠ 1 → g1 (13 + 42 * i + w) = g (13 + 42 * i + w)) : qk_c (qk_row g1 i) ((qa_id A, s, qa_beg A, qa_sun A), A.2) := by
  obtain ⟨⟨a0, a1, a2, a3⟩, ⟨a4, a5⟩, ⟨a6, a7⟩, a8⟩ := hc
  have ne : ∀ w, w ≠ 1 → qk_row g1 i w = qk_row g i w := fun w hw => lo w hw
  refine ⟨⟨(ne 0 (by omega)).trans a0, h1, (ne 2 (by omega)).trans a2, (ne 3 (by omega)).trans a3⟩, ⟨(ne 4 (by omega)).trans a4, fun j hj => ?_⟩, ⟨(ne 37 (by omega)).trans a6, fun j hj => (ne (38 + j) (by omega)).trans (a7 j hj)⟩, a8⟩
  obtain ⟨b1, b2, b3⟩ := a5 j hj
  refine ⟨(ne _ (by omega)).trans b1, (ne _ (by omega)).trans b2, fun q hq => ?_⟩
  rw [ne _ (by omega)]
  exact b3 q hq
/-- its last version alone -/
theorem qk_c.last {g g1 : Nat → Int32} {A : qa_C} {i v : Nat} (hc : qk_c (qk_row g i) A) (hv : (qa_vs A).length = v + 1) (h4 : g1 (13 + 42 * i + 4) = 1) (h5 : ∀ u, u < 4 → g1 (13 + 42 * i + (5 + u)) = g (13 + 42 * i + (5 + 4 * v + u))) (lo : ∀ w, w < 42 → (w < 4 ∨ 9 ≤ w) → g1 (13 + 42 * i + w) = g (13 + 42 * i + w)) : qk_c (qk_row g1 i) (qa_last A) := by
  obtain ⟨⟨a0, a1, a2, a3⟩, ⟨a4, a5⟩, ⟨a6, a7⟩, a8⟩ := hc
  have hV := a5 v (by omega)
  have e : (qa_vs A).getLast?.toList = [(qa_vs A)[v]'(by omega)] := by
    rw [List.getLast?_eq_getElem?, show (qa_vs A).length - 1 = v by omega, List.getElem?_eq_getElem (by omega)]
    rfl
  have h12 := a8.1.2.2 _ (List.getElem_mem (show v < (qa_vs A).length by omega))
  have c4 := a8.2.1
  unfold qa_last
  rw [e]
  refine ⟨⟨(lo 0 (by omega) (by omega)).trans a0, (lo 1 (by omega) (by omega)).trans a1, (lo 2 (by omega) (by omega)).trans a2, (lo 3 (by omega) (by omega)).trans a3⟩, ⟨h4, fun j hj => ?_⟩, ⟨(lo 37 (by omega) (by omega)).trans a6, fun j hj => ?_⟩, ⟨⟨Nat.le_refl _, Nat.le_of_ble_eq_true rfl, fun x hx => ?_⟩, a8.2⟩⟩
  · have hj2 : j < 1 := hj
    obtain rfl : j = 0 := by omega
    obtain ⟨b1, b2, b3⟩ := hV
    refine ⟨(h5 0 (by omega)).trans b1, (h5 1 (by omega)).trans b2, fun q hq => ?_⟩
    have hq2 : q < ((qa_vs A)[v]'(by omega)).2.length := hq
    have h122 := h12.1.2
    have := b3 q hq2
    have e2 : qk_row g1 i (5 + 4 * 0 + 2 + q / 6) = qk_row g i (5 + 4 * v + 2 + q / 6) := by
      have := h5 (2 + q / 6) (by omega)
      show g1 (13 + 42 * i + (5 + 4 * 0 + 2 + q / 6)) = g (13 + 42 * i + (5 + 4 * v + 2 + q / 6))
      rw [show 5 + 4 * 0 + 2 + q / 6 = 5 + (2 + q / 6) by omega, this, show 5 + 4 * v + (2 + q / 6) = 5 + 4 * v + 2 + q / 6 by omega]
    rw [e2]
    exact this
  · have hj2 : j < (qa_ci A).length := hj
    exact (lo (38 + j) (by omega) (by omega)).trans (a7 j hj)
  · have hx2 : x ∈ [(qa_vs A)[v]'(by omega)] := hx
    cases List.mem_singleton.mp hx2
    exact h12
theorem qk_getO {j : Nat} {A : qa_C} (h : Lv[j]? = some A) : ∃ hj : j < Lv.length, Lv[j] = A := List.getElem?_eq_some_iff.mp h
def qa_lc (l : List qa_C) (A : qa_C) : qa_C := qa_last (qa_cut l A)
/-- the last loop: the sections -/
theorem qe_X12_cons170 {e : Nat} (he : e < 2 ^ 29) (hF7 : F 7 = nI e) {Q : Int32 → ql_H → Prop} (hn16 : Lv.length ≤ 16) (kk : ∀ h2 M2, qk_at h2 m M2 → qp_fr m (m + 10) h h2 → qk_c2 M M2 → qk_G (M2.2 0) (Lv.map (qa_fresh Lv), upd F 7 (nI (e + 1)), upd E (e + 1) (F 2)) → Q (nI (e + 1)) h2) : ∀ c k fu hh M3 Z, k + c = Lv.length → c < fu → qk_at hh m M3 → qp_fr m (m + 10) h hh → qk_c2 M M3 → qk_G (M3.2 0) (Z, F, E) → (∀ j : Nat, Z[j]? = if j < k then (Lv[j]?).map (qa_fresh Lv) else (Lv[j]?).map (qa_lc Lv)) → (∀ (j : Nat) A, Lv[j]? = some A → M3.2 14 j = nI (qa_below Lv (qa_sec A) + 1)) → qw_X12_consolidate_170 m Q fu (nI k) hh := by
  intro c
  induction c with
  | zero =>
    intro k fu hh M3 Z hk hfu G f c2 R hZ hN
    obtain ⟨fu, rfl⟩ : ∃ z, fu = z + 1 := ⟨fu - 1, by omega⟩
    have hZe : Z = Lv.map (qa_fresh Lv) := List.ext_getElem? fun j => by
      rw [hZ j, List.getElem?_map]
      by_cases e1 : j < k
      · rw [if_pos e1]
      · rw [if_neg e1, List.getElem?_eq_none (by omega)]
        rfl
    subst hZe
    unfold qw_X12_consolidate_170
    have hl : (Lv.map (qa_fresh Lv)).length = Lv.length := List.length_map _
    rw [qk_rg G, qk_lgx G 0 0, show M3.2 0 0 = nI Lv.length from R.1.2.1.trans (by rw [hl])]
    refine qp_iT (nI_le (by omega) (by omega)) ?_
    have h6 : M3.2 0 6 = nI e := R.1.2.2.2.2.2.2.2.trans hF7
    rw [qk_rg G, qk_rg G, qk_lgx G 6 6, h6]
    refine ⟨by decide, ?_⟩
    rw [qk_rg G, qk_lgx G 2 2, show M3.2 0 2 = F 2 from R.1.2.2.2.1, show (6 : Int32) = nI 6 from rfl, pk_rem (by omega) (by omega) (by omega), show (7 : Int32) = nI 7 from rfl, nI_add]
    refine qk_sg G (by omega) fun h2 H2 f2 => ?_
    rw [qk_rg H2, show nI 6 = (6 : Int32) from rfl, qk_lgx H2 6 6, qk_sAs, pk_un (by omega), h6, nI_1, show (6 : Int32) = nI 6 from rfl]
    refine qk_sg H2 (by omega) fun h3 H3 f3 => ?_
    rw [qk_rg H3, show nI 6 = (6 : Int32) from rfl, qk_lgx H3 6 6, qk_sAs, pk_us]
    refine kk h3 _ H3 (f.tr (f2.tr f3)) (c2.tr (qk_c2.up.tr qk_c2.up)) ?_
    obtain ⟨⟨c0, c1, c2, c3, c4, c5, c6, c7⟩, d, e3⟩ := R
    have w : ∀ x, x ≠ 6 → x ≠ 7 + e % 6 → (qk_sA (qk_sA M3 0 (7 + e % 6) (F 2)) 0 6 (nI (e + 1))).2 0 x = M3.2 0 x := fun x h6 h7 => by
      rw [qk_sAs, pk_un h6, qk_sAs, pk_un h7]
    refine ⟨⟨c0, (w 0 (by omega) (by omega)).trans c1, (w 1 (by omega) (by omega)).trans c2, (w 2 (by omega) (by omega)).trans c3, (w 3 (by omega) (by omega)).trans c4, (w 4 (by omega) (by omega)).trans c5, (w 5 (by omega) (by omega)).trans c6, ?_⟩, fun x hx hh t t1 t2 t3 => ?_, fun q hq => (e3 q hq).eq fun x hx => w _ (by omega) (by omega)⟩
    · rw [qk_sAs, pk_us]
      rfl
    · have hh2 : upd F 7 (nI (e + 1)) 7 = nI x := hh
      rw [pk_us] at hh2
      have e5 := (nI_eq (by omega) (by omega)).mp hh2
      subst e5
      show (qk_sA (qk_sA M3 0 (7 + e % 6) (F 2)) 0 6 (nI (e + 1))).2 0 (7 + (t - 1) % 6) = upd E (e + 1) (F 2) t
      by_cases e6 : t = e + 1
      · subst e6
        rw [pk_us, qk_sAs, pk_un (by omega), qk_sAs, show e + 1 - 1 = e by omega, pk_us]
      · rw [pk_un e6, w _ (by omega) (by omega)]
        exact d e (by omega) hF7 t t1 (by omega) (by omega)
  | succ c ih =>
    intro k fu hh M3 Z hk hfu G f c2 R hZ hN
    obtain ⟨fu, rfl⟩ : ∃ z, fu = z + 1 := ⟨fu - 1, by omega⟩
    have hZl : Z.length = Lv.length := by
      rcases Nat.lt_trichotomy Z.length Lv.length with z | z | z
      · have := hZ Z.length
        rw [List.getElem?_eq_none (Nat.le_refl _), List.getElem?_eq_getElem z] at this
        split at this <;> cases this
      · exact z
      · have := hZ Lv.length
        rw [List.getElem?_eq_getElem z, List.getElem?_eq_none (Nat.le_refl _)] at this
        split at this <;> cases this
    unfold qw_X12_consolidate_170
    rw [qk_rg G, qk_lgx G 0 0, show M3.2 0 0 = nI Lv.length from R.1.2.1.trans (by rw [← hZl])]
    refine qp_iF (nI_ge (by omega) (by omega)) ?_
    have hk2 : k < Lv.length := by omega
    have hkz : k < Z.length := by omega
    have hA := hZ k
    rw [List.getElem?_eq_getElem hkz, if_neg (Nat.lt_irrefl k), List.getElem?_eq_getElem hk2, Option.map_some] at hA
    have hA2 : Z[k] = qa_lc Lv Lv[k] := Option.some.inj hA
    rw [qk_ru G, qk_lu G (by omega), hN k _ (List.getElem?_eq_getElem hk2), qk_rv G]
    refine qe_X12_lays G (w := 1) (by omega) (by omega) fun h2 H2 f2 => ?_
    rw [nI_1]
    refine ih (k + 1) fu h2 _ (Z.set k (qa_fresh Lv Lv[k])) (by omega) (by omega) H2 (f.tr f2) (c2.tr qk_c2.up) ?_ (fun j => ?_) (fun j A hj => by rw [qk_sAn (by omega)]; exact hN j A hj)
    · refine R.set (L := (Z, F, E)) hkz (fun x hx => by rw [qk_sAs, pk_un (by omega)]) ?_
      have hc : qk_c (qk_row (M3.2 0) k) Z[k] := R.2.2 k hkz
      rw [hA2] at hc
      exact hc.sec (s := nI (qa_below Lv (qa_sec Lv[k]) + 1)) (by rw [qk_sAs, pk_us]) (fun w hw => by rw [qk_sAs, pk_un (by omega)])
    · rw [List.getElem?_set]
      by_cases e1 : k = j
      · subst e1
        rw [if_pos rfl, if_pos hkz, if_pos (Nat.lt_succ_self k), List.getElem?_eq_getElem hk2, Option.map_some]
      · rw [if_neg e1, hZ j]
        by_cases e2 : j < k
        · rw [if_pos e2, if_pos (by omega)]
        · rw [if_neg e2, if_neg (by omega)]
/-- the middle loop: cites, numbers, versions -/
theorem qe_X12_cons55 {Q : Int32 → ql_H → Prop} (hn16 : Lv.length ≤ 16) (kk : ∀ hh M3, qk_at hh m M3 → qp_fr m (m + 10) h hh → qk_c2 M M3 → qk_G (M3.2 0) (Lv.map (qa_lc Lv), F, E) → (∀ (j : Nat) A, Lv[j]? = some A → M3.2 14 j = nI (qa_below Lv (qa_sec A) + 1)) → qw_X12_consolidate_170 m Q ql_FU (nI 0) hh) : ∀ c k fu hh M3 Z, k + c = Lv.length → c < fu → qk_at hh m M3 → qp_fr m (m + 10) h hh → qk_c2 M M3 → qk_G (M3.2 0) (Z, F, E) → (∀ j : Nat, Z[j]? = if j < k then (Lv[j]?).map (qa_lc Lv) else Lv[j]?) → (∀ (j : Nat) A, j < k → Lv[j]? = some A → M3.2 14 j = nI (qa_below Lv (qa_sec A) + 1)) → qw_X12_consolidate_55 m Q fu (nI k) hh := by
  intro c
  induction c with
  | zero =>
    intro k fu hh M3 Z hk hfu G f c2 R hZ hN
    obtain ⟨fu, rfl⟩ : ∃ z, fu = z + 1 := ⟨fu - 1, by omega⟩
    have hZe : Z = Lv.map (qa_lc Lv) := List.ext_getElem? fun j => by
      rw [hZ j, List.getElem?_map]
      by_cases e1 : j < k
      · rw [if_pos e1]
      · rw [if_neg e1, List.getElem?_eq_none (by omega)]
        rfl
    subst hZe
    unfold qw_X12_consolidate_55
    have hl : (Lv.map (qa_lc Lv)).length = Lv.length := List.length_map _
    rw [qk_rg G, qk_lgx G 0 0, show M3.2 0 0 = nI Lv.length from R.1.2.1.trans (by rw [hl])]
    exact qp_iT (nI_le (by omega) (by omega)) (kk hh M3 G f c2 R fun j A hj => hN j A (by obtain ⟨h2, _⟩ := qk_getO hj; omega) hj)
  | succ c ih =>
    intro k fu hh M3 Z hk hfu G f c2 R hZ hN
    obtain ⟨fu, rfl⟩ : ∃ z, fu = z + 1 := ⟨fu - 1, by omega⟩
    have hZl : Z.length = Lv.length := by
      rcases Nat.lt_trichotomy Z.length Lv.length with z | z | z
      · have := hZ Z.length
        rw [List.getElem?_eq_none (Nat.le_refl _), List.getElem?_eq_getElem z] at this
        split at this <;> cases this
      · exact z
      · have := hZ Lv.length
        rw [List.getElem?_eq_getElem z, List.getElem?_eq_none (Nat.le_refl _)] at this
        split at this <;> cases this
    have hk2 : k < Lv.length := by omega
    have hkz : k < Z.length := by omega
    have hA := hZ k
    rw [List.getElem?_eq_getElem hkz, if_neg (Nat.lt_irrefl k), List.getElem?_eq_getElem hk2] at hA
    have hA2 : Z[k] = Lv[k] := Option.some.inj hA
    obtain ⟨A, hAe⟩ : ∃ A, A = Lv[k] := ⟨_, rfl⟩
    rw [← hAe] at hA2
    have hLk : Lv[k]? = some A := by rw [List.getElem?_eq_getElem hk2, hAe]
    have idZ : ∀ B : qa_C, qa_id B = qa_id A → (Z.set k B).map qa_id = Lv.map qa_id := fun B hB => List.ext_getElem? fun j => by
      rw [List.getElem?_map, List.getElem?_map, List.getElem?_set]
      by_cases e1 : k = j
      · subst e1
        rw [if_pos rfl, if_pos hkz, hLk, Option.map_some, Option.map_some, hB]
      · rw [if_neg e1, hZ j]
        split
        · cases Lv[j]? <;> rfl
        · rfl
    have scZ : ∀ B : qa_C, qa_sec B = qa_sec A → (Z.set k B).map qa_sec = Lv.map qa_sec := fun B hB => List.ext_getElem? fun j => by
      rw [List.getElem?_map, List.getElem?_map, List.getElem?_set]
      by_cases e1 : k = j
      · subst e1
        rw [if_pos rfl, if_pos hkz, hLk, Option.map_some, Option.map_some, hB]
      · rw [if_neg e1, hZ j]
        split
        · cases Lv[j]? <;> rfl
        · rfl
    have hc0 : qk_c (qk_row (M3.2 0) k) A := hA2 ▸ R.2.2 k hkz
    have hci := hc0.2.2.2.2.1
    unfold qw_X12_consolidate_55
    rw [qk_rg G, qk_lgx G 0 0, show M3.2 0 0 = nI Lv.length from R.1.2.1.trans (by rw [← hZl])]
    refine qp_iF (nI_ge (by omega) (by omega)) ?_
    rw [qk_rv G]
    refine qe_X12_of G (w := 37) (by omega) (by omega) ?_
    rw [show M3.2 0 (13 + 42 * k + 37) = nI (qa_ci A).length from hc0.2.2.1.1]
    -- the cites
    have inner : ∀ p fu2 h2 M4 (x : Int32), x = nI p - 1 → p ≤ (qa_ci A).length → p < fu2 → qk_at h2 m M4 → qp_fr m (m + 10) h h2 → qk_c2 M M4 → M4.2 14 = M3.2 14 → qk_G (M4.2 0) (Z.set k (qa_cutp Lv p A), F, E) → qw_X12_consolidate_75 m Q (qw_X12_consolidate_55 m Q fu) fu2 (nI k) x h2 := by
      intro p
      induction p with
      | zero =>
        intro fu2 h2 M4 x hx hp hfu2 G4 f4 c4 e14 R4
        subst hx
        obtain ⟨fu2, rfl⟩ : ∃ z, fu2 = z + 1 := ⟨fu2 - 1, by omega⟩
        rw [qa_cut0] at R4
        have hks : k < (Z.set k (qa_cut Lv A)).length := by rw [List.length_set]; exact hkz
        have hself : (Z.set k (qa_cut Lv A))[k] = qa_cut Lv A := List.getElem_set_self hks
        unfold qw_X12_consolidate_75
        refine qp_iT (by decide) ?_
        rw [qk_ru G4, qk_rv G4]
        refine qe_X12_sectionsBefore (L := (Z.set k (qa_cut Lv A), F, E)) G4 R4 hks ?_
        have hb : qa_below (Z.set k (qa_cut Lv A)) (qa_sec (Z.set k (qa_cut Lv A))[k]) = qa_below Lv (qa_sec A) := by
          rw [hself, qa_below_map (scZ (qa_cut Lv A) rfl)]
          rfl
        show ql_sI h2 (some (m + 7)) 0 (nI k) (nI (qa_below (Z.set k (qa_cut Lv A)) (qa_sec (Z.set k (qa_cut Lv A))[k])) + 1) _
        rw [hb, nI_1]
        refine qk_su G4 (by omega) fun h5 H5 f5 => ?_
        have hc : qk_c (qk_row (M4.2 0) k) (qa_cut Lv A) := hself ▸ R4.2.2 k hks
        have v1 := hc.2.2.2.1.1
        have v8 := hc.2.2.2.1.2.1
        obtain ⟨v, hv⟩ : ∃ v, (qa_vs (qa_cut Lv A)).length = v + 1 := ⟨(qa_vs (qa_cut Lv A)).length - 1, by omega⟩
        have g0 : ∀ j, j ≠ 14 → (qk_sA M4 14 k (nI (qa_below Lv (qa_sec A) + 1))).2 j = M4.2 j := fun j hj => qk_sAn hj
        rw [qk_rv H5]
        refine qe_X12_lastVersion H5 (v := v) (by omega) (by rw [g0 0 (by omega)]; exact hc.2.1.1.trans (by rw [hv])) ?_
        have hL : ∀ c u fu3 h6 M6, u + c = 4 → c < fu3 → qk_at h6 m M6 → qp_fr m (m + 10) h h6 → qk_c2 M M6 → M6.2 14 = (qk_sA M4 14 k (nI (qa_below Lv (qa_sec A) + 1))).2 14 → (∀ x, M6.2 0 x = if 13 + 42 * k + 5 ≤ x ∧ x < 13 + 42 * k + 5 + u then M4.2 0 (x + 4 * v) else M4.2 0 x) → qw_X12_consolidate_128 m Q (qw_X12_consolidate_55 m Q fu) fu3 (nI k) (nI (5 + 4 * v)) (nI u) h6 := by
          intro c2'
          induction c2' with
          | zero =>
            intro u fu3 h6 M6 hu hfu3 G6 f6 c6 e146 e6
            obtain ⟨fu3, rfl⟩ : ∃ z, fu3 = z + 1 := ⟨fu3 - 1, by omega⟩
            obtain rfl : u = 4 := by omega
            unfold qw_X12_consolidate_128
            refine qp_iT (nI_le (a := 4) (Nat.le_refl _) (by omega)) ?_
            rw [qk_rv G6]
            refine qe_X12_lays G6 (w := 4) (by omega) (by omega) fun h7 H7 f7 => ?_
            rw [nI_1]
            refine ih (k + 1) fu h7 _ (Z.set k (qa_lc Lv A)) (by omega) (by omega) H7 (f6.tr f7) (c6.tr qk_c2.up) ?_ (fun j => ?_) (fun j B hj hjB => ?_)
            · have := R4.set (L := (Z.set k (qa_cut Lv A), F, E)) (g1 := (qk_sA M6 0 (13 + 42 * k + 4) 1).2 0) (A := qa_lc Lv A) hks (fun x hx => ?_) ?_
              · have e9 : (Z.set k (qa_cut Lv A)).set k (qa_lc Lv A) = Z.set k (qa_lc Lv A) := List.set_set ..
                rw [← e9]
                exact this
              · rw [qk_sAs, pk_un (by omega), e6, if_neg (by omega)]
              · refine hc.last (v := v) hv (by rw [qk_sAs, pk_us]) (fun u hu => ?_) (fun w w1 w2 => ?_)
                · rw [qk_sAs, pk_un (by omega), e6, if_pos (by omega), show 13 + 42 * k + (5 + u) + 4 * v = 13 + 42 * k + (5 + 4 * v + u) by omega]
                · rw [qk_sAs, pk_un (by omega), e6, if_neg (by omega)]
            · rw [List.getElem?_set]
              by_cases e1 : k = j
              · subst e1
                rw [if_pos rfl, if_pos hkz, if_pos (Nat.lt_succ_self k), hLk, Option.map_some]
              · rw [if_neg e1, hZ j]
                by_cases e2 : j < k
                · rw [if_pos e2, if_pos (by omega)]
                · rw [if_neg e2, if_neg (by omega)]
            · rw [qk_sAn (by omega), e146, qk_sAs]
              by_cases e1 : j = k
              · subst e1
                rw [hLk] at hjB
                cases hjB
                rw [pk_us]
              · rw [pk_un e1, e14]
                exact hN j B (by omega) hjB
          | succ c2' ih2 =>
            intro u fu3 h6 M6 hu hfu3 G6 f6 c6 e146 e6
            obtain ⟨fu3, rfl⟩ : ∃ z, fu3 = z + 1 := ⟨fu3 - 1, by omega⟩
            unfold qw_X12_consolidate_128
            refine qp_iF (nI_ge (a := u) (b := 4) (by omega) (by omega)) ?_
            rw [qk_rv G6, nI_add]
            refine qe_X12_of G6 (by omega) (by omega) ?_
            rw [qk_rv G6, show (5 : Int32) = nI 5 from rfl, nI_add, nI_1]
            refine qe_X12_lays G6 (by omega) (by omega) fun h7 H7 f7 => ?_
            refine ih2 (u + 1) fu3 h7 _ (by omega) (by omega) H7 (f6.tr f7) (c6.tr qk_c2.up) (by rw [qk_sAn (by omega)]; exact e146) fun x => ?_
            rw [qk_sAs]
            by_cases e1 : x = 13 + 42 * k + (5 + u)
            · subst e1
              rw [pk_us, if_pos (by omega), e6]
              by_cases e2 : v = 0
              · subst e2
                rw [if_neg (by omega)]
                congr 1
              · rw [if_neg (by omega), show 13 + 42 * k + (5 + u) + 4 * v = 13 + 42 * k + (5 + 4 * v + u) by omega]
            · rw [pk_un e1, e6]
              by_cases e2 : 13 + 42 * k + 5 ≤ x ∧ x < 13 + 42 * k + 5 + u
              · rw [if_pos e2, if_pos (by omega)]
              · rw [if_neg e2, if_neg (by omega)]
        refine hL 4 0 ql_FU h5 _ rfl (by unfold ql_FU; omega) H5 (f4.tr f5) (c4.tr qk_c2.up14) rfl fun x => ?_
        rw [if_neg (by omega), g0 0 (by omega)]
      | succ p ihp =>
        intro fu2 h2 M4 x hx hp hfu2 G4 f4 c4 e14 R4
        subst hx
        obtain ⟨fu2, rfl⟩ : ∃ z, fu2 = z + 1 := ⟨fu2 - 1, by omega⟩
        have hks : k < (Z.set k (qa_cutp Lv (p + 1) A)).length := by rw [List.length_set]; exact hkz
        have hself : (Z.set k (qa_cutp Lv (p + 1) A))[k] = qa_cutp Lv (p + 1) A := List.getElem_set_self hks
        have hc : qk_c (qk_row (M4.2 0) k) (qa_cutp Lv (p + 1) A) := hself ▸ R4.2.2 k hks
        have hlen : p < (qa_ci (qa_cutp Lv (p + 1) A)).length := by
          show p < ((qa_ci A).take (p + 1) ++ ((qa_ci A).drop (p + 1)).filter fun y => qa_has Lv y).length
          rw [List.length_append, List.length_take]
          omega
        have hget := qa_cutp_get (l := Lv) (show p < (qa_ci A).length by omega) hlen
        unfold qw_X12_consolidate_75 qw_X12_consolidate_101
        rw [nI_pred]
        refine qp_iF (nI_pos (by omega)) ?_
        rw [qk_rv G4, show (38 : Int32) = nI 38 from rfl, nI_add]
        refine qe_X12_of G4 (by omega) (by omega) ?_
        rw [show M4.2 0 (13 + 42 * k + (38 + p)) = (qa_ci A)[p] from (hc.2.2.1.2 p hlen).trans hget, qk_rv G4]
        have hids := qa_has_map (idZ (qa_cutp Lv (p + 1) A) rfl)
        have hdr : (qa_ci A).drop p = (qa_ci A)[p] :: (qa_ci A).drop (p + 1) := List.drop_eq_getElem_cons (by omega)
        have htk : (qa_ci A).take (p + 1) = (qa_ci A).take p ++ [(qa_ci A)[p]] := List.take_succ_eq_append_getElem (by omega)
        refine qe_X12_placeOf (L := (Z.set k (qa_cutp Lv (p + 1) A), F, E)) G4 R4 (fun i2 hi2 e2 _ => ?_) (fun e2 => ?_)
        · have hi3 : i2 < (Z.set k (qa_cutp Lv (p + 1) A)).length := hi2
          have hi4 : i2 < 16 := by rw [List.length_set] at hi3; omega
          refine qp_iT (nI_pos' (by omega)) ?_
          have hh : qa_has Lv (qa_ci A)[p] = true := by
            rw [← hids]
            exact qa_has_iff.mpr ⟨_, List.getElem_mem hi3, e2⟩
          have e7 : qa_cutp Lv p A = qa_cutp Lv (p + 1) A := by
            unfold qa_cutp
            rw [hdr, List.filter_cons, if_pos hh, htk, List.append_assoc]
            rfl
          refine ihp fu2 h2 M4 _ ?_ (by omega) (by omega) G4 f4 c4 e14 (by rw [e7]; exact R4)
          rw [Int32.sub_eq_add_neg]
        · refine qp_iF (by decide) ?_
          have hh : ¬ qa_has Lv (qa_ci A)[p] = true := by
            rw [← hids]
            intro z2
            obtain ⟨D, hD, e3⟩ := qa_has_iff.mp z2
            exact qa_find_none.mp e2 D hD e3
          rw [qk_rv G4]
          refine qe_X12_dropsCite G4 (i := k) (p := p) (n := (qa_ci (qa_cutp Lv (p + 1) A)).length) (by omega) hc.2.2.1.1 hc.2.2.2.2.1 hlen fun h5 M5 H5 f5 ch e37 e38 => ?_
          have e6 : ((qa_cutp Lv (p + 1) A).1, qa_vs (qa_cutp Lv (p + 1) A), (qa_ci (qa_cutp Lv (p + 1) A)).eraseIdx p) = qa_cutp Lv p A := by
            show (A.1, qa_vs A, ((qa_ci A).take (p + 1) ++ ((qa_ci A).drop (p + 1)).filter fun y => qa_has Lv y).eraseIdx p) = _
            unfold qa_cutp
            rw [hdr, List.filter_cons, if_neg hh, htk, List.append_assoc, List.eraseIdx_append_of_length_le (by rw [List.length_take]; omega), List.length_take, Nat.min_eq_left (by omega), Nat.sub_self]
            rfl
          refine ihp fu2 h5 M5 _ (by rw [Int32.sub_eq_add_neg]) (by omega) (by omega) H5 (f4.tr f5) (c4.tr (qk_c2.ch ch)) ((ch.2.1 14 (by omega)).trans e14) ?_
          have := R4.set (L := (Z.set k (qa_cutp Lv (p + 1) A), F, E)) (g1 := M5.2 0) (A := qa_cutp Lv p A) hks (fun x hx => ch.2.2 x (by omega)) ?_
          · have e9 : (Z.set k (qa_cutp Lv (p + 1) A)).set k (qa_cutp Lv p A) = Z.set k (qa_cutp Lv p A) := List.set_set ..
            rw [← e9]
            exact this
          · rw [← e6]
            exact hc.rm hlen (fun w hw => ch.2.2 _ (by omega)) e37 e38
    have e0 : Z.set k (qa_cutp Lv (qa_ci A).length A) = Z := by
      rw [qa_cutn, ← hA2]
      exact List.set_getElem_self hkz
    exact inner (qa_ci A).length ql_FU hh M3 _ rfl (Nat.le_refl _) (by unfold ql_FU; omega) G f c2 rfl (by rw [e0]; exact R)
theorem qe_X12_consolidate (H : qk_at h m M) (R : qk_G (M.2 0) L) (HP : qk_P M P) (hs : ∀ A ∈ L.1, qa_sunok A) {e : Nat} (he : e < 2 ^ 29) (hE : L.2.1 7 = nI e) {Q : Int32 → ql_H → Prop} (k : ∀ h1 M1 x, qk_at h1 m M1 → qp_fr m (m + 10) h h1 → qk_po M M1 P L (qa_cons L) qf_1 x → Q x h1) : qw_X12_consolidate m h Q := by
  have n16 := R.1.1
  unfold qw_X12_consolidate
  rw [qk_rg H, qk_rv H]
  refine qe_X12_keeps H (P := P) (L := L) HP R fun h2 M2 H2 f2 hP2 h72 e12' e22 => ?_
  have R2 : qk_G (M2.2 0) L := by rw [e22 0 (by omega)]; exact R
  rw [qk_rg H2, qk_lgx H2 0 0, qk_len R2]
  have hlv : (qa_live L).length ≤ L.1.length := List.length_filter_le ..
  -- the first loop: who has lapsed goes
  have hL : ∀ c fu hh M3 (x : Int32), x = nI c - 1 → c ≤ L.1.length → c < fu → qk_at hh m M3 → qp_fr m (m + 10) h hh → qk_c2 M2 M3 → qk_G (M3.2 0) (L.1.take c ++ (L.1.drop c).filter (fun A => !qa_laps A (L.2.1 2)), upd L.2.1 6 (L.2.1 6 + nI ((L.1.drop c).countP fun A => qa_laps A (L.2.1 2))), L.2.2) → qw_X12_consolidate_17 m Q fu x hh := by
    intro c
    induction c with
    | zero =>
      intro fu hh M3 x hx hc hfu G f c2 R3
      subst hx
      obtain ⟨fu, rfl⟩ : ∃ z, fu = z + 1 := ⟨fu - 1, by omega⟩
      unfold qw_X12_consolidate_17
      refine qp_iT (by decide) ?_
      rw [List.take_zero, List.drop_zero, List.nil_append] at R3
      refine qe_X12_cons55 (h := h) (M := M2) (Lv := qa_live L) (F := upd L.2.1 6 (L.2.1 6 + nI (qa_over L))) (E := L.2.2) (by omega) (fun h4 M4 G4 f4 c4 R4 hN => ?_) (qa_live L).length 0 ql_FU hh M3 (qa_live L) (Nat.zero_add _) (by unfold ql_FU; omega) G f c2 R3 (fun j => by rw [if_neg (Nat.not_lt_zero j)]) (fun j A hj => absurd hj (Nat.not_lt_zero j))
      refine qe_X12_cons170 (h := h) (M := M2) (Lv := qa_live L) (F := upd L.2.1 6 (L.2.1 6 + nI (qa_over L))) (E := L.2.2) he (hE : upd L.2.1 6 (L.2.1 6 + nI (qa_over L)) 7 = nI e) (by omega) (fun h5 M5 G5 f5 c5 R5 => ?_) (qa_live L).length 0 ql_FU h4 M4 _ (Nat.zero_add _) (by unfold ql_FU; omega) G4 f4 c4 R4 (fun j => by rw [if_neg (Nat.not_lt_zero j), List.getElem?_map]) hN
      have eq : qa_cons L = (nI (e + 1), (qa_live L).map (qa_fresh (qa_live L)), upd (upd L.2.1 6 (L.2.1 6 + nI (qa_over L))) 7 (nI (e + 1)), upd L.2.2 (e + 1) (L.2.1 2)) := by
        unfold qa_cons
        rw [hE, nI_1, nI_clamp (by omega)]
      refine k h5 M5 _ G5 f5 ?_
      rw [eq]
      exact qk_po.done (M1 := M2) R5 hP2 h72 e12' e22 c5.1 (fun z hz => c5.2 z (by omega) (by omega)) (nI_pos (by omega)) rfl
    | succ c ih =>
      intro fu hh M3 x hx hc hfu G f c2 R3
      subst hx
      obtain ⟨fu, rfl⟩ : ∃ z, fu = z + 1 := ⟨fu - 1, by omega⟩
      unfold qw_X12_consolidate_17 qw_X12_consolidate_47
      rw [nI_pred]
      refine qp_iF (nI_pos (by omega)) ?_
      have hc2 : c < L.1.length := by omega
      have htl : (L.1.take c).length = c := by rw [List.length_take]; omega
      have hdr : L.1.drop c = L.1[c] :: L.1.drop (c + 1) := List.drop_eq_getElem_cons hc2
      have htk : L.1.take (c + 1) = L.1.take c ++ [L.1[c]] := List.take_succ_eq_append_getElem hc2
      obtain ⟨Y, hY⟩ : ∃ Y, Y = L.1.take (c + 1) ++ (L.1.drop (c + 1)).filter (fun A => !qa_laps A (L.2.1 2)) := ⟨_, rfl⟩
      have hY2 : Y = L.1.take c ++ (L.1[c] :: (L.1.drop (c + 1)).filter (fun A => !qa_laps A (L.2.1 2))) := by
        rw [hY, htk, List.append_assoc]
        rfl
      rw [← hY] at R3
      have hcY : c < Y.length := by
        rw [hY2, List.length_append, htl, List.length_cons]
        omega
      have hgY : Y[c] = L.1[c] := by
        have : Y[c]? = some L.1[c] := by
          rw [hY2, List.getElem?_append_right (by omega), htl, Nat.sub_self, List.getElem?_cons_zero]
        rw [List.getElem?_eq_getElem hcY] at this
        exact Option.some.inj this
      have hsY : qa_sunok Y[c] := by
        rw [hgY]
        exact hs _ (List.getElem_mem hc2)
      rw [qk_rv G]
      refine qe_X12_isOver (L := (Y, upd L.2.1 6 (L.2.1 6 + nI ((L.1.drop (c + 1)).countP fun A => qa_laps A (L.2.1 2))), L.2.2)) G R3 hcY hsY ?_
      show if qp_b (qa_laps Y[c] (L.2.1 2)) = 0 then _ else _
      rw [hgY, show nI c + (-1 : Int32) = nI c - 1 from (Int32.sub_eq_add_neg _ _).symm]
      cases el : qa_laps L.1[c] (L.2.1 2) with
      | false =>
        refine qp_iT rfl (ih fu hh M3 _ rfl (by omega) (by omega) G f c2 ?_)
        rw [hdr, List.filter_cons, if_pos (by rw [el]; rfl), List.countP_cons, if_neg (by rw [el]; decide), ← hY2]
        exact R3
      | true =>
        refine qp_iF qp_1 ?_
        have hYl : Y.length ≤ 16 := R3.1.1
        rw [qk_rv G]
        refine qe_X12_drops G (p := c) (n := Y.length) R3.1.2.1 hcY hYl fun h5 M5 H5 f5 a1 a2 a3 a4 a5 => ?_
        have R5 := R3.drop (L := (Y, upd L.2.1 6 (L.2.1 6 + nI ((L.1.drop (c + 1)).countP fun A => qa_laps A (L.2.1 2))), L.2.2)) hcY a3 a4 a5
        have hYe : Y.eraseIdx c = L.1.take c ++ (L.1.drop (c + 1)).filter (fun A => !qa_laps A (L.2.1 2)) := by
          rw [hY2, List.eraseIdx_append_of_length_le (by omega), htl, Nat.sub_self]
          rfl
        have g5 : M5.2 0 5 = L.2.1 6 + nI ((L.1.drop (c + 1)).countP fun A => qa_laps A (L.2.1 2)) := R5.1.2.2.2.2.2.2.1
        rw [qk_rg H5, qk_lgx H5 5 5, g5, show (5 : Int32) = nI 5 from rfl]
        refine qk_sg H5 (by omega) fun h6 H6 f6 => ?_
        refine ih fu h6 _ _ rfl (by omega) (by omega) H6 (f.tr (f5.tr f6)) (c2.tr (qk_c2.tr (show qk_c2 M3 M5 from ⟨a1, fun j h0 _ => a2 j h0⟩) qk_c2.up)) ?_
        rw [hdr, List.filter_cons, if_neg (by rw [el]; decide), List.countP_cons, if_pos el, ← hYe]
        obtain ⟨⟨c0, c1, c2', c3, c4, c5, c6, c7⟩, d, e3⟩ := R5
        have w : ∀ x, x ≠ 5 → (qk_sA M5 0 5 (L.2.1 6 + nI ((L.1.drop (c + 1)).countP fun A => qa_laps A (L.2.1 2)) + 1)).2 0 x = M5.2 0 x := fun x hx => by rw [qk_sAs, pk_un hx]
        refine ⟨⟨c0, (w 0 (by omega)).trans c1, (w 1 (by omega)).trans c2', (w 2 (by omega)).trans c3, (w 3 (by omega)).trans c4, (w 4 (by omega)).trans c5, ?_, (w 6 (by omega)).trans c7⟩, fun x hx hh t t1 t2 t3 => (w _ (by omega)).trans (d x hx hh t t1 t2 t3), fun q hq => (e3 q hq).eq fun x hx => w _ (by omega)⟩
        rw [qk_sAs, pk_us, Int32.add_assoc, nI_1]
        rfl
  refine hL L.1.length ql_FU h2 M2 _ rfl (Nat.le_refl _) (by unfold ql_FU; omega) H2 f2 qk_c2.rf ?_
  rw [List.take_length, List.drop_length]
  show qk_G (M2.2 0) (L.1 ++ [], upd L.2.1 6 (L.2.1 6 + nI 0), L.2.2)
  rw [List.append_nil, nI_0, Int32.add_zero, show upd L.2.1 6 (L.2.1 6) = L.2.1 from by
    funext j
    by_cases e1 : j = 6
    · rw [e1, pk_us]
    · rw [pk_un e1]]
  exact R2
end QK9
