/-! The reference's changes of one clause. -/
section QK4
variable {h h1 : ql_H} {m : Nat} {M : qk_T} {L : qa_L}
/-- within row i, or place 3 (how many amendments) -/
def qk_in (i : Nat) (x : Nat) : Prop := x = 3 ∨ (13 + 42 * i ≤ x ∧ x < 13 + 42 * i + 42)
theorem qt_gl {α : Type} {l l1 l2 : List α} (e : l = l1 ++ l2) {q : Nat} (h : q < l.length) (h1 : q < l1.length) : l[q] = l1[q] := by
  subst e
  exact List.getElem_append_left h1
theorem qt_gm {α β : Type} {l : List β} {l0 : List α} {f : α → β} (e : l = l0.map f) {q : Nat} (h : q < l.length) (h1 : q < l0.length) : l[q] = f l0[q] := by
  subst e
  exact List.getElem_map f
theorem qt_g1 {α : Type} {l l1 : List α} {x : α} (e : l = l1 ++ [x]) {q : Nat} (h : q < l.length) (h1 : q = l1.length) : l[q] = x := by
  subst e
  subst h1
  rw [List.getElem_append_right (Nat.le_refl _)]
  simp only [Nat.sub_self, List.getElem_cons_zero]
theorem qa_upd_len {l : List qa_C} {x : Int32} {f : qa_C → qa_C} : (qa_upd l x f).length = l.length := List.length_map _
theorem qa_upd_get {l : List qa_C} (hd : (l.map qa_id).Pairwise (· < ·)) {i : Nat} (hi : i < l.length) {f : qa_C → qa_C} {k : Nat} (hk : k < (qa_upd l (qa_id l[i]) f).length) : (qa_upd l (qa_id l[i]) f)[k] = if k = i then f l[i] else l[k]'(by rw [qa_upd_len] at hk; exact hk) := by
  have hk2 : k < l.length := by rw [qa_upd_len] at hk; exact hk
  rw [qt_gm (l := qa_upd l (qa_id l[i]) f) rfl hk hk2]
  by_cases e : k = i
  · subst e
    rw [if_pos rfl, if_pos (beq_self_eq_true _)]
  · rw [if_neg e, if_neg]
    rw [beq_iff_eq]
    rw [List.pairwise_map, List.pairwise_iff_getElem] at hd
    intro z
    rcases Nat.lt_or_gt_of_ne e with q | q
    · have := hd k i hk2 hi q
      rw [z] at this
      exact Int32.lt_irrefl this
    · have := hd i k hi hk2 q
      rw [z] at this
      exact Int32.lt_irrefl this
/-- one clause's row changed -/
theorem qk_G.row {g g1 : Nat → Int32} (R : qk_G g L) (hd : (L.1.map qa_id).Pairwise (· < ·)) {i : Nat} (hi : i < L.1.length) {f : qa_C → qa_C} {F : Nat → Int32} (lo : ∀ x, ¬ qk_in i x → g1 x = g x) (h3 : g1 3 = F 4) (hF : ∀ j, j ≠ 4 → F j = L.2.1 j) (hc : qk_c (qk_row g1 i) (f L.1[i])) : qk_G g1 (qa_upd L.1 (qa_id L.1[i]) f, F, L.2.2) := by
  obtain ⟨⟨a0, a1, a2, a3, a4, a5, a6, a7⟩, b, c⟩ := R
  have w : ∀ x, x < 13 → x ≠ 3 → g1 x = g x := fun x h1 h2 => lo x fun z => by
    rcases z with z | z <;> omega
  refine ⟨⟨?_, ?_, ?_, ?_, h3, ?_, ?_, ?_⟩, fun e he hh t t1 t2 t3 => ?_, fun k hk => ?_⟩
  · show (qa_upd L.1 _ f).length ≤ 16
    rw [qa_upd_len]
    exact a0
  · show g1 0 = nI (qa_upd L.1 _ f).length
    rw [qa_upd_len, w 0 (by omega) (by omega)]
    exact a1
  · show g1 1 = F 3
    rw [w 1 (by omega) (by omega), hF 3 (by omega)]
    exact a2
  · show g1 2 = F 2
    rw [w 2 (by omega) (by omega), hF 2 (by omega)]
    exact a3
  · show g1 4 = F 5
    rw [w 4 (by omega) (by omega), hF 5 (by omega)]
    exact a5
  · show g1 5 = F 6
    rw [w 5 (by omega) (by omega), hF 6 (by omega)]
    exact a6
  · show g1 6 = F 7
    rw [w 6 (by omega) (by omega), hF 7 (by omega)]
    exact a7
  · rw [w _ (by omega) (by omega)]
    rw [show (qa_upd L.1 (qa_id L.1[i]) f, F, L.2.2).2.1 7 = L.2.1 7 from hF 7 (by omega)] at hh
    exact b e he hh t t1 t2 t3
  · have hk2 : k < L.1.length := by
      have : k < (qa_upd L.1 (qa_id L.1[i]) f).length := hk
      rwa [qa_upd_len] at this
    show qk_c (qk_row g1 k) (qa_upd L.1 (qa_id L.1[i]) f)[k]
    rw [qa_upd_get hd hi]
    by_cases e : k = i
    · subst e
      rw [if_pos rfl]
      exact hc
    · rw [if_neg e]
      exact (c k hk2).eq fun x hx => lo _ fun z => by
        rcases z with z | z <;> omega
/-- a version's day, length and notes at p in a row -/
theorem qk_v.mk {g : Nat → Int32} {b p : Nat} {V : qa_V} {nf : Nat → Nat} (hl : V.2.length ≤ 12) (hd : g (b + p) = V.1) (hn : g (b + p + 1) = nI V.2.length) (ht : qk_tx g (b + (p + 2)) nf) (e : ∀ q (hq : q < V.2.length), V.2[q] = nf q) : qk_v (fun w => g (b + w)) p V := by
  refine ⟨hd, hn, fun q hq => ?_⟩
  show qk_nt (g (b + (p + 2 + q / 6))) (q % 6) = _
  rw [e q hq, ← Nat.add_assoc b (p + 2)]
  exact (ht q (by omega)).2
theorem qe_X12_amends (H : qk_at h m M) (R : qk_G (M.2 0) L) {i v : Nat} (hi : i < L.1.length) (hv : (qa_vs L.1[i]).length = v + 1) (h8 : v < 7) {Q : Int32 → ql_H → Prop} (k : ∀ h1 M1, qk_at h1 m M1 → qp_fr m (m + 10) h h1 → qk_ch M M1 (qk_in i) → M1.2 0 3 = M.2 0 3 + 1 → M1.2 0 (13 + 42 * i + 4) = nI (v + 2) → M1.2 0 (13 + 42 * i + (9 + 4 * v)) = L.2.1 2 → (∀ t, 1 ≤ t → t < 4 → M1.2 0 (13 + 42 * i + (9 + 4 * v + t)) = M.2 0 (13 + 42 * i + (5 + 4 * v + t))) → (∀ w, w < 42 → w ≠ 4 → (w < 9 + 4 * v ∨ 13 + 4 * v ≤ w) → M1.2 0 (13 + 42 * i + w) = M.2 0 (13 + 42 * i + w)) → Q (nI (9 + 4 * v)) h1) : qw_X12_amends m (nI i) h Q := by
  have n16 := R.1.1
  have hc := qk_cl R hi
  have h4 : M.2 0 (13 + 42 * i + 4) = nI (v + 1) := hv ▸ hc.2.1.1
  unfold qw_X12_amends
  rw [qk_rv H]
  refine qe_X12_lastVersion H (by omega) h4 ?_
  rw [qk_rv H]
  refine qe_X12_of H (w := 4) (by omega) (by omega) ?_
  rw [h4, nI_1, qk_rv H]
  refine qe_X12_lays H (w := 4) (by omega) (by omega) fun h2 H2 f2 => ?_
  have g4 : (qk_sA M 0 (13 + 42 * i + 4) (nI (v + 1 + 1))).2 0 (13 + 42 * i + 4) = nI (v + 1 + 1) := by
    rw [qk_sAs, pk_us]
  rw [qk_rv H2]
  refine qe_X12_lastVersion H2 (by omega) g4 ?_
  rw [qk_rg H2, qk_lgx H2 2 2, show (qk_sA M 0 (13 + 42 * i + 4) (nI (v + 1 + 1))).2 0 2 = L.2.1 2 by rw [qk_sAs, pk_un (by omega)]; exact R.1.2.2.2.1, qk_rv H2]
  refine qe_X12_lays H2 (by omega) (by omega) fun h3 H3 f3 => ?_
  have hL : ∀ n t hh M1, 1 ≤ t → t ≤ 4 → 4 - t < n → qk_at hh m M1 → qp_fr m (m + 10) h hh → qk_ch M M1 (qk_in i) → M1.2 0 3 = M.2 0 3 → M1.2 0 (13 + 42 * i + 4) = nI (v + 2) → M1.2 0 (13 + 42 * i + (9 + 4 * v)) = L.2.1 2 → (∀ u, 1 ≤ u → u < t → M1.2 0 (13 + 42 * i + (9 + 4 * v + u)) = M.2 0 (13 + 42 * i + (5 + 4 * v + u))) → (∀ w, w < 42 → w ≠ 4 → (w < 9 + 4 * v ∨ 13 + 4 * v ≤ w) → M1.2 0 (13 + 42 * i + w) = M.2 0 (13 + 42 * i + w)) → qw_X12_amends_41 m Q n (nI i) (nI (5 + 4 * v)) (nI (9 + 4 * v)) (nI t) hh := by
    intro n
    induction n with
    | zero => intro t _ _ _ _ h; omega
    | succ n ih =>
      intro t hh M1 t1 t4 hm G f ch c3 c4 c5 c6 c7
      unfold qw_X12_amends_41
      by_cases e : t = 4
      · subst e
        refine qp_iT (nI_le (a := 4) (Nat.le_refl _) (by omega)) ?_
        rw [qk_rg G, qk_lgx G 3 3, c3, show (3 : Int32) = nI 3 from rfl]
        refine qk_sg G (by omega) fun h5 H5 f5 => ?_
        have ne : ∀ w, 13 + 42 * i + w ≠ 3 := fun w => by omega
        refine k h5 _ H5 (f.tr f5) (ch.tr (qk_ch.up (Or.inl rfl))) ?_ ?_ ?_ (fun u u1 u2 => ?_) fun w w1 w2 w3 => ?_
        · rw [qk_sAs, pk_us]
        · rw [qk_sAs, pk_un (ne _)]
          exact c4
        · rw [qk_sAs, pk_un (ne _)]
          exact c5
        · rw [qk_sAs, pk_un (ne _)]
          exact c6 u u1 u2
        · rw [qk_sAs, pk_un (ne _)]
          exact c7 w w1 w2 w3
      · refine qp_iF (nI_ge (a := t) (b := 4) (by omega) (by omega)) ?_
        rw [qk_rv G, nI_add]
        refine qe_X12_of G (by omega) (by omega) ?_
        rw [c7 _ (by omega) (by omega) (by omega), qk_rv G, nI_add]
        refine qe_X12_lays G (by omega) (by omega) fun h5 H5 f5 => ?_
        rw [nI_1]
        refine ih (t + 1) h5 _ (by omega) (by omega) (by omega) H5 (f.tr f5) (ch.tr (qk_ch.up (Or.inr ⟨by omega, by omega⟩))) ?_ ?_ ?_ (fun u u1 u2 => ?_) fun w w1 w2 w3 => ?_
        · rw [qk_sAs, pk_un (by omega)]
          exact c3
        · rw [qk_sAs, pk_un (by omega)]
          exact c4
        · rw [qk_sAs, pk_un (by omega)]
          exact c5
        · rw [qk_sAs]
          by_cases e2 : u = t
          · subst e2
            rw [pk_us]
          · rw [pk_un (by omega)]
            exact c6 u u1 (by omega)
        · rw [qk_sAs, pk_un (by omega)]
          exact c7 w w1 w2 w3
  have e9 : 5 + 4 * (v + 1) = 9 + 4 * v := by omega
  rw [e9] at H3 ⊢
  refine hL ql_FU 1 h3 _ (Nat.le_refl _) (by omega) (by unfold ql_FU; omega) H3 (f2.tr f3) ((qk_ch.up (Or.inr ⟨by omega, by omega⟩)).tr (qk_ch.up (Or.inr ⟨by omega, by omega⟩))) ?_ ?_ ?_ (fun u u1 u2 => by omega) fun w w1 w2 w3 => ?_
  · rw [qk_sAs, pk_un (by omega), qk_sAs, pk_un (by omega)]
  · rw [qk_sAs, pk_un (by omega)]
    exact g4
  · rw [qk_sAs, pk_us]
  · rw [qk_sAs, pk_un (by omega), qk_sAs, pk_un (by omega)]
/-- the row of a clause that has one version more: what the notes are -/
theorem qk_amended {g g1 : Nat → Int32} {A : qa_C} {i v : Nat} {d : Int32} {t : List Nat} {nf : Nat → Nat} (hc : qk_c (qk_row g i) A) (hv : (qa_vs A).length = v + 1) (h8 : v < 7) (ht : qt_ok t) (h0 : t ≠ []) (h4 : g1 (13 + 42 * i + 4) = nI (v + 2)) (h9 : g1 (13 + 42 * i + (9 + 4 * v)) = d) (hl : g1 (13 + 42 * i + (9 + 4 * v + 1)) = nI t.length) (hx : qk_tx g1 (13 + 42 * i + (9 + 4 * v + 2)) nf) (hn : ∀ q (hq : q < t.length), t[q] = nf q) (ho : ∀ w, w < 42 → w ≠ 4 → (w < 9 + 4 * v ∨ 13 + 4 * v ≤ w) → g1 (13 + 42 * i + w) = g (13 + 42 * i + w)) : qk_c (qk_row g1 i) (A.1, qa_vs A ++ [(d, t)], qa_ci A) := by
  obtain ⟨⟨a0, a1, a2, a3⟩, ⟨a4, a5⟩, ⟨a6, a7⟩, a8⟩ := hc
  have s2 := a8.2.1
  refine ⟨⟨?_, ?_, ?_, ?_⟩, ⟨?_, fun j hj => ?_⟩, ⟨?_, fun j hj => ?_⟩, a8.amend (by omega) ht h0⟩
  · exact (ho 0 (by omega) (by omega) (by omega)).trans a0
  · exact (ho 1 (by omega) (by omega) (by omega)).trans a1
  · exact (ho 2 (by omega) (by omega) (by omega)).trans a2
  · exact (ho 3 (by omega) (by omega) (by omega)).trans a3
  · show g1 (13 + 42 * i + 4) = nI (qa_vs A ++ [(d, t)]).length
    rw [List.length_append, hv]
    exact h4
  · have hj2 : j < (qa_vs A ++ [(d, t)]).length := hj
    have hj3 : j < v + 1 + 1 := by
      have h := hj2
      rw [List.length_append, hv] at h
      exact h
    show qk_v (qk_row g1 i) (5 + 4 * j) (qa_vs A ++ [(d, t)])[j]
    by_cases e : j = v + 1
    · subst e
      rw [qt_g1 (l := qa_vs A ++ [(d, t)]) rfl hj2 hv.symm, show 5 + 4 * (v + 1) = 9 + 4 * v by omega]
      exact qk_v.mk (g := g1) (b := 13 + 42 * i) ht.2 h9 (by rw [Nat.add_assoc]; exact hl) hx hn
    · rw [qt_gl (l := qa_vs A ++ [(d, t)]) rfl hj2 (by omega)]
      obtain ⟨b1, b2, b3⟩ := a5 j (by omega)
      have hq12 := (a8.1.2.2 _ (List.getElem_mem (show j < (qa_vs A).length by omega))).1.2
      refine ⟨(ho _ (by omega) (by omega) (by omega)).trans b1, (ho (5 + 4 * j + 1) (by omega) (by omega) (by omega)).trans b2, fun q hq => ?_⟩
      have := b3 q hq
      have e2 : qk_row g1 i (5 + 4 * j + 2 + q / 6) = qk_row g i (5 + 4 * j + 2 + q / 6) := ho _ (by omega) (by omega) (by omega)
      rw [e2]
      exact this
  · exact (ho 37 (by omega) (by omega) (by omega)).trans a6
  · have hj2 : j < (qa_ci A).length := hj
    exact (ho (38 + j) (by omega) (by omega) (by omega)).trans (a7 j hj)
/-- the copy of the last version's notes -/
theorem qk_last {g : Nat → Int32} {A : qa_C} {i v : Nat} (hc : qk_c (qk_row g i) A) (hv : (qa_vs A).length = v + 1) : g (13 + 42 * i + (5 + 4 * v + 1)) = nI (qa_txt A).length ∧ ∃ nf, qk_tx g (13 + 42 * i + (5 + 4 * v + 2)) nf ∧ ∀ q (hq : q < (qa_txt A).length), (qa_txt A)[q] = nf q := by
  have hV := hc.2.1.2 v (by omega)
  have h12 := (hc.2.2.2.1.2.2 _ (List.getElem_mem (show v < (qa_vs A).length by omega))).1
  rw [qa_txt_get hv]
  refine ⟨hV.2.1, ?_⟩
  obtain ⟨nf, hnf⟩ := qk_tx_ex g (13 + 42 * i + (5 + 4 * v + 2))
  have h13 := h12.2
  refine ⟨nf, hnf, fun q hq => ?_⟩
  have h2 := (hnf q (by omega)).2
  have h3 := (hnf q (by omega)).1
  have h4 := hV.2.2 q hq
  have h5 : qk_nt (g (13 + 42 * i + (5 + 4 * v + 2) + q / 6)) (q % 6) = nI ((qa_vs A)[v]).2[q] := by
    rw [Nat.add_assoc]
    exact h4
  rw [h5] at h2
  have h6 := h12.1 _ (List.getElem_mem hq)
  exact (nI_eq (by omega) (by omega)).mp h2
theorem qt_ins_getO {t : List Nat} {p a : Nat} (hp : p ≤ t.length) (q : Nat) : (qt_ins t p a)[q]? = if q < p then t[q]? else if q = p then some a else t[q - 1]? := by
  unfold qt_ins
  rw [List.getElem?_append, qt_len hp]
  by_cases h : q < p
  · rw [if_pos h, if_pos h, List.getElem?_take, if_pos h]
  · rw [if_neg h, if_neg h]
    by_cases e : q = p
    · rw [if_pos e, e, Nat.sub_self, List.getElem?_cons_zero]
    · rw [if_neg e, show q - p = (q - p - 1) + 1 by omega, List.getElem?_cons_succ, List.getElem?_drop, show p + (q - p - 1) = q - 1 by omega]
theorem qt_del_getO {t : List Nat} {p : Nat} (hp : p ≤ t.length) (q : Nat) : (qt_del t p)[q]? = if q < p then t[q]? else t[q + 1]? := by
  unfold qt_del
  rw [List.getElem?_append, qt_len hp]
  by_cases h : q < p
  · rw [if_pos h, if_pos h, List.getElem?_take, if_pos h]
  · rw [if_neg h, if_neg h, List.getElem?_drop, show p + 1 + (q - p) = q + 1 by omega]
theorem qt_set_getO {t : List Nat} {p a : Nat} (hp : p ≤ t.length) (q : Nat) : (qt_set t p a)[q]? = if q < p then t[q]? else if q = p then some a else t[q]? := by
  unfold qt_set
  rw [List.getElem?_append, qt_len hp]
  by_cases h : q < p
  · rw [if_pos h, if_pos h, List.getElem?_take, if_pos h]
  · rw [if_neg h, if_neg h]
    by_cases e : q = p
    · rw [if_pos e, e, Nat.sub_self, List.getElem?_cons_zero]
    · rw [if_neg e, show q - p = (q - p - 1) + 1 by omega, List.getElem?_cons_succ, List.getElem?_drop, show p + 1 + (q - p - 1) = q by omega]
theorem qt_ins_get {t : List Nat} {p a q : Nat} (hp : p ≤ t.length) (hq : q < (qt_ins t p a).length) : (qt_ins t p a)[q] = if h : q < p then t[q]'(by omega) else if h2 : q = p then a else t[q - 1]'(by rw [qt_ins_len hp] at hq; omega) := by
  have hq2 : q < t.length + 1 := by rw [qt_ins_len hp] at hq; exact hq
  have e := qt_ins_getO (a := a) hp q
  rw [List.getElem?_eq_getElem hq] at e
  by_cases h : q < p
  · rw [if_pos h, List.getElem?_eq_getElem (by omega)] at e
    rw [dif_pos h]
    exact Option.some.inj e
  · rw [if_neg h] at e
    rw [dif_neg h]
    by_cases h2 : q = p
    · rw [if_pos h2] at e
      rw [dif_pos h2]
      exact Option.some.inj e
    · rw [if_neg h2, List.getElem?_eq_getElem (by omega)] at e
      rw [dif_neg h2]
      exact Option.some.inj e
theorem qt_del_get {t : List Nat} {p q : Nat} (hp : p < t.length) (hq : q < (qt_del t p).length) : (qt_del t p)[q] = if h : q < p then t[q]'(by omega) else t[q + 1]'(by rw [qt_del_len hp] at hq; omega) := by
  have hq2 : q < t.length - 1 := by rw [qt_del_len hp] at hq; exact hq
  have e := qt_del_getO (Nat.le_of_lt hp) q
  rw [List.getElem?_eq_getElem hq] at e
  by_cases h : q < p
  · rw [if_pos h, List.getElem?_eq_getElem (by omega)] at e
    rw [dif_pos h]
    exact Option.some.inj e
  · rw [if_neg h, List.getElem?_eq_getElem (by omega)] at e
    rw [dif_neg h]
    exact Option.some.inj e
theorem qt_set_get {t : List Nat} {p a q : Nat} (hp : p < t.length) (hq : q < (qt_set t p a).length) : (qt_set t p a)[q] = if q = p then a else t[q]'(by rw [qt_set_len hp] at hq; exact hq) := by
  have hq2 : q < t.length := by rw [qt_set_len hp] at hq; exact hq
  have e := qt_set_getO (a := a) (Nat.le_of_lt hp) q
  rw [List.getElem?_eq_getElem hq] at e
  by_cases h2 : q = p
  · rw [if_neg (by omega), if_pos h2] at e
    rw [if_pos h2]
    exact Option.some.inj e
  · rw [if_neg h2]
    by_cases h : q < p
    · rw [if_pos h, List.getElem?_eq_getElem hq2] at e
      exact Option.some.inj e
    · rw [if_neg h, if_neg h2, List.getElem?_eq_getElem hq2] at e
      exact Option.some.inj e
end QK4
