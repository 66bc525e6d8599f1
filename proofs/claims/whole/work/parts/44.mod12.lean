/-! The reference: how far apart, pairs, broken cites, who reaches whom, ranks by cites. -/
section QKC
variable {h h1 : ql_H} {m : Nat} {M : qk_T} {L : qa_L}
/-- of M the code is 0 and the row of thirteen may be anything -/
def qk_z (M M1 : qk_T) : Prop := M1.1 7 = 0 ∧ (∀ j, j ≠ 7 → M1.1 j = M.1 j) ∧ ∀ j, j ≠ 15 → M1.2 j = M.2 j
theorem qk_z.up {M1 : qk_T} (z : qk_z M M1) {i : Nat} {x : Int32} : qk_z M (qk_sA M1 15 i x) := ⟨z.1, z.2.1, fun j hj => (qk_sAn hj).trans (z.2.2 j hj)⟩
theorem qk_z.pq {M1 : qk_T} (z : qk_z M M1) {a : Nat × Int32} {x : Int32} (h0 : a.1 = 0) (hx : x = a.2) : qk_pq M M1 a x := ⟨by rw [h0]; exact z.1, z.2.1, z.2.2, fun _ => hx⟩
theorem qk_z.R {M1 : qk_T} (z : qk_z M M1) (R : qk_G (M.2 0) L) : qk_G (M1.2 0) L := by
  rw [z.2.2 0 (by omega)]
  exact R
theorem qk_z0 : qk_z M (qk_sI M 7 0) := ⟨qk_sI_s, fun j hj => qk_sI_n hj, fun _ _ => rfl⟩
theorem qk_vn (R : qk_G (M.2 0) L) {i v q : Nat} (hi : i < L.1.length) (hv : v < (qa_vs L.1[i]).length) (hq : q < ((qa_vs L.1[i])[v]).2.length) : qk_nt (M.2 0 (13 + 42 * i + (5 + 4 * v + 2 + q / 6))) (q % 6) = nI ((qa_vs L.1[i])[v]).2[q] := (((qk_cl R hi).2.1.2 v hv).2.2 q hq)
theorem qe_X12_apart48 {i v w : Nat} (R : qk_G (M.2 0) L) (hi : i < L.1.length) (hv : v < (qa_vs L.1[i]).length) (hw : w < (qa_vs L.1[i]).length) {Q : Int32 → ql_H → Prop} (H : qk_at h m M) {M0 : qk_T} (z0 : qk_z M0 M) (k : ∀ h1 M1, qk_at h1 m M1 → qp_fr m (m + 10) h h1 → qk_z M0 M1 → Q (nI (qa_apart ((qa_vs L.1[i])[v]).2 ((qa_vs L.1[i])[w]).2)) h1) : qw_X12_apart_48 m Q ql_FU (nI i) (nI (5 + 4 * v)) (nI (5 + 4 * w)) (nI 0) h := by
  have n16 := R.1.1
  have v8 := (qk_cl R hi).2.2.2.1.2.1
  obtain ⟨hs, _⟩ := (qk_cl R hi).2.2.2.1.2.2 _ (List.getElem_mem hv)
  obtain ⟨ht, _⟩ := (qk_cl R hi).2.2.2.1.2.2 _ (List.getElem_mem hw)
  have lens := ((qk_cl R hi).2.1.2 v hv).2.1
  have lent := ((qk_cl R hi).2.1.2 w hw).2.1
  have nots := fun q hq => qk_vn R (q := q) hi hv hq
  have nott := fun q hq => qk_vn R (q := q) hi hw hq
  generalize ((qa_vs L.1[i])[v]).2 = s at *
  generalize ((qa_vs L.1[i])[w]).2 = t at *
  have ls := hs.2
  have lt := ht.2
  have d72 : ∀ c a fu hh M1, a + c = s.length → c < fu → qk_at hh m M1 → qp_fr m (m + 10) h hh → qk_z M0 M1 → M1.2 0 = M.2 0 → (∀ j, j ≤ t.length → M1.2 15 j = nI (qd_l s t a j)) → qw_X12_apart_72 m Q fu (nI i) (nI (5 + 4 * v)) (nI (5 + 4 * w)) (nI a) hh := by
    intro c
    induction c with
    | zero =>
      intro a fu hh M1 ha hfu G f z e0 hW
      obtain ⟨fu, rfl⟩ : ∃ z, fu = z + 1 := ⟨fu - 1, by omega⟩
      obtain rfl : a = s.length := by omega
      unfold qw_X12_apart_72
      rw [qk_rv G, nI_1]
      refine qe_X12_of G (by omega) (by omega) ?_
      rw [e0, show M.2 0 (13 + 42 * i + (5 + 4 * v + 1)) = nI s.length from lens]
      refine qp_iT (nI_le (Nat.le_refl _) (by omega)) ?_
      rw [qk_rv G]
      refine qe_X12_of G (by omega) (by omega) ?_
      rw [qk_rv G, nI_1]
      refine qe_X12_of G (by omega) (by omega) ?_
      rw [qk_rw G, qk_rv G]
      refine qe_X12_of G (by omega) (by omega) ?_
      rw [e0, show M.2 0 (13 + 42 * i + (5 + 4 * v + 1)) = nI s.length from lens, show M.2 0 (13 + 42 * i + (5 + 4 * w + 1)) = nI t.length from lent, qk_lw G (by omega), hW _ (Nat.le_refl _)]
      have hB := qd_lB s t s.length t.length
      rw [nI_add, show (2 : Int32) = nI 2 from rfl, pk_mul, pk_sub (by omega)]
      have := k hh M1 G f z
      rwa [show qa_apart s t = s.length + t.length - 2 * qd_l s t s.length t.length by unfold qa_apart; rw [qd_lA]] at this
    | succ c ih =>
      intro a fu hh M1 ha hfu G f z e0 hW
      obtain ⟨fu, rfl⟩ : ∃ z, fu = z + 1 := ⟨fu - 1, by omega⟩
      unfold qw_X12_apart_72
      rw [qk_rv G, nI_1]
      refine qe_X12_of G (by omega) (by omega) ?_
      rw [e0, show M.2 0 (13 + 42 * i + (5 + 4 * v + 1)) = nI s.length from lens]
      refine qp_iF (nI_ge (by omega) (by omega)) ?_
      have ha2 : a < s.length := by omega
      have d93 : ∀ c b fu2 h2 M2, b + c = t.length → c < fu2 → qk_at h2 m M2 → qp_fr m (m + 10) h h2 → qk_z M0 M2 → M2.2 0 = M.2 0 → (∀ j, j ≤ t.length → M2.2 15 j = nI (if j ≤ b then qd_l s t (a + 1) j else qd_l s t a j)) → qw_X12_apart_93 m Q (qw_X12_apart_72 m Q fu) fu2 (nI i) (nI (5 + 4 * v)) (nI (5 + 4 * w)) (nI a) (nI (qd_l s t a b)) (nI b) h2 := by
        intro c
        induction c with
        | zero =>
          intro b fu2 h2 M2 hb hfu2 G2 f2 z2 e2 hW2
          obtain ⟨fu2, rfl⟩ : ∃ z, fu2 = z + 1 := ⟨fu2 - 1, by omega⟩
          obtain rfl : b = t.length := by omega
          unfold qw_X12_apart_93
          rw [qk_rv G2, nI_1, nI_1]
          refine qe_X12_of G2 (by omega) (by omega) ?_
          rw [e2, show M.2 0 (13 + 42 * i + (5 + 4 * w + 1)) = nI t.length from lent]
          refine qp_iT (nI_le (Nat.le_refl _) (by omega)) ?_
          exact ih (a + 1) fu h2 M2 (by omega) (by omega) G2 f2 z2 e2 fun j hj => by
            rw [hW2 j hj, if_pos hj]
        | succ c ih2 =>
          intro b fu2 h2 M2 hb hfu2 G2 f2 z2 e2 hW2
          obtain ⟨fu2, rfl⟩ : ∃ z, fu2 = z + 1 := ⟨fu2 - 1, by omega⟩
          have hb2 : b < t.length := by omega
          unfold qw_X12_apart_93
          rw [qk_rv G2, nI_1, nI_1]
          refine qe_X12_of G2 (by omega) (by omega) ?_
          rw [e2, show M.2 0 (13 + 42 * i + (5 + 4 * w + 1)) = nI t.length from lent]
          refine qp_iF (nI_ge (by omega) (by omega)) ?_
          rw [qk_rw G2, nI_1, qk_lw G2 (by omega), hW2 (b + 1) (by omega), if_neg (by omega), qk_rw G2, qk_rv G2]
          have a1 := hs.1 _ (List.getElem_mem ha2)
          have a2 := ht.1 _ (List.getElem_mem hb2)
          refine qe_X12_note G2 (v := 5 + 4 * v) (q := a) (a := s[a]) (by omega) (by omega) (by omega) (by rw [e2]; exact nots a ha2) ?_
          rw [qk_rv G2]
          refine qe_X12_note G2 (v := 5 + 4 * w) (q := b) (a := t[b]) (by omega) (by omega) (by omega) (by rw [e2]; exact nott b hb2) ?_
          have b0 := qd_lB s t a b
          have b1 := qd_lB s t a (b + 1)
          have b2 := qd_lB s t (a + 1) b
          have step : ∀ x : Nat, x = qd_l s t (a + 1) (b + 1) → qw_X12_apart_169 m Q (qw_X12_apart_93 m Q (qw_X12_apart_72 m Q fu) fu2) (nI i) (nI (5 + 4 * v)) (nI (5 + 4 * w)) (nI a) (nI b) (nI (qd_l s t a (b + 1))) (some (m + 8)) (nI (b + 1)) (nI x) h2 := by
            intro x hx
            unfold qw_X12_apart_169
            refine qk_sw G2 (by omega) fun h3 G3 f3 => ?_
            rw [nI_1]
            refine ih2 (b + 1) fu2 h3 _ (by omega) (by omega) G3 (f2.tr f3) z2.up ((qk_sAn (by omega)).trans e2) fun j hj => ?_
            rw [qk_sAs]
            by_cases e5 : j = b + 1
            · rw [e5, pk_us, hx, if_pos (Nat.le_refl _)]
            · rw [pk_un e5, hW2 j hj]
              by_cases e6 : j ≤ b
              · rw [if_pos e6, if_pos (by omega)]
              · rw [if_neg e6, if_neg (by omega)]
          by_cases e : s[a] = t[b]
          · refine qp_iT (by rw [e]) ?_
            rw [nI_1]
            exact step _ (qd_lE ha2 hb2 e).symm
          · refine qp_iF (fun z => e (by have := (nI_eq (by omega) (by omega)).mp z; omega)) ?_
            rw [qk_rw G2, qk_lw G2 (by omega), hW2 b (by omega), if_pos (Nat.le_refl _)]
            refine qe_X12_most ?_
            have em : (if nI (qd_l s t a (b + 1)) ≤ nI (qd_l s t (a + 1) b) then nI (qd_l s t (a + 1) b) else nI (qd_l s t a (b + 1))) = nI (max (qd_l s t a (b + 1)) (qd_l s t (a + 1) b)) := by
              by_cases e7 : qd_l s t a (b + 1) ≤ qd_l s t (a + 1) b
              · rw [if_pos (nI_le e7 (by omega)), Nat.max_eq_right e7]
              · rw [if_neg (nI_ge (by omega) (by omega)), Nat.max_eq_left (by omega)]
            rw [em]
            exact step _ (qd_lN ha2 hb2 e).symm
      have := d93 t.length 0 ql_FU hh M1 (by omega) (by unfold ql_FU; omega) G f z e0 (fun j hj => by
        rw [hW j hj]
        by_cases e : j ≤ 0
        · rw [if_pos e, show j = 0 by omega, qd_l0', qd_l0']
        · rw [if_neg e])
      rw [qd_l0'] at this
      exact this
  have d48 : ∀ c j fu hh M1, j + c = 13 → c < fu → qk_at hh m M1 → qp_fr m (m + 10) h hh → qk_z M0 M1 → M1.2 0 = M.2 0 → (∀ q, q < j → M1.2 15 q = 0) → qw_X12_apart_48 m Q fu (nI i) (nI (5 + 4 * v)) (nI (5 + 4 * w)) (nI j) hh := by
    intro c
    induction c with
    | zero =>
      intro j fu hh M1 hj hfu G f z e0 hW
      obtain ⟨fu, rfl⟩ : ∃ z, fu = z + 1 := ⟨fu - 1, by omega⟩
      obtain rfl : j = 13 := by omega
      unfold qw_X12_apart_48
      refine qp_iT (nI_le (a := 13) (Nat.le_refl _) (by omega)) ?_
      exact d72 s.length 0 ql_FU hh M1 (by omega) (by unfold ql_FU; omega) G f z e0 fun j hj => by
        rw [hW j (by omega), qd_l0]
        rfl
    | succ c ih =>
      intro j fu hh M1 hj hfu G f z e0 hW
      obtain ⟨fu, rfl⟩ : ∃ z, fu = z + 1 := ⟨fu - 1, by omega⟩
      unfold qw_X12_apart_48
      refine qp_iF (nI_ge (a := j) (b := 13) (by omega) (by omega)) ?_
      rw [qk_rw G]
      refine qk_sw G (by omega) fun h3 G3 f3 => ?_
      rw [nI_1]
      refine ih (j + 1) fu h3 _ (by omega) (by omega) G3 (f.tr f3) z.up ((qk_sAn (by omega)).trans e0) fun q hq => ?_
      rw [qk_sAs]
      by_cases e : q = j
      · rw [e, pk_us]
      · rw [pk_un e]
        exact hW q (by omega)
  exact d48 13 0 ql_FU h M (by omega) (by unfold ql_FU; omega) H qp_fr.rf z0 rfl fun q hq => absurd hq (Nat.not_lt_zero q)
theorem qe_X12_apart (H : qk_at h m M) (R : qk_G (M.2 0) L) {c a b : Int32} {Q : Int32 → ql_H → Prop} (k : ∀ h1 M1 x, qk_at h1 m M1 → qp_fr m (m + 10) h h1 → qk_pq M M1 (qq_diff L c a b) x → Q x h1) : qw_X12_apart m c a b h Q := by
  have n16 := R.1.1
  unfold qw_X12_apart
  rw [qk_rv H]
  refine qe_X12_isBlank H R (fun h1 H1 f1 s es => ?_) (fun h1 H1 f1 e => qp_iF qp_1 ?_)
  · refine qp_iT rfl ?_
    rw [qk_rv H1]
    refine qe_X12_isBlank H1 (L := L) R (fun h2 H2 f2 t et => ?_) (fun h2 H2 f2 e => qp_iF qp_1 ?_)
    · refine qp_iT rfl ?_
      have hff : ∃ A, qa_find L.1 c = some A := by
        unfold qa_fon at es
        cases ef : qa_find L.1 c with
        | none => rw [ef] at es; cases es
        | some A => exact ⟨A, rfl⟩
      obtain ⟨A, hA⟩ := hff
      rw [qk_rv H2]
      refine qe_X12_placeOf H2 (L := L) R (fun i hi _ f3 => ?_) (fun e2 => by rw [hA] at e2; cases e2)
      rw [qk_rv H2]
      refine qe_X12_versionOn H2 (L := L) R hi (fun v hv e3 => ?_) (fun e3 => by rw [qk_fon R es hi f3] at e3; cases e3)
      rw [qk_rv H2]
      refine qe_X12_versionOn H2 (L := L) R hi (fun w hw e4 => ?_) (fun e3 => by rw [qk_fon R et hi f3] at e3; cases e3)
      have z0 : qk_z M (qk_sI (qk_sI M 7 0) 7 0) := ⟨qk_sI_s, fun j hj => (qk_sI_n hj).trans (qk_sI_n hj), fun _ _ => rfl⟩
      refine qe_X12_apart48 (M := qk_sI (qk_sI M 7 0) 7 0) (L := L) R hi hv hw H2 z0 fun h5 M5 H5 f5 z5 => k h5 M5 _ H5 (f1.tr (f2.tr f5)) ?_
      have e5 : ((qa_vs L.1[i])[v]).2 = s := Option.some.inj (e3.symm.trans (qk_fon R es hi f3))
      have e6 : ((qa_vs L.1[i])[w]).2 = t := Option.some.inj (e4.symm.trans (qk_fon R et hi f3))
      have eq : qq_diff L c a b = (0, nI (qa_apart s t)) := by
        unfold qq_diff
        rw [es, et]
        rfl
      rw [eq, e5, e6]
      exact z5.pq rfl rfl
    · refine k h2 _ _ H2 (f1.tr f2) ?_
      have eq : qq_diff L c a b = (1, 0) := by
        unfold qq_diff
        rw [es, e]
        rfl
      rw [eq]
      exact ⟨qk_sI_s, fun j hj => (qk_sI_n hj).trans (qk_sI_n hj), fun _ _ => rfl, fun z => by cases z⟩
  · refine k h1 _ _ H1 f1 ?_
    have eq : qq_diff L c a b = (1, 0) := by
      unfold qq_diff
      rw [e]
      cases qa_fon L c b <;> rfl
    rw [eq]
    exact qk_pq.mk rfl fun z => by cases z
/-- two clauses' last texts are the same -/
theorem qe_X12_areAlike (H : qk_at h m M) (R : qk_G (M.2 0) L) {i j : Nat} (hi : i < L.1.length) (hj : j < L.1.length) {Q : Int32 → ql_H → Prop} (k : Q (qp_b (decide (qa_txt L.1[i] = qa_txt L.1[j]))) h) : qw_X12_areAlike m (nI i) (nI j) h Q := by
  have n16 := R.1.1
  obtain ⟨v, hv, hv8, hti, _⟩ := qk_vs1 (qk_cl R hi)
  obtain ⟨w, hw, hw8, htj, _⟩ := qk_vs1 (qk_cl R hj)
  have li := hti.2
  have lj := htj.2
  unfold qw_X12_areAlike
  rw [qk_rv H]
  refine qe_X12_long0 H R hi ?_
  rw [qk_rv H]
  refine qe_X12_long0 H R hj ?_
  have no : qa_txt L.1[i] ≠ qa_txt L.1[j] → (ql_nz .boolean (0 : Int32) ∧ Q (0 : Int32) h) := fun z => by
    rw [decide_eq_false z] at k
    exact ⟨ql_nz0, k⟩
  by_cases el : (qa_txt L.1[i]).length = (qa_txt L.1[j]).length
  · refine qp_iT (by rw [el]) ?_
    have hL : ∀ c q fu, q + c = (qa_txt L.1[i]).length → c < fu → (∀ u (hu : u < q) (h1 : u < (qa_txt L.1[i]).length) (h2 : u < (qa_txt L.1[j]).length), (qa_txt L.1[i])[u] = (qa_txt L.1[j])[u]) → qw_X12_areAlike_17 m Q fu (nI i) (nI j) (nI q) h := by
      intro c
      induction c with
      | zero =>
        intro q fu hq hfu hall
        obtain ⟨fu, rfl⟩ : ∃ z, fu = z + 1 := ⟨fu - 1, by omega⟩
        unfold qw_X12_areAlike_17
        rw [qk_rv H]
        refine qe_X12_long0 H R hi ?_
        refine qp_iT (nI_le (by omega) (by omega)) ?_
        have : qa_txt L.1[i] = qa_txt L.1[j] := List.ext_getElem el fun u h1 h2 => hall u (by omega) h1 h2
        rw [decide_eq_true this] at k
        exact ⟨ql_nz1, k⟩
      | succ c ih =>
        intro q fu hq hfu hall
        obtain ⟨fu, rfl⟩ : ∃ z, fu = z + 1 := ⟨fu - 1, by omega⟩
        unfold qw_X12_areAlike_17
        rw [qk_rv H]
        refine qe_X12_long0 H R hi ?_
        refine qp_iF (nI_ge (by omega) (by omega)) ?_
        obtain ⟨_, nf, a2, a3⟩ := qk_last (R.2.2 i hi) hv
        obtain ⟨_, nf2, b2, b3⟩ := qk_last (R.2.2 j hj) hw
        have hqi : q < (qa_txt L.1[i]).length := by omega
        have hqj : q < (qa_txt L.1[j]).length := by omega
        rw [qk_rv H]
        refine qe_X12_lastVersion H (v := v) (by omega) (hv ▸ (qk_cl R hi).2.1.1) ?_
        rw [qk_rv H]
        refine qe_X12_note H (v := 5 + 4 * v) (q := q) (a := (qa_txt L.1[i])[q]) (by omega) (by omega) (by omega) (by rw [← Nat.add_assoc (13 + 42 * i), a3 q hqi]; exact (a2 q (by omega)).2) ?_
        rw [qk_rv H]
        refine qe_X12_lastVersion H (v := w) (by omega) (hw ▸ (qk_cl R hj).2.1.1) ?_
        rw [qk_rv H]
        refine qe_X12_note H (v := 5 + 4 * w) (q := q) (a := (qa_txt L.1[j])[q]) (by omega) (by omega) (by omega) (by rw [← Nat.add_assoc (13 + 42 * j), b3 q hqj]; exact (b2 q (by omega)).2) ?_
        have c1 := hti.1 _ (List.getElem_mem hqi)
        have c2 := htj.1 _ (List.getElem_mem hqj)
        by_cases e : (qa_txt L.1[i])[q] = (qa_txt L.1[j])[q]
        · refine qp_iT (by rw [e]) ?_
          rw [nI_1]
          refine ih (q + 1) fu (by omega) (by omega) fun u hu h1 h2 => ?_
          by_cases e2 : u = q
          · subst e2
            exact e
          · exact hall u (by omega) h1 h2
        · refine qp_iF (fun z => e (by have := (nI_eq (by omega) (by omega)).mp z; omega)) (no fun z => e ?_)
          have : (qa_txt L.1[i])[q]? = (qa_txt L.1[j])[q]? := by rw [z]
          rw [List.getElem?_eq_getElem hqi, List.getElem?_eq_getElem hqj] at this
          exact Option.some.inj this
    exact hL (qa_txt L.1[i]).length 0 ql_FU (by omega) (by unfold ql_FU; omega) fun u hu => absurd hu (Nat.not_lt_zero u)
  · exact qp_iF (fun z => el ((nI_eq (by omega) (by omega)).mp z)) (no fun z => el (by rw [z]))
theorem qa_pairs_app (l : List (List Nat)) (t : List Nat) : qa_pairs (l ++ [t]) = qa_pairs l + l.countP fun s => s == t := by
  induction l with
  | nil => rfl
  | cons s l ih =>
    rw [List.cons_append, qa_pairs, qa_pairs, ih, List.countP_append, List.countP_singleton, List.countP_cons]
    by_cases e : s = t
    · subst e
      rw [if_pos (beq_self_eq_true s)]
      omega
    · rw [if_neg (by rw [beq_iff_eq]; exact fun z => e z.symm), if_neg (by rw [beq_iff_eq]; exact e)]
      omega
theorem qa_pairs_le (l : List (List Nat)) (h : l.length ≤ 16) : qa_pairs l ≤ l.length * 16 := by
  induction l with
  | nil => exact Nat.zero_le _
  | cons s l ih =>
    rw [List.length_cons] at h ⊢
    have h1 := ih (by omega)
    have h2 : l.countP (fun u => u == s) ≤ l.length := List.countP_le_length
    rw [qa_pairs]
    omega
theorem qe_X12_pairs (H : qk_at h m M) (R : qk_G (M.2 0) L) {Q : Int32 → ql_H → Prop} (k : ∀ h1 M1 x, qk_at h1 m M1 → qp_fr m (m + 10) h h1 → qk_pq M M1 (0, nI (qa_pairs (L.1.map qa_txt))) x → Q x h1) : qw_X12_pairs m h Q := by
  have n16 := R.1.1
  unfold qw_X12_pairs
  refine qk_p H 7 fun h1 H1 f1 => ?_
  have hL : ∀ c a fu, a + c = L.1.length → c < fu → qw_X12_pairs_9 m Q fu (nI (qa_pairs ((L.1.map qa_txt).take a))) (nI a) h1 := by
    intro c
    induction c with
    | zero =>
      intro a fu ha hfu
      obtain ⟨fu, rfl⟩ : ∃ z, fu = z + 1 := ⟨fu - 1, by omega⟩
      unfold qw_X12_pairs_9
      rw [qk_rg H1, qk_lgx H1 0 0, show (qk_sI M 7 0).2 0 0 = nI L.1.length from qk_len R]
      refine qp_iT (nI_le (by omega) (by omega)) ?_
      rw [List.take_of_length_le (by rw [List.length_map]; omega)]
      exact k h1 _ _ H1 f1 (qk_pq.mk (n := 0) rfl fun _ => rfl)
    | succ c ih =>
      intro a fu ha hfu
      obtain ⟨fu, rfl⟩ : ∃ z, fu = z + 1 := ⟨fu - 1, by omega⟩
      unfold qw_X12_pairs_9
      rw [qk_rg H1, qk_lgx H1 0 0, show (qk_sI M 7 0).2 0 0 = nI L.1.length from qk_len R]
      refine qp_iF (nI_ge (by omega) (by omega)) ?_
      have ha2 : a < L.1.length := by omega
      have haM : a < (L.1.map qa_txt).length := by rw [List.length_map]; exact ha2
      have h21 : ∀ c b fu2, b + c = a → c < fu2 → qw_X12_pairs_21 m Q (qw_X12_pairs_9 m Q fu) fu2 (nI (qa_pairs ((L.1.map qa_txt).take a) + ((L.1.map qa_txt).take b).countP fun s => s == qa_txt L.1[a])) (nI a) (nI b) h1 := by
        intro c
        induction c with
        | zero =>
          intro b fu2 hb hfu2
          obtain ⟨fu2, rfl⟩ : ∃ z, fu2 = z + 1 := ⟨fu2 - 1, by omega⟩
          obtain rfl : a = b := by omega
          unfold qw_X12_pairs_21
          refine qp_iT (nI_le (Nat.le_refl _) (by omega)) ?_
          have hn := ih (a + 1) fu (by omega) (by omega)
          rw [List.take_succ_eq_append_getElem haM, List.getElem_map, qa_pairs_app] at hn
          rw [nI_1]
          exact hn
        | succ c ih2 =>
          intro b fu2 hb hfu2
          obtain ⟨fu2, rfl⟩ : ∃ z, fu2 = z + 1 := ⟨fu2 - 1, by omega⟩
          have hb2 : b < L.1.length := by omega
          have hbM : b < (L.1.map qa_txt).length := by rw [List.length_map]; exact hb2
          unfold qw_X12_pairs_21 qw_X12_pairs_41
          refine qp_iF (nI_ge (by omega) (by omega)) ?_
          rw [qk_rv H1]
          refine qe_X12_areAlike H1 (L := L) R ha2 hb2 ?_
          have hn := ih2 (b + 1) fu2 (by omega) (by omega)
          rw [List.take_succ_eq_append_getElem hbM, List.getElem_map, List.countP_append, List.countP_singleton] at hn
          rw [nI_1]
          by_cases e : qa_txt L.1[a] = qa_txt L.1[b]
          · rw [decide_eq_true e]
            rw [if_pos (by rw [beq_iff_eq]; exact e.symm), ← Nat.add_assoc, ← nI_1] at hn
            exact qp_iF qp_1 hn
          · rw [decide_eq_false e]
            rw [if_neg (by rw [beq_iff_eq]; exact fun z => e z.symm), Nat.add_zero] at hn
            refine qp_iT rfl ?_
            rw [Int32.add_zero]
            exact hn
      exact h21 a 0 ql_FU (by omega) (by unfold ql_FU; omega)
  exact hL L.1.length 0 ql_FU (by omega) (by unfold ql_FU; omega)
end QKC
