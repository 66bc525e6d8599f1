/-! The reference's other changes of one clause. -/
section QK6
variable {h h1 : ql_H} {m : Nat} {M : qk_T} {L : qa_L} {P : List qa_L}
/-- after the copy: the notes of the new version -/
theorem qk_copied {g g3 : Nat → Int32} {A : qa_C} {i v : Nat} (hc : qk_c (qk_row g i) A) (hv : (qa_vs A).length = v + 1) (at_ : ∀ t, 1 ≤ t → t < 4 → g3 (13 + 42 * i + (9 + 4 * v + t)) = g (13 + 42 * i + (5 + 4 * v + t))) : g3 (13 + 42 * i + (9 + 4 * v + 1)) = nI (qa_txt A).length ∧ ∃ nf, qk_tx g3 (13 + 42 * i + (9 + 4 * v + 2)) nf ∧ ∀ q (hq : q < (qa_txt A).length), (qa_txt A)[q] = nf q := by
  obtain ⟨l1, nf, l2, l3⟩ := qk_last hc hv
  refine ⟨(at_ 1 (by omega) (by omega)).trans l1, nf, fun q hq => ⟨(l2 q hq).1, ?_⟩, l3⟩
  have := (l2 q hq).2
  rw [show 13 + 42 * i + (9 + 4 * v + 2) + q / 6 = 13 + 42 * i + (9 + 4 * v + (2 + q / 6)) by omega, at_ (2 + q / 6) (by omega) (by omega), show 13 + 42 * i + (5 + 4 * v + (2 + q / 6)) = 13 + 42 * i + (5 + 4 * v + 2) + q / 6 by omega]
  exact this
theorem qk_vs1 {A : qa_C} {r : Nat → Int32} (hc : qk_c r A) : ∃ v, (qa_vs A).length = v + 1 ∧ v < 8 ∧ qt_ok (qa_txt A) ∧ qa_txt A ≠ [] := by
  have h1v := hc.2.2.2.1.1
  have h8 := hc.2.2.2.1.2.1
  refine ⟨(qa_vs A).length - 1, by omega, by omega, ?_⟩
  rw [qa_txt_get (v := (qa_vs A).length - 1) (by omega)]
  exact hc.2.2.2.1.2.2 _ (List.getElem_mem _)
theorem qp_len1 {n : Nat} (h0 : 0 < n) (hn : n < 2 ^ 31) (p : Int32) : (p ≤ nI n - 1) ↔ p < nI n := by
  obtain ⟨k, rfl⟩ : ∃ k, n = k + 1 := ⟨n - 1, by omega⟩
  rw [nI_pred]
  have h1 : (nI k).toInt = k := nI_toInt (by omega)
  have h2 : (nI (k + 1)).toInt = ((k + 1 : Nat) : Int) := nI_toInt hn
  rw [Int32.le_iff_toInt_le, Int32.lt_iff_toInt_lt, h1, h2]
  omega
theorem qe_X12_replaceNote (H : qk_at h m M) (R : qk_G (M.2 0) L) (HP : qk_P M P) (hd : (L.1.map qa_id).Pairwise (· < ·)) (hs : ∀ A ∈ L.1, qa_sunok A) {c p n : Int32} {Q : Int32 → ql_H → Prop} (k : ∀ h1 M1 x, qk_at h1 m M1 → qp_fr m (m + 10) h h1 → qk_po M M1 P L (qa_rep L c p n) qf_ins x → Q x h1) : qw_X12_replaceNote m c p n h Q := by
  have n16 := R.1.1
  have fl : ∀ (e : Nat) (y : Int32) (pl : Int32), 0 < e → e < 10 → y < 0 → qf_ins y = e → qa_rep L c p n = (y, L) → qw_X12_replaceNote_62 m Q p n pl (some m) (nI e) h := by
    intro e y pl h0 h10 hy hf eq
    unfold qw_X12_replaceNote_62
    rw [qk_rv H]
    refine qe_X12_fails H (by omega) fun h1 H1 f1 => ?_
    rw [decide_eq_true h0]
    exact qp_iF qp_1 (k h1 _ 0 H1 f1 (qk_po.fail R HP eq hy hf))
  unfold qw_X12_replaceNote
  rw [qk_rv H]
  refine qe_X12_placeOf H R (fun i hi e f => ?_) (fun e => qp_iF (by decide) (fl 1 (-1) _ (by omega) (by omega) (by decide) (by decide) (qa_by_n e)))
  have hf : qa_rep L c p n = qa_repC L L.1[i] p n := qa_by_s f
  have hsi := hs _ (List.getElem_mem hi)
  obtain ⟨v, hv, hv8, htk, htn⟩ := qk_vs1 (qk_cl R hi)
  have hl := htk.2
  have hl0 : 0 < (qa_txt L.1[i]).length := List.length_pos_iff.mpr htn
  rw [hf] at k fl
  refine qp_iT (nI_pos' (by omega)) ?_
  rw [qk_rv H]
  refine qe_X12_long0 H R hi ?_
  refine qe_X12_in ?_
  have el : decide (p ≤ nI (qa_txt L.1[i]).length - 1) = decide (p < nI (qa_txt L.1[i]).length) := decide_eq_decide.mpr (qp_len1 hl0 (by omega) p)
  rw [el]
  by_cases hp : p < 0 ∨ nI (qa_txt L.1[i]).length ≤ p
  · have e2 : (decide ((0 : Int32) ≤ p) && decide (p < nI (qa_txt L.1[i]).length)) = false := by
      rcases hp with z | z
      · rw [decide_eq_false (Int32.not_le.mpr z), Bool.false_and]
      · rw [decide_eq_false (p := p < nI (qa_txt L.1[i]).length) (Int32.not_lt.mpr z), Bool.and_false]
    rw [e2]
    exact qp_iT rfl (fl 2 (-2) _ (by omega) (by omega) (by decide) (by decide) (if_pos hp))
  · have hp1 : ¬ p < 0 := fun z => hp (Or.inl z)
    have hp2 : p < nI (qa_txt L.1[i]).length := Int32.not_le.mp fun z => hp (Or.inr z)
    rw [decide_eq_true (Int32.not_lt.mp hp1), decide_eq_true hp2]
    refine qp_iF qp_1 ?_
    refine qe_X12_isNote ?_
    cases en : qa_note n with
    | false => exact qp_iT rfl (fl 3 (-3) _ (by omega) (by omega) (by decide) (by decide) (by unfold qa_repC; rw [if_neg hp, if_pos en]))
    | true =>
      have hA2 : ¬ qa_note n = false := by rw [en]; decide
      refine qp_iF qp_1 ?_
      rw [qk_rv H]
      refine qe_X12_isClosed H R hi hsi ?_
      cases eo : qa_open L L.1[i] with
      | false => exact qp_iF qp_1 (fl 4 (-4) _ (by omega) (by omega) (by decide) (by decide) (by unfold qa_repC; rw [if_neg hp, if_neg hA2, if_pos eo]))
      | true =>
        have hA3 : ¬ qa_open L L.1[i] = false := by rw [eo]; decide
        refine qp_iT rfl ?_
        obtain ⟨j, hj, rfl⟩ := nI_of hp1
        have hjl : j < (qa_txt L.1[i]).length := (nI_ltI hj (by omega)).mp hp2
        obtain ⟨a, ha, rfl, ec⟩ := qa_note_of en
        have hv8 := qa_open_lt eo
        have eq : qa_repC L L.1[i] (nI j) (nI (97 + a)) = qa_amend L (qa_id L.1[i]) L.1[i] (qt_set (qa_txt L.1[i]) j a) := by
          unfold qa_repC
          rw [if_neg hp, if_neg hA2, if_neg hA3, ec, nI_clamp hj]
        rw [eq] at k
        unfold qw_X12_replaceNote_62
        rw [qk_rv H]
        refine qe_X12_fails H (n := 0) (by omega) fun h1 H1 f1 => ?_
        refine qp_iT rfl ?_
        rw [qk_rg H1, qk_rv H1]
        refine qe_X12_keeps H1 (P := P) (L := L) HP R fun h2 M2 H2 f2 hP2 h72 e12' e22 => ?_
        have R2 : qk_G (M2.2 0) L := by rw [e22 0 (by omega)]; exact R
        rw [qk_rv H2]
        refine qe_X12_amends H2 R2 hi hv (by omega) fun h3 M3 H3 f3 ch a3 a4 a9 at_ ao => ?_
        obtain ⟨b1, nf, b2, l3⟩ := qk_copied (R2.2.2 i hi) hv at_
        rw [qk_rv H3]
        refine qe_X12_puts H3 (v := 9 + 4 * v) (by omega) (by omega) (by omega) fun h5 H5 f5 => ?_
        rw [qk_rv H5]
        refine qe_X12_of H5 (w := 4) (by omega) (by omega) ?_
        have tx5 := b2.put (q0 := j) (a := a) (by omega) (by omega)
        have c6 : qk_ch M3 (qk_sA M3 0 (13 + 42 * i + (9 + 4 * v + 2 + j / 6)) (qk_pt (M3.2 0 (13 + 42 * i + (9 + 4 * v + 2 + j / 6))) (j % 6) (nI a))) (fun x => 13 + 42 * i + (9 + 4 * v + 2) ≤ x ∧ x < 13 + 42 * i + (9 + 4 * v + 4)) := qk_ch.up ⟨by omega, by omega⟩
        have g4 : (qk_sA M3 0 (13 + 42 * i + (9 + 4 * v + 2 + j / 6)) (qk_pt (M3.2 0 (13 + 42 * i + (9 + 4 * v + 2 + j / 6))) (j % 6) (nI a))).2 0 (13 + 42 * i + 4) = nI (v + 2) := (c6.2.2 _ (by omega)).trans a4
        rw [g4]
        have htk2 : qt_ok (qt_set (qa_txt L.1[i]) j a) := qt_set_ok htk hjl ha
        refine k h5 _ _ H5 (f1.tr (f2.tr (f3.tr f5))) (qk_po.done (M1 := M2) ?_ hP2 h72 (fun z z5 z7 => (e12' z z5 z7).trans (qk_sI_n z7)) e22 (c6.1.trans ch.1) (fun z hz => (qk_chP c6 z hz).trans (qk_chP ch z hz)) (nI_pos (by omega)) (by show nI (v + 2) = nI ((qa_vs L.1[i]).length + 1); rw [hv]))
        refine qk_amendG R2 hd hi hv (by omega) htk2 (fun z => by
          have := congrArg List.length z
          rw [qt_set_len hjl] at this
          have h2 : (qa_txt L.1[i]).length = 0 := this
          omega) (fun x hx => ?_) ?_ g4 ?_ ?_ (nf := fun q => if q = j then a else nf q) (fun q hq => ?_) (fun q hq => ?_) (fun w w1 w2 w3 => ?_)
        · exact (c6.2.2 x (fun z => hx (Or.inr ⟨by omega, by omega⟩))).trans (ch.2.2 x hx)
        · exact (c6.2.2 3 (by omega)).trans a3
        · exact (c6.2.2 _ (by omega)).trans a9
        · rw [qt_set_len hjl]
          exact (c6.2.2 _ (by omega)).trans b1
        · refine ⟨(tx5 q hq).1, ?_⟩
          have := (tx5 q hq).2
          rw [qk_sAs]
          rw [show 13 + 42 * i + (9 + 4 * v + 2) + j / 6 = 13 + 42 * i + (9 + 4 * v + 2 + j / 6) by omega] at this
          exact this
        · show (qt_set (qa_txt L.1[i]) j a)[q] = if q = j then a else nf q
          rw [qt_set_get hjl hq]
          have hq3 : q < (qa_txt L.1[i]).length := by rw [qt_set_len hjl] at hq; exact hq
          by_cases q2 : q = j
          · rw [if_pos q2, if_pos q2]
          · rw [if_neg q2, if_neg q2]
            exact l3 q hq3
        · exact (c6.2.2 _ (by omega)).trans (ao w w1 w2 w3)
def qf_del (y : Int32) : Nat := if y = -1 then 1 else if y = -2 then 2 else if y = -4 then 3 else 4
theorem qe_X12_deleteNote (H : qk_at h m M) (R : qk_G (M.2 0) L) (HP : qk_P M P) (hd : (L.1.map qa_id).Pairwise (· < ·)) (hs : ∀ A ∈ L.1, qa_sunok A) {c p : Int32} {Q : Int32 → ql_H → Prop} (k : ∀ h1 M1 x, qk_at h1 m M1 → qp_fr m (m + 10) h h1 → qk_po M M1 P L (qa_del L c p) qf_del x → Q x h1) : qw_X12_deleteNote m c p h Q := by
  have n16 := R.1.1
  have fl : ∀ (e : Nat) (y : Int32) (pl : Int32), 0 < e → e < 10 → y < 0 → qf_del y = e → qa_del L c p = (y, L) → qw_X12_deleteNote_60 m Q p pl (some m) (nI e) h := by
    intro e y pl h0 h10 hy hf eq
    unfold qw_X12_deleteNote_60
    rw [qk_rv H]
    refine qe_X12_fails H (by omega) fun h1 H1 f1 => ?_
    rw [decide_eq_true h0]
    exact qp_iF qp_1 (k h1 _ 0 H1 f1 (qk_po.fail R HP eq hy hf))
  unfold qw_X12_deleteNote
  rw [qk_rv H]
  refine qe_X12_placeOf H R (fun i hi e f => ?_) (fun e => qp_iF (by decide) (fl 1 (-1) _ (by omega) (by omega) (by decide) (by decide) (qa_by_n e)))
  have hf : qa_del L c p = qa_delC L L.1[i] p := qa_by_s f
  have hsi := hs _ (List.getElem_mem hi)
  obtain ⟨v, hv, hv8, htk, htn⟩ := qk_vs1 (qk_cl R hi)
  have hl := htk.2
  have hl0 : 0 < (qa_txt L.1[i]).length := List.length_pos_iff.mpr htn
  rw [hf] at k fl
  refine qp_iT (nI_pos' (by omega)) ?_
  rw [qk_rv H]
  refine qe_X12_long0 H R hi ?_
  refine qe_X12_in ?_
  have el : decide (p ≤ nI (qa_txt L.1[i]).length - 1) = decide (p < nI (qa_txt L.1[i]).length) := decide_eq_decide.mpr (qp_len1 hl0 (by omega) p)
  rw [el]
  by_cases hp : p < 0 ∨ nI (qa_txt L.1[i]).length ≤ p
  · have e2 : (decide ((0 : Int32) ≤ p) && decide (p < nI (qa_txt L.1[i]).length)) = false := by
      rcases hp with z | z
      · rw [decide_eq_false (Int32.not_le.mpr z), Bool.false_and]
      · rw [decide_eq_false (p := p < nI (qa_txt L.1[i]).length) (Int32.not_lt.mpr z), Bool.and_false]
    rw [e2]
    exact qp_iT rfl (fl 2 (-2) _ (by omega) (by omega) (by decide) (by decide) (if_pos hp))
  · have hp1 : ¬ p < 0 := fun z => hp (Or.inl z)
    have hp2 : p < nI (qa_txt L.1[i]).length := Int32.not_le.mp fun z => hp (Or.inr z)
    rw [decide_eq_true (Int32.not_lt.mp hp1), decide_eq_true hp2]
    refine qp_iF qp_1 ?_
    rw [qk_rv H]
    refine qe_X12_isClosed H R hi hsi ?_
    cases eo : qa_open L L.1[i] with
    | false => exact qp_iF qp_1 (fl 3 (-4) _ (by omega) (by omega) (by decide) (by decide) (by unfold qa_delC; rw [if_neg hp, if_pos eo]))
    | true =>
      have hA3 : ¬ qa_open L L.1[i] = false := by rw [eo]; decide
      refine qp_iT rfl ?_
      rw [qk_rv H]
      refine qe_X12_long0 H R hi ?_
      by_cases e1 : (qa_txt L.1[i]).length = 1
      · refine qp_iT (by rw [e1]; rfl) (fl 4 (-5) _ (by omega) (by omega) (by decide) (by decide) (by unfold qa_delC; rw [if_neg hp, if_neg hA3, if_pos (by omega)]))
      · refine qp_iF (fun z => e1 ((nI_eq (b := 1) (by omega) (by omega)).mp z)) ?_
        obtain ⟨j, hj, rfl⟩ := nI_of hp1
        have hjl : j < (qa_txt L.1[i]).length := (nI_ltI hj (by omega)).mp hp2
        have hv8 := qa_open_lt eo
        have eq : qa_delC L L.1[i] (nI j) = qa_amend L (qa_id L.1[i]) L.1[i] (qt_del (qa_txt L.1[i]) j) := by
          unfold qa_delC
          rw [if_neg hp, if_neg hA3, if_neg (by omega), nI_clamp hj]
        rw [eq] at k
        unfold qw_X12_deleteNote_60
        rw [qk_rv H]
        refine qe_X12_fails H (n := 0) (by omega) fun h1 H1 f1 => ?_
        refine qp_iT rfl ?_
        rw [qk_rg H1, qk_rv H1]
        refine qe_X12_keeps H1 (P := P) (L := L) HP R fun h2 M2 H2 f2 hP2 h72 e12' e22 => ?_
        have R2 : qk_G (M2.2 0) L := by rw [e22 0 (by omega)]; exact R
        rw [qk_rv H2]
        refine qe_X12_amends H2 R2 hi hv (by omega) fun h3 M3 H3 f3 ch a3 a4 a9 at_ ao => ?_
        obtain ⟨b1, nf, b2, l3⟩ := qk_copied (R2.2.2 i hi) hv at_
        rw [qk_rv H3, nI_1]
        refine qe_X12_of H3 (by omega) (by omega) ?_
        rw [b1]
        obtain ⟨len, hlen⟩ : ∃ len, (qa_txt L.1[i]).length = len + 1 := ⟨(qa_txt L.1[i]).length - 1, by omega⟩
        -- the notes move down
        have hL : ∀ t u hh M4 nf4, u + t = len → j ≤ u → ∀ fu, t < fu → qk_at hh m M4 → qp_fr m (m + 10) h hh → qk_ch M3 M4 (fun x => 13 + 42 * i + (9 + 4 * v + 2) ≤ x ∧ x < 13 + 42 * i + (9 + 4 * v + 4)) → qk_tx (M4.2 0) (13 + 42 * i + (9 + 4 * v + 2)) nf4 → (∀ q, q < 12 → nf4 q = if j ≤ q ∧ q < u then nf (q + 1) else nf q) → qw_X12_deleteNote_97 m Q fu (nI i) (nI (9 + 4 * v)) (nI (qa_txt L.1[i]).length) (nI u) hh := by
          intro t
          induction t with
          | zero =>
            intro u hh M4 nf4 hu hju fu hfu G f ch4 tx e4
            obtain ⟨fu, rfl⟩ : ∃ z, fu = z + 1 := ⟨fu - 1, by omega⟩
            unfold qw_X12_deleteNote_97
            rw [nI_1]
            refine qp_iT (nI_le (by omega) (by omega)) ?_
            rw [qk_rv G, hlen, nI_pred]
            refine qe_X12_puts G (v := 9 + 4 * v) (q := len) (a := 0) (by omega) (by omega) (by omega) fun h5 H5 f5 => ?_
            rw [qk_rv H5, nI_1]
            refine qe_X12_lays H5 (by omega) (by omega) fun h6 H6 f6 => ?_
            rw [qk_rv H6]
            refine qe_X12_of H6 (w := 4) (by omega) (by omega) ?_
            have tx5 := tx.put (q0 := len) (a := 0) (by omega) (by omega)
            have c6 : qk_ch M3 (qk_sA (qk_sA M4 0 (13 + 42 * i + (9 + 4 * v + 2 + len / 6)) (qk_pt (M4.2 0 (13 + 42 * i + (9 + 4 * v + 2 + len / 6))) (len % 6) (nI 0))) 0 (13 + 42 * i + (9 + 4 * v + 1)) (nI len)) (fun x => 13 + 42 * i + (9 + 4 * v + 1) ≤ x ∧ x < 13 + 42 * i + (9 + 4 * v + 4)) := (ch4.mono fun x hx => ⟨by omega, hx.2⟩).tr ((qk_ch.up ⟨by omega, by omega⟩).tr (qk_ch.up ⟨by omega, by omega⟩))
            have g4 : (qk_sA (qk_sA M4 0 (13 + 42 * i + (9 + 4 * v + 2 + len / 6)) (qk_pt (M4.2 0 (13 + 42 * i + (9 + 4 * v + 2 + len / 6))) (len % 6) (nI 0))) 0 (13 + 42 * i + (9 + 4 * v + 1)) (nI len)).2 0 (13 + 42 * i + 4) = nI (v + 2) := (c6.2.2 _ (by omega)).trans a4
            rw [g4]
            have htk2 : qt_ok (qt_del (qa_txt L.1[i]) j) := qt_del_ok htk hjl
            refine k h6 _ _ H6 (f.tr (f5.tr f6)) (qk_po.done (M1 := M2) ?_ hP2 h72 (fun z z5 z7 => (e12' z z5 z7).trans (qk_sI_n z7)) e22 (c6.1.trans ch.1) (fun z hz => (qk_chP c6 z hz).trans (qk_chP ch z hz)) (nI_pos (by omega)) (by show nI (v + 2) = nI ((qa_vs L.1[i]).length + 1); rw [hv]))
            refine qk_amendG R2 hd hi hv (by omega) htk2 (fun z => by
              have := congrArg List.length z
              rw [qt_del_len hjl] at this
              have h2 : (qa_txt L.1[i]).length - 1 = 0 := this
              omega) (fun x hx => ?_) ?_ g4 ?_ ?_ (nf := fun q => if q = len then 0 else nf4 q) (fun q hq => ?_) (fun q hq => ?_) (fun w w1 w2 w3 => ?_)
            · exact (c6.2.2 x (fun z => hx (Or.inr ⟨by omega, by omega⟩))).trans (ch.2.2 x hx)
            · exact (c6.2.2 3 (by omega)).trans a3
            · exact (c6.2.2 _ (by omega)).trans a9
            · rw [qk_sAs, pk_us, qt_del_len hjl, hlen]
              rfl
            · refine ⟨(tx5 q hq).1, ?_⟩
              have := (tx5 q hq).2
              rw [qk_sAs, pk_un (by omega), qk_sAs]
              rw [show 13 + 42 * i + (9 + 4 * v + 2) + len / 6 = 13 + 42 * i + (9 + 4 * v + 2 + len / 6) by omega] at this
              exact this
            · show (qt_del (qa_txt L.1[i]) j)[q] = if q = len then 0 else nf4 q
              rw [qt_del_get hjl hq]
              have hq3 : q < (qa_txt L.1[i]).length - 1 := by rw [qt_del_len hjl] at hq; exact hq
              rw [if_neg (show ¬ q = len by omega), e4 q (by omega)]
              by_cases q1 : q < j
              · rw [dif_pos q1, if_neg (by omega)]
                exact l3 q (by omega)
              · rw [dif_neg q1, if_pos (by omega)]
                exact l3 (q + 1) (by omega)
            · exact (c6.2.2 _ (by omega)).trans (ao w w1 w2 w3)
          | succ t iht =>
            intro u hh M4 nf4 hu hju fu hfu G f ch4 tx e4
            obtain ⟨fu, rfl⟩ : ∃ z, fu = z + 1 := ⟨fu - 1, by omega⟩
            unfold qw_X12_deleteNote_97
            rw [nI_1]
            refine qp_iF (nI_ge (by omega) (by omega)) ?_
            rw [qk_rv G]
            have tw := tx (u + 1) (by omega)
            refine qe_X12_note G (v := 9 + 4 * v) (q := u + 1) (a := nf4 (u + 1)) (by omega) (by omega) (by omega) (by rw [← Nat.add_assoc (13 + 42 * i)]; exact tw.2) ?_
            rw [qk_rv G]
            refine qe_X12_puts G (v := 9 + 4 * v) (q := u) (a := nf4 (u + 1)) (by omega) (by omega) (by omega) fun h5 H5 f5 => ?_
            have tx5 := tx.put (q0 := u) (a := nf4 (u + 1)) (by omega) tw.1
            refine iht (u + 1) h5 _ (fun q => if q = u then nf4 (u + 1) else nf4 q) (by omega) (by omega) fu (by omega) H5 (f.tr f5) (ch4.tr (qk_ch.up ⟨by omega, by omega⟩)) (fun q hq => ⟨(tx5 q hq).1, ?_⟩) (fun q hq => ?_)
            · have := (tx5 q hq).2
              rw [qk_sAs]
              rw [show 13 + 42 * i + (9 + 4 * v + 2) + u / 6 = 13 + 42 * i + (9 + 4 * v + 2 + u / 6) by omega] at this
              exact this
            · by_cases q1 : q = u
              · subst q1
                rw [if_pos rfl, if_pos (by omega), e4 (q + 1) (by omega), if_neg (by omega)]
              · rw [if_neg q1, e4 q hq]
                by_cases q2 : j ≤ q ∧ q < u
                · rw [if_pos q2, if_pos (by omega)]
                · rw [if_neg q2, if_neg (by omega)]
        exact hL (len - j) j h3 M3 nf (by omega) (Nat.le_refl _) ql_FU (by unfold ql_FU; omega) H3 (f1.tr (f2.tr f3)) qk_ch.rf b2 fun q hq => by rw [if_neg (by omega)]
end QK6
