/-! The reference's changes: the same as the ledger's. -/
section QK5
variable {h h1 : ql_H} {m : Nat} {M : qk_T} {L : qa_L} {P : List qa_L}
def qa_kp (b : Int32) (P : List qa_L) (L : qa_L) : List qa_L := if b = 0 then qa_push P L else P
theorem qe_X12_keeps (H : qk_at h m M) (HP : qk_P M P) (R : qk_G (M.2 0) L) {Q : ql_H → Prop} (k : ∀ h1 M1, qk_at h1 m M1 → qp_fr m (m + 10) h h1 → qk_P M1 (qa_kp (M.1 6) P L) → M1.1 7 = 0 → (∀ j, j ≠ 5 → j ≠ 7 → M1.1 j = M.1 j) → (∀ j, j ≠ 1 → M1.2 j = M.2 j) → Q h1) : qw_X12_keeps m (some (m + 1)) h Q := by
  unfold qa_kp at k
  by_cases e : M.1 6 = 0
  · refine qe_X12_keeps0 H e HP (k0 := 0) (Or.inl rfl) R fun h1 M1 H1 f1 a b c d => ?_
    have := k h1 M1 H1 f1
    rw [if_pos e] at this
    exact this a b c d
  · refine qe_X12_keeps1 H e fun h1 H1 f1 => ?_
    have := k h1 _ H1 f1
    rw [if_neg e] at this
    exact this HP qk_sI_s (fun j _ h7 => qk_sI_n h7) fun _ _ => rfl
/-- what a change leaves: the ledger's own outcome r, its code by f -/
def qk_po (M M1 : qk_T) (P : List qa_L) (L : qa_L) (r : Int32 × qa_L) (f : Int32 → Nat) (x : Int32) : Prop :=
  qk_G (M1.2 0) r.2 ∧ qk_P M1 (if r.1 < 0 then P else qa_kp (M.1 6) P L) ∧ M1.1 7 = nI (if r.1 < 0 then f r.1 else 0) ∧ ((∀ j, j ≠ 5 → j ≠ 7 → M1.1 j = M.1 j) ∧ ∀ j, j = 2 ∨ j = 3 ∨ j = 8 ∨ j = 12 ∨ j = 17 → M1.2 j = M.2 j) ∧ (¬ r.1 < 0 → x = r.1)
theorem qk_po.fail {r : Int32 × qa_L} {f : Int32 → Nat} {x y : Int32} {n : Nat} (R : qk_G (M.2 0) L) (HP : qk_P M P) (e : r = (y, L)) (hy : y < 0) (hf : f y = n) : qk_po M (qk_sI M 7 (nI n)) P L r f x := by
  subst e
  refine ⟨R, ?_, ?_, ⟨fun j _ h7 => qk_sI_n h7, fun _ _ => rfl⟩, fun z => absurd hy z⟩
  · rw [if_pos hy]
    exact HP
  · rw [if_pos hy, hf]
    exact qk_sI_s
theorem qk_po.done {M1 M2 : qk_T} {r : Int32 × qa_L} {f : Int32 → Nat} {x : Int32} (G2 : qk_G (M2.2 0) r.2) (HP : qk_P M1 (qa_kp (M.1 6) P L)) (h7 : M1.1 7 = 0) (e1 : ∀ j, j ≠ 5 → j ≠ 7 → M1.1 j = M.1 j) (e2 : ∀ j, j ≠ 1 → M1.2 j = M.2 j) (c1 : M2.1 = M1.1) (c2 : ∀ j, j = 1 ∨ j = 2 ∨ j = 3 ∨ j = 8 ∨ j = 12 ∨ j = 17 → M2.2 j = M1.2 j) (hr : ¬ r.1 < 0) (hx : x = r.1) : qk_po M M2 P L r f x := by
  refine ⟨G2, ?_, ?_, ⟨fun j h5 h72 => by rw [c1]; exact e1 j h5 h72, fun j hj => (c2 j (by omega)).trans (e2 j (by omega))⟩, fun _ => hx⟩
  · rw [if_neg hr]
    refine ⟨HP.1, by rw [c1]; exact HP.2.1, fun j hj => ?_⟩
    have := HP.2.2 j hj
    rw [c2 1 (Or.inl rfl)]
    exact this
  · rw [if_neg hr, c1, h7]
    rfl
theorem qp_na {n : Nat} (hn : n < 2 ^ 31) : ¬ (nI n < 0) := nI_pos hn
theorem qk_chP {M1 : qk_T} {P0 : Nat → Prop} (c : qk_ch M M1 P0) : ∀ j, j = 1 ∨ j = 2 ∨ j = 3 ∨ j = 8 ∨ j = 12 ∨ j = 17 → M1.2 j = M.2 j := fun j hj => c.2.1 j (by omega)
def qf_ins (y : Int32) : Nat := (-y.toInt).toNat
theorem qa_open_hold {A : qa_C} (h : qa_open L A = true) : (qa_vs A).length < 8 := qa_open_lt h
/-- the ledger's amendment over the row of the copy -/
theorem qk_amendG {g g1 : Nat → Int32} (R : qk_G g L) (hd : (L.1.map qa_id).Pairwise (· < ·)) {i v : Nat} (hi : i < L.1.length) (hv : (qa_vs L.1[i]).length = v + 1) (h8 : v < 7) {t : List Nat} {nf : Nat → Nat} (ht : qt_ok t) (h0 : t ≠ []) (lo : ∀ x, ¬ qk_in i x → g1 x = g x) (h3 : g1 3 = g 3 + 1) (h4 : g1 (13 + 42 * i + 4) = nI (v + 2)) (h9 : g1 (13 + 42 * i + (9 + 4 * v)) = L.2.1 2) (hl : g1 (13 + 42 * i + (9 + 4 * v + 1)) = nI t.length) (hx : qk_tx g1 (13 + 42 * i + (9 + 4 * v + 2)) nf) (hn : ∀ q (hq : q < t.length), t[q] = nf q) (ho : ∀ w, w < 42 → w ≠ 4 → (w < 9 + 4 * v ∨ 13 + 4 * v ≤ w) → g1 (13 + 42 * i + w) = g (13 + 42 * i + w)) : qk_G g1 (qa_amend L (qa_id L.1[i]) L.1[i] t).2 := by
  have h2 := qk_amended (R.2.2 i hi) hv h8 ht h0 h4 h9 hl hx hn ho
  refine R.row hd hi (f := fun C => (C.1, qa_vs C ++ [(L.2.1 2, t)], qa_ci C)) lo ?_ (fun j hj => pk_un hj) h2
  rw [h3, R.1.2.2.2.2.1]
  exact pk_us.symm
theorem qe_X12_insertNote (H : qk_at h m M) (R : qk_G (M.2 0) L) (HP : qk_P M P) (hd : (L.1.map qa_id).Pairwise (· < ·)) (hs : ∀ A ∈ L.1, qa_sunok A) {c p n : Int32} {Q : Int32 → ql_H → Prop} (k : ∀ h1 M1 x, qk_at h1 m M1 → qp_fr m (m + 10) h h1 → qk_po M M1 P L (qa_ins L c p n) qf_ins x → Q x h1) : qw_X12_insertNote m c p n h Q := by
  have n16 := R.1.1
  have fl : ∀ (e : Nat) (y : Int32) (pl : Int32), 0 < e → e < 10 → y < 0 → qf_ins y = e → qa_ins L c p n = (y, L) → qw_X12_insertNote_75 m Q p n pl (some m) (nI e) h := by
    intro e y pl h0 h10 hy hf eq
    unfold qw_X12_insertNote_75
    rw [qk_rv H]
    refine qe_X12_fails H (by omega) fun h1 H1 f1 => ?_
    rw [decide_eq_true h0]
    exact qp_iF qp_1 (k h1 _ 0 H1 f1 (qk_po.fail R HP eq hy hf))
  unfold qw_X12_insertNote
  rw [qk_rv H]
  refine qe_X12_placeOf H R (fun i hi e f => ?_) (fun e => qp_iF (by decide) (fl 1 (-1) _ (by omega) (by omega) (by decide) (by decide) (qa_by_n e)))
  have hf : qa_ins L c p n = qa_insC L L.1[i] p n := qa_by_s f
  have hsi := hs _ (List.getElem_mem hi)
  have hc := qk_cl R hi
  have h1v := hc.2.2.2.1.1
  obtain ⟨v, hv⟩ : ∃ v, (qa_vs L.1[i]).length = v + 1 := ⟨(qa_vs L.1[i]).length - 1, by omega⟩
  have htk : qt_ok (qa_txt L.1[i]) := by
    rw [qa_txt_get hv]
    exact (hc.2.2.2.1.2.2 _ (List.getElem_mem _)).1
  have hl := htk.2
  rw [hf] at k fl
  refine qp_iT (nI_pos' (by omega)) ?_
  rw [qk_rv H]
  refine qe_X12_long0 H R hi ?_
  refine qe_X12_in ?_
  by_cases hp : p < 0 ∨ nI (qa_txt L.1[i]).length < p
  · have e2 : (decide ((0 : Int32) ≤ p) && decide (p ≤ nI (qa_txt L.1[i]).length)) = false := by
      rcases hp with z | z
      · rw [decide_eq_false (Int32.not_le.mpr z), Bool.false_and]
      · rw [decide_eq_false (p := p ≤ nI (qa_txt L.1[i]).length) (Int32.not_le.mpr z), Bool.and_false]
    rw [e2]
    exact qp_iT rfl (fl 2 (-2) _ (by omega) (by omega) (by decide) (by decide) (if_pos hp))
  · have hp1 : ¬ p < 0 := fun z => hp (Or.inl z)
    have hp2 : p ≤ nI (qa_txt L.1[i]).length := Int32.not_lt.mp fun z => hp (Or.inr z)
    rw [decide_eq_true (Int32.not_lt.mp hp1), decide_eq_true hp2]
    refine qp_iF qp_1 ?_
    refine qe_X12_isNote ?_
    cases en : qa_note n with
    | false => exact qp_iT rfl (fl 3 (-3) _ (by omega) (by omega) (by decide) (by decide) (by unfold qa_insC; rw [if_neg hp, if_pos en]))
    | true =>
      have hA2 : ¬ qa_note n = false := by rw [en]; decide
      refine qp_iF qp_1 ?_
      rw [qk_rv H]
      refine qe_X12_isClosed H R hi hsi ?_
      cases eo : qa_open L L.1[i] with
      | false => exact qp_iF qp_1 (fl 4 (-4) _ (by omega) (by omega) (by decide) (by decide) (by unfold qa_insC; rw [if_neg hp, if_neg hA2, if_pos eo]))
      | true =>
        have hA3 : ¬ qa_open L L.1[i] = false := by rw [eo]; decide
        refine qp_iT rfl ?_
        rw [qk_rv H]
        refine qe_X12_long0 H R hi ?_
        by_cases e12 : (qa_txt L.1[i]).length = 12
        · refine qp_iT (by rw [e12]; rfl) (fl 5 (-5) _ (by omega) (by omega) (by decide) (by decide) (by unfold qa_insC; rw [if_neg hp, if_neg hA2, if_neg hA3, if_pos (by omega)]))
        · refine qp_iF (fun z => e12 ((nI_eq (b := 12) (by omega) (by omega)).mp z)) ?_
          obtain ⟨j, hj, rfl⟩ := nI_of hp1
          have hjl : j ≤ (qa_txt L.1[i]).length := (nI_leI hj (by omega)).mp hp2
          obtain ⟨a, ha, rfl, ec⟩ := qa_note_of en
          have hv8 := qa_open_lt eo
          have eq : qa_insC L L.1[i] (nI j) (nI (97 + a)) = qa_amend L (qa_id L.1[i]) L.1[i] (qt_ins (qa_txt L.1[i]) j a) := by
            unfold qa_insC
            rw [if_neg hp, if_neg hA2, if_neg hA3, if_neg (by omega), ec, nI_clamp hj]
          rw [eq] at k
          unfold qw_X12_insertNote_75
          rw [qk_rv H]
          refine qe_X12_fails H (n := 0) (by omega) fun h1 H1 f1 => ?_
          refine qp_iT rfl ?_
          rw [qk_rg H1, qk_rv H1]
          refine qe_X12_keeps H1 (P := P) (L := L) HP R fun h2 M2 H2 f2 hP2 h72 e12' e22 => ?_
          have R2 : qk_G (M2.2 0) L := by rw [e22 0 (by omega)]; exact R
          rw [qk_rv H2]
          refine qe_X12_amends H2 R2 hi hv (by omega) fun h3 M3 H3 f3 ch a3 a4 a9 at_ ao => ?_
          rw [qk_rv H3, nI_1]
          refine qe_X12_of H3 (by omega) (by omega) ?_
          obtain ⟨l1, nf, l2, l3⟩ := qk_last (R2.2.2 i hi) hv
          have b1 : M3.2 0 (13 + 42 * i + (9 + 4 * v + 1)) = nI (qa_txt L.1[i]).length := (at_ 1 (by omega) (by omega)).trans l1
          have b2 : qk_tx (M3.2 0) (13 + 42 * i + (9 + 4 * v + 2)) nf := fun q hq => by
            refine ⟨(l2 q hq).1, ?_⟩
            have := (l2 q hq).2
            rw [show 13 + 42 * i + (9 + 4 * v + 2) + q / 6 = 13 + 42 * i + (9 + 4 * v + (2 + q / 6)) by omega, at_ (2 + q / 6) (by omega) (by omega), show 13 + 42 * i + (5 + 4 * v + (2 + q / 6)) = 13 + 42 * i + (5 + 4 * v + 2) + q / 6 by omega]
            exact this
          rw [b1]
          -- the notes move up
          have hL : ∀ t u hh M4 nf4, u = j + t → u ≤ (qa_txt L.1[i]).length → ∀ fu, t < fu → qk_at hh m M4 → qp_fr m (m + 10) h hh → qk_ch M3 M4 (fun x => 13 + 42 * i + (9 + 4 * v + 2) ≤ x ∧ x < 13 + 42 * i + (9 + 4 * v + 4)) → qk_tx (M4.2 0) (13 + 42 * i + (9 + 4 * v + 2)) nf4 → (∀ q, q < 12 → nf4 q = if u < q ∧ q ≤ (qa_txt L.1[i]).length then nf (q - 1) else nf q) → qw_X12_insertNote_115 m Q fu (nI j) (nI (97 + a)) (nI i) (nI (9 + 4 * v)) (nI (qa_txt L.1[i]).length) (nI u) hh := by
            intro t
            induction t with
            | zero =>
              intro u hh M4 nf4 hu hul fu hfu G f ch4 tx e4
              obtain ⟨fu, rfl⟩ : ∃ z, fu = z + 1 := ⟨fu - 1, by omega⟩
              obtain rfl : j = u := by omega
              unfold qw_X12_insertNote_115
              refine qp_iT (nI_le (Nat.le_refl _) (by omega)) ?_
              rw [qk_rv G]
              refine qe_X12_puts G (v := 9 + 4 * v) (by omega) (by omega) (by omega) fun h5 H5 f5 => ?_
              rw [qk_rv H5, nI_1, nI_1]
              refine qe_X12_lays H5 (by omega) (by omega) fun h6 H6 f6 => ?_
              rw [qk_rv H6]
              refine qe_X12_of H6 (w := 4) (by omega) (by omega) ?_
              have tx5 := tx.put (q0 := j) (a := a) (by omega) (by omega)
              have c6 : qk_ch M3 (qk_sA (qk_sA M4 0 (13 + 42 * i + (9 + 4 * v + 2 + j / 6)) (qk_pt (M4.2 0 (13 + 42 * i + (9 + 4 * v + 2 + j / 6))) (j % 6) (nI a))) 0 (13 + 42 * i + (9 + 4 * v + 1)) (nI ((qa_txt L.1[i]).length + 1))) (fun x => 13 + 42 * i + (9 + 4 * v + 1) ≤ x ∧ x < 13 + 42 * i + (9 + 4 * v + 4)) := (ch4.mono fun x hx => ⟨by omega, hx.2⟩).tr ((qk_ch.up ⟨by omega, by omega⟩).tr (qk_ch.up ⟨by omega, by omega⟩))
              have g4 : (qk_sA (qk_sA M4 0 (13 + 42 * i + (9 + 4 * v + 2 + j / 6)) (qk_pt (M4.2 0 (13 + 42 * i + (9 + 4 * v + 2 + j / 6))) (j % 6) (nI a))) 0 (13 + 42 * i + (9 + 4 * v + 1)) (nI ((qa_txt L.1[i]).length + 1))).2 0 (13 + 42 * i + 4) = nI (v + 2) := (c6.2.2 _ (by omega)).trans a4
              rw [g4]
              have htk2 : qt_ok (qt_ins (qa_txt L.1[i]) j a) := qt_ins_ok htk (by omega) hjl ha
              refine k h6 _ _ H6 (f.tr (f5.tr f6)) (qk_po.done (M1 := M2) ?_ hP2 h72 (fun z z5 z7 => (e12' z z5 z7).trans (qk_sI_n z7)) e22 (c6.1.trans ch.1) (fun z hz => (qk_chP c6 z hz).trans (qk_chP ch z hz)) (nI_pos (by omega)) (by show nI (v + 2) = nI ((qa_vs L.1[i]).length + 1); rw [hv]))
              refine qk_amendG R2 hd hi hv (by omega) htk2 (fun z => by
                have := congrArg List.length z
                rw [qt_ins_len hjl] at this
                cases this) (fun x hx => ?_) ?_ g4 ?_ ?_ (nf := fun q => if q = j then a else nf4 q) (fun q hq => ?_) (fun q hq => ?_) (fun w w1 w2 w3 => ?_)
              · exact (c6.2.2 x (fun z => hx (Or.inr ⟨by omega, by omega⟩))).trans (ch.2.2 x hx)
              · exact (c6.2.2 3 (by omega)).trans a3
              · exact (c6.2.2 _ (by omega)).trans a9
              · rw [qk_sAs, pk_us, qt_ins_len hjl]
              · refine ⟨(tx5 q hq).1, ?_⟩
                have := (tx5 q hq).2
                rw [qk_sAs, pk_un (by omega), qk_sAs]
                rw [show 13 + 42 * i + (9 + 4 * v + 2) + j / 6 = 13 + 42 * i + (9 + 4 * v + 2 + j / 6) by omega] at this
                exact this
              · show (qt_ins (qa_txt L.1[i]) j a)[q] = if q = j then a else nf4 q
                rw [qt_ins_get hjl hq]
                have hq3 : q < (qa_txt L.1[i]).length + 1 := by rw [qt_ins_len hjl] at hq; exact hq
                by_cases q1 : q < j
                · rw [dif_pos q1, if_neg (by omega), e4 q (by omega), if_neg (by omega)]
                  exact l3 q (by omega)
                · rw [dif_neg q1]
                  by_cases q2 : q = j
                  · rw [dif_pos q2, if_pos q2]
                  · rw [dif_neg q2, if_neg q2, e4 q (by omega), if_pos (by omega)]
                    exact l3 (q - 1) (by omega)
              · exact (c6.2.2 _ (by omega)).trans (ao w w1 w2 w3)
            | succ t iht =>
              intro u hh M4 nf4 hu hul fu hfu G f ch4 tx e4
              obtain ⟨fu, rfl⟩ : ∃ z, fu = z + 1 := ⟨fu - 1, by omega⟩
              obtain ⟨w, rfl⟩ : ∃ w, u = w + 1 := ⟨u - 1, by omega⟩
              unfold qw_X12_insertNote_115
              refine qp_iF (nI_ge (a := j) (b := w + 1) (by omega) (by omega)) ?_
              rw [qk_rv G, nI_pred]
              have tw := tx w (by omega)
              refine qe_X12_note G (v := 9 + 4 * v) (q := w) (a := nf4 w) (by omega) (by omega) (by omega) (by rw [← Nat.add_assoc (13 + 42 * i)]; exact tw.2) ?_
              rw [qk_rv G]
              refine qe_X12_puts G (v := 9 + 4 * v) (q := w + 1) (a := nf4 w) (by omega) (by omega) (by omega) fun h5 H5 f5 => ?_
              have tx5 := tx.put (q0 := w + 1) (a := nf4 w) (by omega) tw.1
              rw [qp_dn]
              refine iht w h5 _ (fun q => if q = w + 1 then nf4 w else nf4 q) (by omega) (by omega) fu (by omega) H5 (f.tr f5) (ch4.tr (qk_ch.up ⟨by omega, by omega⟩)) (fun q hq => ⟨(tx5 q hq).1, ?_⟩) (fun q hq => ?_)
              · have := (tx5 q hq).2
                rw [qk_sAs]
                rw [show 13 + 42 * i + (9 + 4 * v + 2) + (w + 1) / 6 = 13 + 42 * i + (9 + 4 * v + 2 + (w + 1) / 6) by omega] at this
                exact this
              · by_cases q1 : q = w + 1
                · subst q1
                  rw [if_pos rfl, if_pos (by omega), e4 w (by omega), if_neg (by omega)]
                  rfl
                · rw [if_neg q1, e4 q hq]
                  by_cases q2 : w + 1 < q ∧ q ≤ (qa_txt L.1[i]).length
                  · rw [if_pos q2, if_pos (by omega)]
                  · rw [if_neg q2, if_neg (by omega)]
          exact hL ((qa_txt L.1[i]).length - j) _ h3 M3 nf (by omega) (Nat.le_refl _) ql_FU (by unfold ql_FU; omega) H3 (f1.tr (f2.tr f3)) qk_ch.rf b2 fun q hq => by rw [if_neg (by omega)]
end QK5
