/-! The reference: days, a new clause. -/
section QK8
variable {h h1 : ql_H} {m : Nat} {M : qk_T} {L : qa_L} {P : List qa_L}
theorem qa_cnt_take {l : List qa_C} {p : qa_C → Bool} {j : Nat} (hj : j < l.length) : (l.take (j + 1)).countP p = (l.take j).countP p + (if p l[j] = true then 1 else 0) := by
  rw [List.take_succ_eq_append_getElem hj, List.countP_append, List.countP_singleton]
theorem qk_2 (g : Nat → Int32) {i : Nat} {x : Int32} (hi : i ≠ 2) : upd g 2 x i = g i := pk_un hi
/-- the day set anew -/
theorem qk_G.day {g : Nat → Int32} (R : qk_G g L) (x : Int32) : qk_G (upd g 2 x) (L.1, upd L.2.1 2 x, L.2.2) := by
  obtain ⟨⟨c0, c1, c2, c3, c4, c5, c6, c7⟩, d, e⟩ := R
  refine ⟨⟨c0, c1, c2, rfl, c4, c5, c6, c7⟩, fun x hx hh t t1 t2 t3 => (pk_un (by omega)).trans (d x hx hh t t1 t2 t3), fun q hq => (e q hq).eq fun x hx => pk_un (by omega)⟩
theorem qe_X12_advance (H : qk_at h m M) (R : qk_G (M.2 0) L) (HP : qk_P M P) (hs : ∀ A ∈ L.1, qa_sunok A) {n : Int32} (hge : ∀ A ∈ L.1, 0 ≤ L.2.1 2 ∧ (1 ≤ n → n ≤ 400 → qa_laps A (L.2.1 2) = true → qa_laps A (L.2.1 2 + n) = true)) {Q : Int32 → ql_H → Prop} (k : ∀ h1 M1 x, qk_at h1 m M1 → qp_fr m (m + 10) h h1 → qk_po M M1 P L (qa_adv L n) qf_1 x → Q x h1) : qw_X12_advance m n h Q := by
  have n16 := R.1.1
  unfold qw_X12_advance
  refine qe_X12_in ?_
  by_cases hp : n < 1 ∨ 400 < n
  · have e2 : (decide ((1 : Int32) ≤ n) && decide (n ≤ 400)) = false := by
      rcases hp with z | z
      · rw [decide_eq_false (Int32.not_le.mpr z), Bool.false_and]
      · rw [decide_eq_false (p := n ≤ 400) (Int32.not_le.mpr z), Bool.and_false]
    rw [e2]
    refine qp_iT rfl ?_
    unfold qw_X12_advance_17
    rw [qk_rv H]
    refine qe_X12_fails H (n := 1) (by omega) fun h1 H1 f1 => ?_
    exact qp_iF qp_1 (k h1 _ 0 H1 f1 (qk_po.fail R HP (y := -3) (by unfold qa_adv; rw [if_pos hp]) (by decide) rfl))
  · have hp1 : (1 : Int32) ≤ n := Int32.not_lt.mp fun z => hp (Or.inl z)
    have hp2 : n ≤ (400 : Int32) := Int32.not_lt.mp fun z => hp (Or.inr z)
    have eq : qa_adv L n = (nI (L.1.countP fun C => qa_laps C (L.2.1 2 + n)) - nI (qa_over L), L.1, upd L.2.1 2 (L.2.1 2 + n), L.2.2) := by
      unfold qa_adv
      rw [if_neg hp]
    rw [eq] at k
    rw [decide_eq_true hp1, decide_eq_true hp2]
    refine qp_iF qp_1 ?_
    unfold qw_X12_advance_17
    rw [qk_rv H]
    refine qe_X12_fails H (n := 0) (by omega) fun h1 H1 f1 => ?_
    refine qp_iT rfl ?_
    rw [qk_rg H1, qk_rv H1]
    refine qe_X12_keeps H1 (P := P) (L := L) HP R fun h2 M2 H2 f2 hP2 h72 e12' e22 => ?_
    have R2 : qk_G (M2.2 0) L := by rw [e22 0 (by omega)]; exact R
    have hle : qa_over L ≤ L.1.countP fun C => qa_laps C (L.2.1 2 + n) := List.countP_mono_left fun A hA hx => (hge A hA).2 hp1 hp2 hx
    have hle2 : (L.1.countP fun C => qa_laps C (L.2.1 2 + n)) ≤ L.1.length := List.countP_le_length
    -- after: who has lapsed then
    have h81 : ∀ hh M3 a, qk_at hh m M3 → qk_G (M3.2 0) (L.1, upd L.2.1 2 (L.2.1 2 + n), L.2.2) → (Q (a + nI (L.1.countP fun C => qa_laps C (L.2.1 2 + n))) hh) → ∀ c j fu, j + c = L.1.length → c < fu → qw_X12_advance_81 m Q fu (a + nI ((L.1.take j).countP fun C => qa_laps C (L.2.1 2 + n))) (nI j) hh := by
      intro hh M3 a G R3 hq c
      induction c with
      | zero =>
        intro j fu hj hfu
        obtain ⟨fu, rfl⟩ : ∃ z, fu = z + 1 := ⟨fu - 1, by omega⟩
        unfold qw_X12_advance_81
        rw [qk_rg G, qk_lgx G 0 0, show M3.2 0 0 = nI L.1.length from R3.1.2.1]
        refine qp_iT (nI_le (by omega) (by omega)) ?_
        rw [List.take_of_length_le (by omega)]
        exact hq
      | succ c ih =>
        intro j fu hj hfu
        obtain ⟨fu, rfl⟩ : ∃ z, fu = z + 1 := ⟨fu - 1, by omega⟩
        unfold qw_X12_advance_81 qw_X12_advance_105
        rw [qk_rg G, qk_lgx G 0 0, show M3.2 0 0 = nI L.1.length from R3.1.2.1]
        refine qp_iF (nI_ge (by omega) (by omega)) ?_
        have hj2 : j < L.1.length := by omega
        rw [qk_rv G]
        refine qe_X12_isOver (L := (L.1, upd L.2.1 2 (L.2.1 2 + n), L.2.2)) G R3 hj2 (hs _ (List.getElem_mem hj2)) ?_
        rw [nI_1, show (L.1, upd L.2.1 2 (L.2.1 2 + n), L.2.2).2.1 2 = L.2.1 2 + n from rfl]
        have hn := ih (j + 1) fu (by omega) (by omega)
        rw [qa_cnt_take hj2] at hn
        show if qp_b (qa_laps L.1[j] (L.2.1 2 + n)) = 0 then _ else _
        cases el : qa_laps L.1[j] (L.2.1 2 + n) with
        | false =>
          rw [if_neg (by rw [el]; decide), Nat.add_zero] at hn
          refine qp_iT rfl ?_
          rw [Int32.add_zero]
          exact hn
        | true =>
          rw [if_pos el] at hn
          refine qp_iF qp_1 ?_
          rw [Int32.add_assoc, nI_1]
          exact hn
    have h37 : ∀ c j fu, j + c = L.1.length → c < fu → qw_X12_advance_37 m Q fu n ((0 : Int32) - nI ((L.1.take j).countP fun C => qa_laps C (L.2.1 2))) (nI j) h2 := by
      intro c
      induction c with
      | zero =>
        intro j fu hj hfu
        obtain ⟨fu, rfl⟩ : ∃ z, fu = z + 1 := ⟨fu - 1, by omega⟩
        unfold qw_X12_advance_37
        rw [qk_rg H2, qk_lgx H2 0 0, show M2.2 0 0 = nI L.1.length from R2.1.2.1]
        refine qp_iT (nI_le (by omega) (by omega)) ?_
        rw [List.take_of_length_le (by omega), qk_rg H2, qk_lgx H2 2 2, show M2.2 0 2 = L.2.1 2 from R2.1.2.2.2.1, show (2 : Int32) = nI 2 from rfl]
        refine qk_sg H2 (by omega) fun h3 H3 f3 => ?_
        have R3 : qk_G ((qk_sA M2 0 2 (L.2.1 2 + n)).2 0) (L.1, upd L.2.1 2 (L.2.1 2 + n), L.2.2) := by
          rw [qk_sAs]
          exact R2.day _
        have := h81 h3 _ ((0 : Int32) - nI (L.1.countP fun C => qa_laps C (L.2.1 2))) H3 R3 (k h3 _ _ H3 (f1.tr (f2.tr f3)) (qk_po.done (M1 := M2) R3 hP2 h72 (fun z z5 z7 => (e12' z z5 z7).trans (qk_sI_n z7)) e22 rfl (fun z hz => qk_sAn (by omega)) ?_ ?_)) L.1.length 0 ql_FU (by omega) (by unfold ql_FU; omega)
        · rw [List.take_zero, List.countP_nil] at this
          rw [show nI 0 = (0 : Int32) from rfl, Int32.add_zero] at this
          exact this
        · show ¬ (nI (L.1.countP fun C => qa_laps C (L.2.1 2 + n)) - nI (qa_over L) < 0)
          rw [pk_sub hle]
          exact nI_pos (by omega)
        · show (0 : Int32) - nI (qa_over L) + nI _ = nI _ - nI (qa_over L)
          rw [Int32.sub_eq_add_neg, Int32.zero_add, Int32.sub_eq_add_neg, Int32.add_comm]
      | succ c ih =>
        intro j fu hj hfu
        obtain ⟨fu, rfl⟩ : ∃ z, fu = z + 1 := ⟨fu - 1, by omega⟩
        unfold qw_X12_advance_37 qw_X12_advance_61
        rw [qk_rg H2, qk_lgx H2 0 0, show M2.2 0 0 = nI L.1.length from R2.1.2.1]
        refine qp_iF (nI_ge (by omega) (by omega)) ?_
        have hj2 : j < L.1.length := by omega
        rw [qk_rv H2]
        refine qe_X12_isOver H2 R2 hj2 (hs _ (List.getElem_mem hj2)) ?_
        rw [nI_1]
        have hn := ih (j + 1) fu (by omega) (by omega)
        rw [qa_cnt_take hj2] at hn
        cases el : qa_laps L.1[j] (L.2.1 2) with
        | false =>
          rw [if_neg (by rw [el]; decide), Nat.add_zero] at hn
          refine qp_iT rfl ?_
          rw [Int32.sub_zero]
          exact hn
        | true =>
          rw [if_pos el, ← nI_1] at hn
          refine qp_iF qp_1 ?_
          have e3 : ∀ a b : Int32, (0 : Int32) - a - b = 0 - (a + b) := fun a b => by
            rw [Int32.sub_eq_add_neg, Int32.sub_eq_add_neg, Int32.sub_eq_add_neg, Int32.neg_add, Int32.zero_add, Int32.zero_add]
            exact Int32.sub_eq_add_neg _ _ ▸ rfl
          rw [e3]
          exact hn
    have := h37 L.1.length 0 ql_FU (by omega) (by unfold ql_FU; omega)
    rw [List.take_zero, List.countP_nil] at this
    exact this
/-- one clause more at the end -/
theorem qk_G.app {g g1 : Nat → Int32} (R : qk_G g L) {A : qa_C} {F : Nat → Int32} (hn : L.1.length < 16) (e0 : g1 0 = nI (L.1.length + 1)) (e1 : g1 1 = F 3) (hF : ∀ j, j ≠ 3 → F j = L.2.1 j) (lo : ∀ x, 1 < x → x < 13 + 42 * L.1.length → g1 x = g x) (hc : qk_c (qk_row g1 L.1.length) A) : qk_G g1 (L.1 ++ [A], F, L.2.2) := by
  obtain ⟨⟨c0, c1, c2, c3, c4, c5, c6, c7⟩, d, e⟩ := R
  have hl : (L.1 ++ [A]).length = L.1.length + 1 := List.length_append
  refine ⟨⟨by show (L.1 ++ [A]).length ≤ 16; omega, by show g1 0 = nI (L.1 ++ [A]).length; rw [hl]; exact e0, e1, ?_, ?_, ?_, ?_, ?_⟩, fun x hx hh t t1 t2 t3 => ?_, fun q hq => ?_⟩
  · show g1 2 = F 2
    rw [lo 2 (by omega) (by omega), hF 2 (by omega)]
    exact c3
  · show g1 3 = F 4
    rw [lo 3 (by omega) (by omega), hF 4 (by omega)]
    exact c4
  · show g1 4 = F 5
    rw [lo 4 (by omega) (by omega), hF 5 (by omega)]
    exact c5
  · show g1 5 = F 6
    rw [lo 5 (by omega) (by omega), hF 6 (by omega)]
    exact c6
  · show g1 6 = F 7
    rw [lo 6 (by omega) (by omega), hF 7 (by omega)]
    exact c7
  · rw [lo _ (by omega) (by omega)]
    exact d x hx ((hF 7 (by omega)).symm.trans hh) t t1 t2 t3
  · have hq2 : q < (L.1 ++ [A]).length := hq
    show qk_c (qk_row g1 q) (L.1 ++ [A])[q]
    by_cases e2 : q = L.1.length
    · subst e2
      rw [List.getElem_append_right (Nat.le_refl _)]
      simp only [Nat.sub_self, List.getElem_cons_zero]
      exact hc
    · rw [List.getElem_append_left (by omega)]
      exact (e q (by omega)).eq fun x hx => lo _ (by omega) (by omega)
def qf_add (y : Int32) : Nat := if y = -3 then 1 else if y = -4 then 2 else 3
theorem qe_X12_addClause (H : qk_at h m M) (R : qk_G (M.2 0) L) (HP : qk_P M P) (ha : ∃ a, a < 2 ^ 31 ∧ L.2.1 3 = nI a) {s x : Int32} {Q : Int32 → ql_H → Prop} (k : ∀ h1 M1 r, qk_at h1 m M1 → qp_fr m (m + 10) h h1 → qk_po M M1 P L (qa_add L s x) qf_add r → Q r h1) : qw_X12_addClause m s x h Q := by
  have n16 := R.1.1
  have fl : ∀ (e : Nat) (y : Int32), 0 < e → e < 10 → y < 0 → qf_add y = e → qa_add L s x = (y, L) → qw_X12_addClause_50 m Q s x (some m) (nI e) h := by
    intro e y h0 h10 hy hf eq
    unfold qw_X12_addClause_50
    rw [qk_rv H]
    refine qe_X12_fails H (by omega) fun h1 H1 f1 => ?_
    rw [decide_eq_true h0]
    exact qp_iF qp_1 (k h1 _ 0 H1 f1 (qk_po.fail R HP eq hy hf))
  unfold qw_X12_addClause qw_X12_addClause_18
  refine qe_X12_in ?_
  by_cases hp : s < 1 ∨ 99 < s
  · have e2 : (decide ((1 : Int32) ≤ s) && decide (s ≤ 99)) = false := by
      rcases hp with z | z
      · rw [decide_eq_false (Int32.not_le.mpr z), Bool.false_and]
      · rw [decide_eq_false (p := s ≤ 99) (Int32.not_le.mpr z), Bool.and_false]
    rw [e2]
    exact qp_iT rfl (fl 1 (-3) (by omega) (by omega) (by decide) (by decide) (if_pos (hp.elim Or.inl fun z => Or.inr (Or.inl z))))
  · have hp1 : (1 : Int32) ≤ s := Int32.not_lt.mp fun z => hp (Or.inl z)
    have hp2 : s ≤ (99 : Int32) := Int32.not_lt.mp fun z => hp (Or.inr z)
    rw [decide_eq_true hp1, decide_eq_true hp2]
    refine qp_iF qp_1 ?_
    refine qe_X12_isNote ?_
    cases en : qa_note x with
    | false => exact qp_iT rfl (fl 1 (-3) (by omega) (by omega) (by decide) (by decide) (if_pos (Or.inr (Or.inr en))))
    | true =>
      have hA : ¬ (s < 1 ∨ 99 < s ∨ qa_note x = false) := fun z => by
        rcases z with z | z | z
        · exact hp (Or.inl z)
        · exact hp (Or.inr z)
        · rw [en] at z
          cases z
      refine qp_iF qp_1 ?_
      rw [qk_rg H, qk_lgx H 0 0, qk_len R]
      by_cases e16 : L.1.length = 16
      · refine qp_iT (by rw [e16]; rfl) (fl 2 (-4) (by omega) (by omega) (by decide) (by decide) (by unfold qa_add; rw [if_neg hA, if_pos (by omega)]))
      · refine qp_iF (fun z => e16 ((nI_eq (b := 16) (by omega) (by omega)).mp z)) ?_
        rw [qk_rv H]
        refine qe_X12_withSection H R (fun i hi e _ => qp_iF (nI_pos (by omega)) (fl 3 (-5) (by omega) (by omega) (by decide) (by decide) ?_)) (fun hno => ?_)
        · unfold qa_add
          rw [if_neg hA, if_neg (by omega), if_pos (List.any_eq_true.mpr ⟨_, List.getElem_mem hi, by rw [e]; exact beq_self_eq_true s⟩)]
        · refine qp_iT (by decide) ?_
          obtain ⟨a, ha7, rfl, ec⟩ := qa_note_of en
          obtain ⟨id, id31, hid⟩ := ha
          have eq : qa_add L s (nI (97 + a)) = (L.2.1 3, L.1 ++ [((L.2.1 3, s, L.2.1 2, -1), [(L.2.1 2, [a])], [])], upd L.2.1 3 (L.2.1 3 + 1), L.2.2) := by
            unfold qa_add
            rw [if_neg hA, if_neg (by omega), if_neg, ec]
            rw [List.any_eq_true]
            rintro ⟨D, hD, z2⟩
            exact hno D hD (by simpa using z2)
          rw [eq] at k
          unfold qw_X12_addClause_50
          rw [qk_rv H]
          refine qe_X12_fails H (n := 0) (by omega) fun h1 H1 f1 => ?_
          refine qp_iT rfl ?_
          rw [qk_rg H1, qk_rv H1]
          refine qe_X12_keeps H1 (P := P) (L := L) HP R fun h2 M2 H2 f2 hP2 h72 e12' e22 => ?_
          have R2 : qk_G (M2.2 0) L := by rw [e22 0 (by omega)]; exact R
          rw [qk_rg H2, qk_lgx H2 0 0, qk_len R2, qk_rg H2, qk_lgx H2 0 0, qk_len R2, nI_1, show (0 : Int32) = nI 0 from rfl]
          refine qk_sg H2 (by omega) fun h3 H3 f3 => ?_
          have hL : ∀ c j fu hh M4, j + c = 42 → c < fu → qk_at hh m M4 → qp_fr m (m + 10) h hh → M4.1 = M2.1 → (∀ i, i ≠ 0 → M4.2 i = M2.2 i) → M4.2 0 0 = nI (L.1.length + 1) → (∀ i, 0 < i → i < 13 + 42 * L.1.length → M4.2 0 i = M2.2 0 i) → (∀ w, w < j → M4.2 0 (13 + 42 * L.1.length + w) = 0) → qw_X12_addClause_86 m Q fu s (nI (97 + a)) (nI L.1.length) (nI j) hh := by
            intro c
            induction c with
            | zero =>
              intro j fu hh M4 hj hfu G f a1 a2 a3 a4 a5
              obtain ⟨fu, rfl⟩ : ∃ z, fu = z + 1 := ⟨fu - 1, by omega⟩
              obtain rfl : j = 42 := by omega
              unfold qw_X12_addClause_86
              refine qp_iT (nI_le (a := 42) (Nat.le_refl _) (by omega)) ?_
              have g1 : M4.2 0 1 = L.2.1 3 := (a4 1 (by omega) (by omega)).trans R2.1.2.2.1
              have g2 : M4.2 0 2 = L.2.1 2 := (a4 2 (by omega) (by omega)).trans R2.1.2.2.2.1
              rw [qk_rg G, qk_lgx G 1 1, g1, qk_rv G]
              refine qe_X12_lays G (w := 0) (by omega) (by omega) fun h5 H5 f5 => ?_
              rw [qk_rv H5]
              refine qe_X12_lays H5 (w := 1) (by omega) (by omega) fun h6 H6 f6 => ?_
              rw [qk_rg H6, qk_lgx H6 2 2, qk_sAs, pk_un (by omega), qk_sAs, pk_un (by omega), g2, qk_rv H6]
              refine qe_X12_lays H6 (w := 2) (by omega) (by omega) fun h7 H7 f7 => ?_
              rw [qk_rv H7]
              refine qe_X12_lays H7 (w := 3) (by omega) (by omega) fun h8 H8 f8 => ?_
              rw [qk_rv H8]
              refine qe_X12_lays H8 (w := 4) (by omega) (by omega) fun h9 H9 f9 => ?_
              rw [qk_rg H9, qk_lgx H9 2 2, qk_sAs, pk_un (by omega), qk_sAs, pk_un (by omega), qk_sAs, pk_un (by omega), qk_sAs, pk_un (by omega), qk_sAs, pk_un (by omega), g2, qk_rv H9]
              refine qe_X12_lays H9 (w := 5) (by omega) (by omega) fun h10 H10 f10 => ?_
              rw [qk_rv H10]
              refine qe_X12_lays H10 (w := 6) (by omega) (by omega) fun h11 H11 f11 => ?_
              rw [qk_rv H11]
              refine qe_X12_puts H11 (v := 5) (q := 0) (a := a) (by omega) (by omega) (by omega) fun h12 H12 f12 => ?_
              generalize hM : qk_sA (qk_sA (qk_sA (qk_sA (qk_sA (qk_sA (qk_sA M4 0 (13 + 42 * L.1.length + 0) (L.2.1 3)) 0 (13 + 42 * L.1.length + 1) s) 0 (13 + 42 * L.1.length + 2) (L.2.1 2)) 0 (13 + 42 * L.1.length + 3) (-1)) 0 (13 + 42 * L.1.length + 4) 1) 0 (13 + 42 * L.1.length + 5) (L.2.1 2)) 0 (13 + 42 * L.1.length + 6) 1 = M5 at *
              have b0 : M5.1 = M2.1 := by rw [← hM]; exact a1
              have b1 : ∀ i, i ≠ 0 → M5.2 i = M2.2 i := fun i hi => by
                rw [← hM, qk_sAn hi, qk_sAn hi, qk_sAn hi, qk_sAn hi, qk_sAn hi, qk_sAn hi, qk_sAn hi]
                exact a2 i hi
              have b2 : ∀ w, (w < 13 + 42 * L.1.length ∨ 13 + 42 * L.1.length + 7 ≤ w) → M5.2 0 w = M4.2 0 w := fun w hw => by
                rw [← hM, qk_sAs, pk_un (by omega), qk_sAs, pk_un (by omega), qk_sAs, pk_un (by omega), qk_sAs, pk_un (by omega), qk_sAs, pk_un (by omega), qk_sAs, pk_un (by omega), qk_sAs, pk_un (by omega)]
              have r0 : M5.2 0 (13 + 42 * L.1.length + 0) = L.2.1 3 := by
                rw [← hM, qk_sAs, pk_un (by omega), qk_sAs, pk_un (by omega), qk_sAs, pk_un (by omega), qk_sAs, pk_un (by omega), qk_sAs, pk_un (by omega), qk_sAs, pk_un (by omega), qk_sAs, pk_us]
              have r1 : M5.2 0 (13 + 42 * L.1.length + 1) = s := by
                rw [← hM, qk_sAs, pk_un (by omega), qk_sAs, pk_un (by omega), qk_sAs, pk_un (by omega), qk_sAs, pk_un (by omega), qk_sAs, pk_un (by omega), qk_sAs, pk_us]
              have r2 : M5.2 0 (13 + 42 * L.1.length + 2) = L.2.1 2 := by
                rw [← hM, qk_sAs, pk_un (by omega), qk_sAs, pk_un (by omega), qk_sAs, pk_un (by omega), qk_sAs, pk_un (by omega), qk_sAs, pk_us]
              have r3 : M5.2 0 (13 + 42 * L.1.length + 3) = -1 := by
                rw [← hM, qk_sAs, pk_un (by omega), qk_sAs, pk_un (by omega), qk_sAs, pk_un (by omega), qk_sAs, pk_us]
              have r4 : M5.2 0 (13 + 42 * L.1.length + 4) = 1 := by
                rw [← hM, qk_sAs, pk_un (by omega), qk_sAs, pk_un (by omega), qk_sAs, pk_us]
              have r5 : M5.2 0 (13 + 42 * L.1.length + 5) = L.2.1 2 := by
                rw [← hM, qk_sAs, pk_un (by omega), qk_sAs, pk_us]
              have r6 : M5.2 0 (13 + 42 * L.1.length + 6) = 1 := by
                rw [← hM, qk_sAs, pk_us]
              have r7 : M5.2 0 (13 + 42 * L.1.length + (5 + 2 + 0 / 6)) = 0 := (b2 _ (Or.inr (by omega))).trans (a5 7 (by omega))
              have r37 : M5.2 0 (13 + 42 * L.1.length + 37) = 0 := (b2 _ (Or.inr (by omega))).trans (a5 37 (by omega))
              rw [qk_rg H12, qk_lgx H12 1 1, qk_sAs, pk_un (by omega), b2 1 (Or.inl (by omega)), g1, show (1 : Int32) = nI 1 from rfl]
              refine qk_sg H12 (by omega) fun h13 H13 f13 => ?_
              rw [qk_rg H13, show nI 1 = (1 : Int32) from rfl, qk_lgx H13 1 1, qk_sAs, pk_us, hid, show (1 : Int32) = nI 1 from rfl, nI_add, show nI 1 = (1 : Int32) from rfl, nI_pred]
              refine k h13 _ _ H13 (f.tr (f5.tr (f6.tr (f7.tr (f8.tr (f9.tr (f10.tr (f11.tr (f12.tr f13))))))))) (qk_po.done (M1 := M2) ?_ hP2 h72 (fun z z5 z7 => (e12' z z5 z7).trans (qk_sI_n z7)) e22 b0 (fun z hz => (qk_sAn (by omega)).trans ((qk_sAn (by omega)).trans (b1 z (by omega)))) (by show ¬ L.2.1 3 < 0; rw [hid]; exact nI_pos id31) hid.symm)
              have lo : ∀ w, w ≠ 1 → w ≠ 13 + 42 * L.1.length + 7 → (qk_sA (qk_sA M5 0 (13 + 42 * L.1.length + (5 + 2 + 0 / 6)) (qk_pt (M5.2 0 (13 + 42 * L.1.length + (5 + 2 + 0 / 6))) (0 % 6) (nI a))) 0 1 (L.2.1 3 + nI 1)).2 0 w = M5.2 0 w := fun w w1 w2 => by
                rw [qk_sAs, pk_un w1, qk_sAs, pk_un (by omega)]
              refine R2.app (by omega) ((lo 0 (by omega) (by omega)).trans ((b2 0 (Or.inl (by omega))).trans a3)) ?_ (fun j hj => pk_un hj) (fun w w1 w2 => (lo w (by omega) (by omega)).trans ((b2 w (Or.inl w2)).trans (a4 w (by omega) w2))) ⟨⟨(lo _ (by omega) (by omega)).trans r0, (lo _ (by omega) (by omega)).trans r1, (lo _ (by omega) (by omega)).trans r2, (lo _ (by omega) (by omega)).trans r3⟩, ⟨(lo _ (by omega) (by omega)).trans r4, fun j hj => ?_⟩, ⟨(lo _ (by omega) (by omega)).trans r37, fun j hj => absurd hj (Nat.not_lt_zero j)⟩, ⟨⟨Nat.le_refl _, Nat.le_of_ble_eq_true rfl, fun v hv => ?_⟩, Nat.le_of_ble_eq_true rfl, List.nodup_nil, fun z hz => ?_⟩⟩
              · rw [qk_sAs, pk_us]
                rfl
              · have hj2 : j < 1 := hj
                obtain rfl : j = 0 := by omega
                refine ⟨(lo (13 + 42 * L.1.length + 5) (by omega) (by omega)).trans r5, (lo (13 + 42 * L.1.length + 6) (by omega) (by omega)).trans r6, fun q hq => ?_⟩
                have hq2 : q < 1 := hq
                obtain rfl : q = 0 := by omega
                show qk_nt ((qk_sA (qk_sA M5 0 (13 + 42 * L.1.length + (5 + 2 + 0 / 6)) (qk_pt (M5.2 0 (13 + 42 * L.1.length + (5 + 2 + 0 / 6))) (0 % 6) (nI a))) 0 1 (L.2.1 3 + nI 1)).2 0 (13 + 42 * L.1.length + 7)) 0 = nI a
                rw [qk_sAs, pk_un (by omega), qk_sAs]
                show qk_nt (upd (M5.2 0) (13 + 42 * L.1.length + 7) (qk_pt (M5.2 0 (13 + 42 * L.1.length + 7)) 0 (nI a)) (13 + 42 * L.1.length + 7)) 0 = nI a
                rw [pk_us, qk_nt_pt _ (by omega) (by omega) (by omega), if_pos rfl]
              · have hv2 : v ∈ [((L.2.1 2, [a]) : qa_V)] := hv
                cases List.mem_singleton.mp hv2
                exact ⟨⟨fun y hy => by rw [List.mem_singleton.mp hy]; exact ha7, Nat.le_of_ble_eq_true rfl⟩, fun z => by cases z⟩
              · exact absurd (show z ∈ ([] : List Int32) from hz) List.not_mem_nil
            | succ c ih =>
              intro j fu hh M4 hj hfu G f a1 a2 a3 a4 a5
              obtain ⟨fu, rfl⟩ : ∃ z, fu = z + 1 := ⟨fu - 1, by omega⟩
              unfold qw_X12_addClause_86
              refine qp_iF (nI_ge (a := j) (b := 42) (by omega) (by omega)) ?_
              rw [qk_rv G]
              refine qe_X12_lays G (w := j) (by omega) (by omega) fun h5 H5 f5 => ?_
              rw [nI_1]
              refine ih (j + 1) fu h5 _ (by omega) (by omega) H5 (f.tr f5) a1 (fun i hi => (qk_sAn hi).trans (a2 i hi)) (by rw [qk_sAs, pk_un (by omega)]; exact a3) (fun i i0 hi => by rw [qk_sAs, pk_un (by omega)]; exact a4 i i0 hi) fun w hw => ?_
              rw [qk_sAs]
              by_cases e : w = j
              · subst e
                rw [pk_us]
              · rw [pk_un (by omega)]
                exact a5 w (by omega)
          refine hL 42 0 ql_FU h3 _ rfl (by unfold ql_FU; omega) H3 (f1.tr (f2.tr f3)) rfl (fun i hi => qk_sAn hi) (by rw [qk_sAs, pk_us]) (fun i i0 hi => by rw [qk_sAs, pk_un (by omega)]) fun w hw => absurd hw (Nat.not_lt_zero w)
end QK8
