/-! The reference: broken cites, reach, ranks, totals, means. -/
section QKD
variable {h h1 : ql_H} {m : Nat} {M : qk_T} {L : qa_L}
theorem qe_X12_valid (H : qk_at h m M) (R : qk_G (M.2 0) L) (hs : ∀ A ∈ L.1, qa_sunok A) {d : Int32} {Q : Int32 → ql_H → Prop} (k : Q (nI (qa_valid L.1 d)) h) : qw_X12_valid m d h Q := by
  have n16 := R.1.1
  have hL : ∀ c j fu, j + c = L.1.length → c < fu → qw_X12_valid_4 m Q fu d (nI ((L.1.take j).countP fun C => qa_hold C d)) (nI j) h := by
    intro c
    induction c with
    | zero =>
      intro j fu hj hfu
      obtain ⟨fu, rfl⟩ : ∃ z, fu = z + 1 := ⟨fu - 1, by omega⟩
      unfold qw_X12_valid_4
      rw [qk_rg H, qk_lgx H 0 0, qk_len R]
      refine qp_iT (nI_le (by omega) (by omega)) ?_
      rw [List.take_of_length_le (by omega)]
      exact k
    | succ c ih =>
      intro j fu hj hfu
      obtain ⟨fu, rfl⟩ : ∃ z, fu = z + 1 := ⟨fu - 1, by omega⟩
      unfold qw_X12_valid_4 qw_X12_valid_29
      rw [qk_rg H, qk_lgx H 0 0, qk_len R]
      refine qp_iF (nI_ge (by omega) (by omega)) ?_
      have hj2 : j < L.1.length := by omega
      rw [qk_rv H]
      refine qe_X12_isValid H R hj2 (hs _ (List.getElem_mem hj2)) ?_
      rw [nI_1]
      have hn := ih (j + 1) fu (by omega) (by omega)
      rw [qa_cnt_take hj2] at hn
      cases el : qa_hold L.1[j] d with
      | false =>
        rw [if_neg (by rw [el]; decide), Nat.add_zero] at hn
        refine qp_iT rfl ?_
        rw [Int32.add_zero]
        exact hn
      | true =>
        rw [if_pos el] at hn
        refine qp_iF qp_1 ?_
        rw [nI_1]
        exact hn
  exact hL L.1.length 0 ql_FU (by omega) (by unfold ql_FU; omega)
theorem qe_X12_inForceOn (H : qk_at h m M) (R : qk_G (M.2 0) L) (hs : ∀ A ∈ L.1, qa_sunok A) {d : Int32} {Q : Int32 → ql_H → Prop} (k : ∀ h1 M1 x, qk_at h1 m M1 → qp_fr m (m + 10) h h1 → qk_pq M M1 (0, nI (qa_valid L.1 d)) x → Q x h1) : qw_X12_inForceOn m d h Q := by
  unfold qw_X12_inForceOn
  refine qk_p H 7 fun h1 H1 f1 => ?_
  rw [qk_rv H1]
  exact qe_X12_valid H1 (L := L) R hs (k h1 _ _ H1 f1 (qk_pq.mk (n := 0) rfl fun _ => rfl))
/-- how many cites of a clause are broken -/
def qa_br (L : qa_L) (y : Int32) : Bool := match qa_find L.1 y with
  | none => true
  | some D => !qa_hold D (L.2.1 2)
theorem qa_brokenE (L : qa_L) : qa_broken L = (L.1.map fun C => (qa_ci C).countP (qa_br L)).sum := rfl
theorem qa_sum_take {l : List Nat} {j : Nat} (hj : j < l.length) : (l.take (j + 1)).sum = (l.take j).sum + l[j] := by
  rw [List.take_succ_eq_append_getElem hj, List.sum_append_nat]
  rfl
theorem qa_sum_le {l : List Nat} {b : Nat} (h : ∀ x ∈ l, x ≤ b) : l.sum ≤ l.length * b := by
  induction l with
  | nil => exact Nat.zero_le _
  | cons x l ih =>
    have h1 := ih fun y hy => h y (List.mem_cons_of_mem _ hy)
    have h2 := h x (List.mem_cons_self ..)
    rw [List.sum_cons, List.length_cons, Nat.add_mul]
    omega
theorem qe_X12_brokenCites (H : qk_at h m M) (R : qk_G (M.2 0) L) (hs : ∀ A ∈ L.1, qa_sunok A) {Q : Int32 → ql_H → Prop} (k : ∀ h1 M1 x, qk_at h1 m M1 → qp_fr m (m + 10) h h1 → qk_pq M M1 (0, nI (qa_broken L)) x → Q x h1) : qw_X12_brokenCites m h Q := by
  have n16 := R.1.1
  unfold qw_X12_brokenCites
  refine qk_p H 7 fun h1 H1 f1 => ?_
  have R1 : qk_G ((qk_sI M 7 0).2 0) L := R
  have hL : ∀ c a fu, a + c = L.1.length → c < fu → qw_X12_brokenCites_9 m Q fu (nI (((L.1.map fun C => (qa_ci C).countP (qa_br L)).take a).sum)) (nI a) h1 := by
    intro c
    induction c with
    | zero =>
      intro a fu ha hfu
      obtain ⟨fu, rfl⟩ : ∃ z, fu = z + 1 := ⟨fu - 1, by omega⟩
      unfold qw_X12_brokenCites_9
      rw [qk_rg H1, qk_lgx H1 0 0, show (qk_sI M 7 0).2 0 0 = nI L.1.length from qk_len R]
      refine qp_iT (nI_le (by omega) (by omega)) ?_
      rw [List.take_of_length_le (by rw [List.length_map]; omega)]
      exact k h1 _ _ H1 f1 (qk_pq.mk (n := 0) rfl fun _ => rfl)
    | succ c ih =>
      intro a fu ha hfu
      obtain ⟨fu, rfl⟩ : ∃ z, fu = z + 1 := ⟨fu - 1, by omega⟩
      unfold qw_X12_brokenCites_9
      rw [qk_rg H1, qk_lgx H1 0 0, show (qk_sI M 7 0).2 0 0 = nI L.1.length from qk_len R]
      refine qp_iF (nI_ge (by omega) (by omega)) ?_
      have ha2 : a < L.1.length := by omega
      have haM : a < (L.1.map fun C => (qa_ci C).countP (qa_br L)).length := by rw [List.length_map]; exact ha2
      have hc := qk_cl R1 ha2
      have h4 := hc.2.2.2.2.1
      have h21 : ∀ c b fu2, b + c = (qa_ci L.1[a]).length → c < fu2 → qw_X12_brokenCites_21 m Q (qw_X12_brokenCites_9 m Q fu) fu2 (nI (((L.1.map fun C => (qa_ci C).countP (qa_br L)).take a).sum + ((qa_ci L.1[a]).take b).countP (qa_br L))) (nI a) (nI b) h1 := by
        intro c
        induction c with
        | zero =>
          intro b fu2 hb hfu2
          obtain ⟨fu2, rfl⟩ : ∃ z, fu2 = z + 1 := ⟨fu2 - 1, by omega⟩
          unfold qw_X12_brokenCites_21
          rw [qk_rv H1]
          refine qe_X12_of H1 (w := 37) (by omega) (by omega) ?_
          rw [show (qk_sI M 7 0).2 0 (13 + 42 * a + 37) = nI (qa_ci L.1[a]).length from hc.2.2.1.1]
          refine qp_iT (nI_le (by omega) (by omega)) ?_
          have hn := ih (a + 1) fu (by omega) (by omega)
          rw [qa_sum_take haM, List.getElem_map] at hn
          rw [nI_1, List.take_of_length_le (show (qa_ci L.1[a]).length ≤ b by omega)]
          exact hn
        | succ c ih2 =>
          intro b fu2 hb hfu2
          obtain ⟨fu2, rfl⟩ : ∃ z, fu2 = z + 1 := ⟨fu2 - 1, by omega⟩
          have hb2 : b < (qa_ci L.1[a]).length := by omega
          unfold qw_X12_brokenCites_21 qw_X12_brokenCites_68 qw_X12_brokenCites_73
          rw [qk_rv H1]
          refine qe_X12_of H1 (w := 37) (by omega) (by omega) ?_
          rw [show (qk_sI M 7 0).2 0 (13 + 42 * a + 37) = nI (qa_ci L.1[a]).length from hc.2.2.1.1]
          refine qp_iF (nI_ge (by omega) (by omega)) ?_
          rw [qk_rv H1, show (38 : Int32) = nI 38 from rfl, nI_add]
          refine qe_X12_of H1 (by omega) (by omega) ?_
          rw [show (qk_sI M 7 0).2 0 (13 + 42 * a + (38 + b)) = (qa_ci L.1[a])[b] from hc.2.2.1.2 b hb2, qk_rv H1, nI_1 b]
          have hn := ih2 (b + 1) fu2 (by omega) (by omega)
          rw [List.take_succ_eq_append_getElem hb2, List.countP_append, List.countP_singleton, ← Nat.add_assoc] at hn
          have yes : qa_br L (qa_ci L.1[a])[b] = true → qw_X12_brokenCites_21 m Q (qw_X12_brokenCites_9 m Q fu) fu2 (nI (((L.1.map fun C => (qa_ci C).countP (qa_br L)).take a).sum + ((qa_ci L.1[a]).take b).countP (qa_br L)) + 1) (nI a) (nI (b + 1)) h1 := fun e => by
            rw [if_pos e] at hn
            rw [nI_1]
            exact hn
          have no : qa_br L (qa_ci L.1[a])[b] = false → qw_X12_brokenCites_21 m Q (qw_X12_brokenCites_9 m Q fu) fu2 (nI (((L.1.map fun C => (qa_ci C).countP (qa_br L)).take a).sum + ((qa_ci L.1[a]).take b).countP (qa_br L)) + 0) (nI a) (nI (b + 1)) h1 := fun e => by
            rw [if_neg (by rw [e]; decide), Nat.add_zero] at hn
            rw [Int32.add_zero]
            exact hn
          refine qe_X12_placeOf H1 (L := L) R1 (fun i hi e f => ?_) (fun e => qp_iT (by decide) (yes (by unfold qa_br; rw [e])))
          refine qp_iF (nI_pos (by omega)) ?_
          rw [qk_rg H1, qk_lgx H1 2 2, show (qk_sI M 7 0).2 0 2 = L.2.1 2 from R1.1.2.2.2.1, qk_rv H1]
          refine qe_X12_isValid H1 (L := L) R1 hi (hs _ (List.getElem_mem hi)) ?_
          have ebr : qa_br L (qa_ci L.1[a])[b] = !qa_hold L.1[i] (L.2.1 2) := by
            unfold qa_br
            rw [f]
          cases el : qa_hold L.1[i] (L.2.1 2) with
          | false => exact qp_iT rfl (yes (by rw [ebr, el]; rfl))
          | true => exact qp_iF qp_1 (no (by rw [ebr, el]; rfl))
      have := h21 (qa_ci L.1[a]).length 0 ql_FU (by omega) (by unfold ql_FU; omega)
      rw [List.take_zero, List.countP_nil, Nat.add_zero] at this
      exact this
  have := hL L.1.length 0 ql_FU (by omega) (by unfold ql_FU; omega)
  exact this
/-- clause i cites clause j, by their places -/
def qk_E (l : List qa_C) (i j : Nat) : Prop := ∃ (hi : i < l.length) (hj : j < l.length), qa_id l[j] ∈ qa_ci l[i]
theorem qg_bit2 (x : Int32) {j : Nat} (hj : j < 31) : ((x >>> (nI j &&& 31)) &&& (1 : Int32)) = 1 ↔ qg_b x j = true := by
  have e : ∀ y : Int32, (y &&& (1 : Int32)) = 1 ↔ qg_b y 0 = true := fun y => by
    rw [pk_and _ 1 rfl, show (1 : Int32) = nI 1 from rfl, nI_eq (by omega) (by omega)]
    show _ ↔ y.toBitVec.toNat.testBit 0 = true
    rw [Nat.testBit_eq_decide_div_mod_eq, decide_eq_true_eq, Nat.pow_zero, Nat.div_one]
  rw [e, qg_shr (by omega) _ (by omega) (by omega), Nat.add_zero]
theorem qe_X12_straight (H : qk_at h m M) (R : qk_G (M.2 0) L) (hd : (L.1.map qa_id).Pairwise (· < ·)) {i : Nat} (hi : i < L.1.length) {Q : Int32 → ql_H → Prop} (k : ∀ s, (∀ j, j < 32 → (qg_b s j = true ↔ qk_E L.1 i j)) → Q s h) : qw_X12_straight m (nI i) h Q := by
  have n16 := R.1.1
  have hc := qk_cl R hi
  have h4 := hc.2.2.2.2.1
  have inj : ∀ (a b : Nat) (ha : a < L.1.length) (hb : b < L.1.length), qa_id L.1[a] = qa_id L.1[b] → a = b := fun a b ha hb e => by
    rw [List.pairwise_map, List.pairwise_iff_getElem] at hd
    rcases Nat.lt_trichotomy a b with z | z | z
    · have := hd a b ha hb z
      rw [e] at this
      exact absurd this Int32.lt_irrefl
    · exact z
    · have := hd b a hb ha z
      rw [e] at this
      exact absurd this Int32.lt_irrefl
  have hL : ∀ c p fu s, p + c = (qa_ci L.1[i]).length → c < fu → (∀ j, j < 32 → (qg_b s j = true ↔ ∃ (hj : j < L.1.length) (q : Nat) (hq : q < (qa_ci L.1[i]).length), q < p ∧ (qa_ci L.1[i])[q] = qa_id L.1[j])) → qw_X12_straight_4 m Q fu (nI i) s (nI p) h := by
    intro c
    induction c with
    | zero =>
      intro p fu s hp hfu hb
      obtain ⟨fu, rfl⟩ : ∃ z, fu = z + 1 := ⟨fu - 1, by omega⟩
      unfold qw_X12_straight_4
      rw [qk_rv H]
      refine qe_X12_of H (w := 37) (by omega) (by omega) ?_
      rw [show M.2 0 (13 + 42 * i + 37) = nI (qa_ci L.1[i]).length from hc.2.2.1.1]
      refine qp_iT (nI_le (by omega) (by omega)) (k s fun j hj => (hb j hj).trans ⟨?_, ?_⟩)
      · rintro ⟨q1, q, q2, _, q4⟩
        exact ⟨hi, q1, q4 ▸ List.getElem_mem q2⟩
      · rintro ⟨_, q1, q2⟩
        obtain ⟨q, q3, q4⟩ := List.mem_iff_getElem.mp q2
        exact ⟨q1, q, q3, by omega, q4⟩
    | succ c ih =>
      intro p fu s hp hfu hb
      obtain ⟨fu, rfl⟩ : ∃ z, fu = z + 1 := ⟨fu - 1, by omega⟩
      have hp2 : p < (qa_ci L.1[i]).length := by omega
      unfold qw_X12_straight_4 qw_X12_straight_49
      rw [qk_rv H]
      refine qe_X12_of H (w := 37) (by omega) (by omega) ?_
      rw [show M.2 0 (13 + 42 * i + 37) = nI (qa_ci L.1[i]).length from hc.2.2.1.1]
      refine qp_iF (nI_ge (by omega) (by omega)) ?_
      rw [qk_rv H, show (38 : Int32) = nI 38 from rfl, nI_add]
      refine qe_X12_of H (by omega) (by omega) ?_
      rw [show M.2 0 (13 + 42 * i + (38 + p)) = (qa_ci L.1[i])[p] from hc.2.2.1.2 p hp2, qk_rv H, nI_1]
      refine qe_X12_placeOf H R (fun i2 hi2 e2 _ => ?_) (fun e2 => ?_)
      · refine qp_iF (nI_pos (by omega)) ?_
        rw [qk_rv H]
        refine qe_X12_of H (by omega) (by omega) ?_
        rw [show M.2 0 (13 + 42 * i + (38 + p)) = (qa_ci L.1[i])[p] from hc.2.2.1.2 p hp2, qk_rv H]
        refine qe_X12_placeOf H R (fun i3 hi3 e3 _ => ?_) (fun e3 => absurd e2 (qa_find_none.mp e3 _ (List.getElem_mem hi2)))
        refine ih (p + 1) fu _ (by omega) (by omega) fun j hj => ?_
        rw [qg_or, Bool.or_eq_true, hb j hj, qg_1 (by omega) hj, decide_eq_true_eq]
        constructor
        · rintro (⟨q1, q, q2, q3, q4⟩ | q)
          · exact ⟨q1, q, q2, by omega, q4⟩
          · subst q
            exact ⟨hi3, p, hp2, by omega, e3.symm⟩
        · rintro ⟨q1, q, q2, q3, q4⟩
          by_cases e5 : q = p
          · subst e5
            exact Or.inr (inj i3 j hi3 q1 (by rw [e3, q4]))
          · exact Or.inl ⟨q1, q, q2, by omega, q4⟩
      · refine qp_iT (by decide) (ih (p + 1) fu s (by omega) (by omega) fun j hj => ?_)
        rw [hb j hj]
        constructor
        · rintro ⟨q1, q, q2, q3, q4⟩
          exact ⟨q1, q, q2, by omega, q4⟩
        · rintro ⟨q1, q, q2, q3, q4⟩
          by_cases e5 : q = p
          · subst e5
            exact absurd q4.symm (qa_find_none.mp e2 _ (List.getElem_mem q1))
          · exact ⟨q1, q, q2, by omega, q4⟩
  exact hL (qa_ci L.1[i]).length 0 ql_FU 0 (by omega) (by unfold ql_FU; omega) fun j hj => by
    rw [qg_0]
    exact ⟨fun z => (by cases z), fun ⟨_, _, _, z, _⟩ => absurd z (Nat.not_lt_zero _)⟩
def qg_cnt (s : Int32) : Nat := (List.range 16).countP fun j => qg_b s j
theorem qg_cnt_lt {s t : Int32} (hs : ∀ j, j < 32 → qg_b s j = true → qg_b t j = true) (ht : ∀ j, j < 32 → qg_b t j = true → j < 16) (hne : s ≠ t) : qg_cnt s < qg_cnt t := by
  have key : ∀ n, (∃ j, j < n ∧ qg_b s j = false ∧ qg_b t j = true) → n ≤ 16 → (List.range n).countP (fun j => qg_b s j) < (List.range n).countP (fun j => qg_b t j) := by
    intro n
    induction n with
    | zero => rintro ⟨j, h, _⟩; omega
    | succ n ih =>
      rintro ⟨j, hj, h1, h2⟩ hn
      rw [List.range_succ, List.countP_append, List.countP_append, List.countP_singleton, List.countP_singleton]
      by_cases e : j = n
      · subst e
        have hle : (List.range j).countP (fun j => qg_b s j) ≤ (List.range j).countP (fun j => qg_b t j) := List.countP_mono_left fun x hx hx2 => hs x (by have := List.mem_range.mp hx; omega) hx2
        rw [if_neg (by rw [h1]; decide), if_pos h2]
        omega
      · have := ih ⟨j, by omega, h1, h2⟩ (by omega)
        by_cases e2 : qg_b s n = true
        · rw [if_pos e2, if_pos (hs n (by omega) e2)]
          omega
        · rw [if_neg e2]
          omega
  refine key 16 ?_ (Nat.le_refl _)
  refine Classical.byContradiction fun hx => hne (qg_ext fun j hj => ?_)
  cases e1 : qg_b s j with
  | true => exact (hs j hj e1).symm
  | false =>
    cases e2 : qg_b t j with
    | false => rfl
    | true => exact absurd ⟨j, ht j hj e2, e1, e2⟩ hx
theorem qe_X12_reached (H : qk_at h m M) (R : qk_G (M.2 0) L) (hd : (L.1.map qa_id).Pairwise (· < ·)) {i : Nat} (hi : i < L.1.length) {Q : Int32 → ql_H → Prop} (k : ∀ s, (∀ j, j < 32 → (qg_b s j = true ↔ qg_R (qk_E L.1) i j)) → Q s h) : qw_X12_reached m (nI i) h Q := by
  have n16 := R.1.1
  have h14 : ∀ (k4 : Int32 → Int32 → Int32 → ql_H → Prop) (was : Int32), (∀ j, j < 32 → qg_b was j = true → qg_R (qk_E L.1) i j) → (∀ s, (∀ j, j < 32 → qg_b was j = true → qg_b s j = true) → (∀ j, j < 32 → qg_b s j = true → qg_R (qk_E L.1) i j) → (∀ a j, j < 32 → (a = i ∨ qg_b was a = true) → qk_E L.1 a j → qg_b s j = true) → k4 (nI i) s was h) → ∀ c a fu s, a + c = L.1.length → c < fu → (∀ j, j < 32 → qg_b was j = true → qg_b s j = true) → (∀ j, j < 32 → qg_b s j = true → qg_R (qk_E L.1) i j) → (∀ b j, b < a → j < 32 → (b = i ∨ qg_b was b = true) → qk_E L.1 b j → qg_b s j = true) → qw_X12_reached_14 m Q k4 fu (nI i) s was (nI a) h := by
    intro k4 was hwas hk c
    induction c with
    | zero =>
      intro a fu s ha hfu h1 h2 h3
      obtain ⟨fu, rfl⟩ : ∃ z, fu = z + 1 := ⟨fu - 1, by omega⟩
      unfold qw_X12_reached_14
      rw [qk_rg H, qk_lgx H 0 0, qk_len R]
      refine qp_iT (nI_le (by omega) (by omega)) (hk s h1 h2 fun b j hj hb he => h3 b j ?_ hj hb he)
      obtain ⟨hb2, _⟩ := he
      omega
    | succ c ih =>
      intro a fu s ha hfu h1 h2 h3
      obtain ⟨fu, rfl⟩ : ∃ z, fu = z + 1 := ⟨fu - 1, by omega⟩
      have ha2 : a < L.1.length := by omega
      unfold qw_X12_reached_14 qw_X12_reached_41 qw_X12_reached_50
      rw [qk_rg H, qk_lgx H 0 0, qk_len R]
      refine qp_iF (nI_ge (by omega) (by omega)) ?_
      have yes : (a = i ∨ qg_b was a = true) → ql_rv h (some m) 13 fun b1 => qw_X12_straight b1 (nI a) h (fun x1 h => qw_X12_reached_14 m Q k4 fu (nI i) (s ||| x1) was (nI a + (1 : Int32)) h) := fun hy => by
        rw [qk_rv H]
        refine qe_X12_straight H R hd ha2 fun x hx => ?_
        rw [nI_1]
        refine ih (a + 1) fu _ (by omega) (by omega) (fun j hj hj2 => ?_) (fun j hj hj2 => ?_) (fun b j hb hj hb2 he => ?_)
        · rw [qg_or, h1 j hj hj2, Bool.true_or]
        · rw [qg_or, Bool.or_eq_true] at hj2
          rcases hj2 with z | z
          · exact h2 j hj z
          · have he := (hx j hj).mp z
            rcases hy with y | y
            · exact qg_R1 (y ▸ he)
            · exact qg_Rs (hwas a (by omega) y) he
        · rw [qg_or, Bool.or_eq_true]
          by_cases e : b = a
          · subst e
            exact Or.inr ((hx j hj).mpr he)
          · exact Or.inl (h3 b j (by omega) hj hb2 he)
      by_cases e1 : a = i
      · exact qp_iT (by rw [e1]) (yes (Or.inl e1))
      · refine qp_iF (fun z => e1 ((nI_eq (by omega) (by omega)).mp z)) ?_
        by_cases e2 : qg_b was a = true
        · exact qp_iT ((qg_bit2 was (by omega)).mpr e2) (yes (Or.inr e2))
        · refine qp_iF (fun z => e2 ((qg_bit2 was (by omega)).mp z)) ?_
          rw [nI_1]
          refine ih (a + 1) fu s (by omega) (by omega) h1 h2 fun b j hb hj hb2 he => ?_
          by_cases e : b = a
          · subst e
            exact absurd hb2 (fun z => z.elim e1 e2)
          · exact h3 b j (by omega) hj hb2 he
  have h4 : ∀ fu s was, (s = was → 1 ≤ fu) → (s ≠ was → 2 + (16 - qg_cnt s) ≤ fu) → (∀ j, j < 32 → qg_b s j = true → qg_R (qk_E L.1) i j) → (s = was → ∀ a j, j < 32 → (a = i ∨ qg_b s a = true) → qk_E L.1 a j → qg_b s j = true) → qw_X12_reached_4 m Q fu (nI i) s was h := by
    intro fu
    induction fu with
    | zero =>
      intro s was f1 f2
      by_cases e : s = was
      · have := f1 e
        omega
      · have := f2 e
        omega
    | succ fu ih =>
      intro s was f1 f2 h1 h2
      unfold qw_X12_reached_4
      by_cases e : s = was
      · refine qp_iT e (k s fun j hj => ⟨h1 j hj, fun z => ?_⟩)
        have := z (fun t => t < 32 ∧ qg_b s t = true) (fun t ht => ?_) (fun a t ha ht => ?_)
        · exact this.2
        · obtain ⟨_, q, _⟩ := id ht
          exact ⟨by omega, h2 e i t (by omega) (Or.inl rfl) ht⟩
        · obtain ⟨_, q, _⟩ := id ht
          exact ⟨by omega, h2 e a t (by omega) (Or.inr ha.2) ht⟩
      · refine qp_iF e ?_
        have f3 := f2 e
        refine h14 _ s h1 (fun s2 g1 g2 g3 => ?_) L.1.length 0 ql_FU s (by omega) (by unfold ql_FU; omega) (fun j hj z => z) h1 (fun b j hb => absurd hb (Nat.not_lt_zero b))
        refine ih s2 s (fun _ => by omega) (fun hne => ?_) g2 (fun he a j hj ha hE => g3 a j hj (by rw [he] at ha; exact ha) hE)
        have hr16 : ∀ j, j < 32 → qg_b s2 j = true → j < 16 := fun j hj hb => by
          have := g2 j hj hb (fun t => t < 16) (fun t ht => by obtain ⟨_, q, _⟩ := ht; omega) (fun a t _ ht => by obtain ⟨_, q, _⟩ := ht; omega)
          exact this
        have := qg_cnt_lt g1 hr16 (fun z => hne z.symm)
        have hc16 : qg_cnt s2 ≤ 16 := by
          have : qg_cnt s2 ≤ (List.range 16).length := List.countP_le_length
          rwa [List.length_range] at this
        omega
  unfold qw_X12_reached
  refine h4 ql_FU 0 (-1) (fun z => absurd z (by decide)) (fun _ => by unfold ql_FU; omega) (fun j hj z => by rw [qg_0] at z; cases z) (fun z => absurd z (by decide))
/-- by places or by ids: the same -/
theorem qk_reach (hd : (L.1.map qa_id).Pairwise (· < ·)) {i j : Nat} (hi : i < L.1.length) (hj : j < L.1.length) : qg_R (qk_E L.1) i j ↔ qa_reach L.1 (qa_id L.1[i]) (qa_id L.1[j]) := by
  have fnd : ∀ (a : Nat) (ha : a < L.1.length), qa_find L.1 (qa_id L.1[a]) = some L.1[a] := fun a ha => (qa_find_iff hd).mpr ⟨List.getElem_mem ha, rfl⟩
  constructor
  · intro h S h1 h2
    have := h (fun t => ∃ ht : t < L.1.length, S (qa_id L.1[t])) (fun t ht => ?_) (fun a t ha ht => ?_)
    · exact this.2
    · obtain ⟨q1, q2, q3⟩ := ht
      exact ⟨q2, h1 _ ⟨_, fnd i hi, q3, qa_has_iff.mpr ⟨_, List.getElem_mem q2, rfl⟩⟩⟩
    · obtain ⟨q1, q2, q3⟩ := ht
      obtain ⟨a1, a2⟩ := ha
      exact ⟨q2, h2 _ _ a2 ⟨_, fnd a q1, q3, qa_has_iff.mpr ⟨_, List.getElem_mem q2, rfl⟩⟩⟩
  · intro h P h1 h2
    have := h (fun y => ∃ t, ∃ ht : t < L.1.length, qa_id L.1[t] = y ∧ P t) (fun z hz => ?_) (fun w z hw hz => ?_)
    · obtain ⟨t, ht, e, hP⟩ := this
      have : t = j := by
        rw [List.pairwise_map, List.pairwise_iff_getElem] at hd
        rcases Nat.lt_trichotomy t j with z | z | z
        · have := hd t j ht hj z
          rw [e] at this
          exact absurd this Int32.lt_irrefl
        · exact z
        · have := hd j t hj ht z
          rw [e] at this
          exact absurd this Int32.lt_irrefl
      exact this ▸ hP
    · obtain ⟨C, c1, c2, c3⟩ := hz
      rw [fnd i hi] at c1
      cases c1
      obtain ⟨D, d1, d2⟩ := qa_has_iff.mp c3
      obtain ⟨t, ht, rfl⟩ := List.mem_iff_getElem.mp d1
      exact ⟨t, ht, d2, h1 t ⟨hi, ht, d2 ▸ c2⟩⟩
    · obtain ⟨C, c1, c2, c3⟩ := hz
      obtain ⟨a, ha, e, hP⟩ := hw
      rw [← e, fnd a ha] at c1
      cases c1
      obtain ⟨D, d1, d2⟩ := qa_has_iff.mp c3
      obtain ⟨t, ht, rfl⟩ := List.mem_iff_getElem.mp d1
      exact ⟨t, ht, d2, h2 a t hP ⟨ha, ht, d2 ▸ c2⟩⟩
theorem qa_has_find {x : Int32} {A : qa_C} (h : qa_find L.1 x = some A) : qa_has L.1 x = true := qa_has_iff.mpr ⟨A, List.mem_of_find?_eq_some h, by simpa using List.find?_some h⟩
theorem qa_has_none {x : Int32} (h : qa_find L.1 x = none) : ¬ qa_has L.1 x = true := fun z => by
  obtain ⟨A, h1, h2⟩ := qa_has_iff.mp z
  exact qa_find_none.mp h A h1 h2
theorem qe_X12_isReached (H : qk_at h m M) (R : qk_G (M.2 0) L) (hd : (L.1.map qa_id).Pairwise (· < ·)) {x y : Int32} {Q : Int32 → ql_H → Prop} (k : ∀ h1 M1 r, qk_at h1 m M1 → qp_fr m (m + 10) h h1 → qk_pq M M1 (qq_reach L x y) r → Q r h1) : qw_X12_isReached m x y h Q := by
  have n16 := R.1.1
  unfold qw_X12_isReached qw_X12_isReached_17
  have no : qq_reach L x y = (1, 0) → qw_X12_isReached_22 m Q x y (some m) (nI 1) h := fun eq => by
    unfold qw_X12_isReached_22
    rw [qk_rv H]
    refine qe_X12_fails H (by omega) fun h1 H1 f1 => qp_iF qp_1 ⟨ql_nz0, k h1 _ _ H1 f1 ?_⟩
    rw [eq]
    exact qk_pq.mk rfl fun z => by cases z
  rw [qk_rv H]
  refine qe_X12_placeOf H R (fun i hi e f => ?_) (fun e => qp_iT (by decide) (no (if_neg fun z => qa_has_none e z.1)))
  refine qp_iF (nI_pos (by omega)) ?_
  rw [qk_rv H]
  refine qe_X12_placeOf H R (fun j hj e2 f2 => ?_) (fun e => qp_iF (by decide) (no (if_neg fun z => qa_has_none e z.2)))
  refine qp_iT (nI_pos' (by omega)) ?_
  unfold qw_X12_isReached_22
  rw [qk_rv H]
  refine qe_X12_fails H (n := 0) (by omega) fun h1 H1 f1 => qp_iT rfl ?_
  rw [qk_rv H1]
  refine qe_X12_placeOf H1 (L := L) R (fun i2 hi2 e3 _ => ?_) (fun e3 => by rw [f] at e3; cases e3)
  rw [qk_rv H1]
  refine qe_X12_reached H1 (L := L) R hd hi2 fun s hs => ?_
  rw [qk_rv H1]
  refine qe_X12_placeOf H1 (L := L) R (fun j2 hj2 e4 _ => ?_) (fun e4 => by rw [f2] at e4; cases e4)
  have eq : qq_reach L x y = (0, qp_b (qa_reachB L.1 x y)) := if_pos ⟨qa_has_find f, qa_has_find f2⟩
  have hr : qg_b s j2 = true ↔ qa_reachB L.1 x y = true := by
    rw [hs j2 (by omega), qk_reach hd hi2 hj2, e3, e4, qa_reachB_iff]
  by_cases z : qg_b s j2 = true
  · refine qp_iT ((qg_bit2 s (by omega)).mpr z) ⟨ql_nz1, k h1 _ _ H1 f1 ?_⟩
    rw [eq, hr.mp z]
    exact qk_pq.mk rfl fun _ => rfl
  · refine qp_iF (fun q => z ((qg_bit2 s (by omega)).mp q)) ⟨ql_nz0, k h1 _ _ H1 f1 ?_⟩
    have : qa_reachB L.1 x y = false := by
      cases e5 : qa_reachB L.1 x y with
      | false => rfl
      | true => exact absurd (hr.mpr e5) z
    rw [eq, this]
    exact qk_pq.mk rfl fun _ => rfl
end QKD
