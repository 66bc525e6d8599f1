/-! Who cites whom, by bits: read, searched breadth first, closed. -/
section QGR
def qg_b (m : Int32) (j : Nat) : Bool := m.toBitVec.getLsbD j
theorem qg_or (a b : Int32) (j : Nat) : qg_b (a ||| b) j = (qg_b a j || qg_b b j) := by
  unfold qg_b
  rw [Int32.toBitVec_or, BitVec.getLsbD_or]
theorem qg_and (a b : Int32) (j : Nat) : qg_b (a &&& b) j = (qg_b a j && qg_b b j) := by
  unfold qg_b
  rw [Int32.toBitVec_and, BitVec.getLsbD_and]
theorem qg_not (a : Int32) {j : Nat} (hj : j < 32) : qg_b (a ^^^ (-1 : Int32)) j = !qg_b a j := by
  have h1 : ∀ j, j < 32 → (-1 : Int32).toBitVec.getLsbD j = true := by decide +kernel
  unfold qg_b
  rw [Int32.toBitVec_xor, BitVec.getLsbD_xor, h1 j hj, Bool.xor_true]
theorem qg_0 (j : Nat) : qg_b 0 j = false := BitVec.getLsbD_zero
theorem qg_1 {i j : Nat} (hi : i < 16) (hj : j < 32) : qg_b ((1 : Int32) <<< (nI i &&& 31)) j = decide (i = j) := by
  have h1 : ∀ i, i < 16 → ∀ j, j < 32 → ((1 : Int32) <<< (nI i &&& 31)).toBitVec.getLsbD j = decide (i = j) := by decide +kernel
  exact h1 i hi j hj
theorem qg_ext {a b : Int32} (h : ∀ j, j < 32 → qg_b a j = qg_b b j) : a = b := Int32.toBitVec_inj.mp (BitVec.eq_of_getLsbD_eq h)
theorem qg_bit (m : Int32) {j : Nat} (hj : j < 32) : ((m.toUInt32 >>> ((nI j).toUInt32 &&& Int32.toUInt32 31)).toInt32 &&& (1 : Int32)) = 1 ↔ qg_b m j = true := by
  have hs : ∀ j, j < 32 → (((nI j).toUInt32 &&& Int32.toUInt32 31).toBitVec % 32).toNat = j := by decide +kernel
  rw [pk_and _ 1 rfl, pk_ushr m (nI j) j (hs j hj)]
  rw [show (1 : Int32) = nI 1 from rfl, nI_eq (by omega) (by omega)]
  show _ ↔ m.toBitVec.toNat.testBit j = true
  rw [Nat.testBit_eq_decide_div_mod_eq, decide_eq_true_eq]
variable {h h1 : ql_H} {g b : Nat} {dir cl qu : Nat → Int32} {B : qb_T} {S : Nat → Option qa_C}
theorem qe_X2_hasSlot (m : Int32) {j : Nat} (hj : j < 32) {Q : Int32 → ql_H → Prop} (k : Q (qp_b (qg_b m j)) h) : qw_X2_hasSlot m (nI j) h Q := by
  unfold qw_X2_hasSlot
  cases e : qg_b m j with
  | true =>
    rw [e] at k
    exact qp_iT ((qg_bit m hj).mpr e) ⟨ql_nz1, k⟩
  | false =>
    rw [e] at k
    exact qp_iF (fun z => by rw [(qg_bit m hj).mp z] at e; cases e) ⟨ql_nz0, k⟩
def qg_at (h : ql_H) (g : Nat) (dir cl qu : Nat → Int32) : Prop := h.2 g = some (.inr (5, [.ref (g + 1), .ref (g + 2), .ref (g + 3)])) ∧ h.2 (g + 1) = some (.inl (0, 16, .inl dir)) ∧ h.2 (g + 2) = some (.inl (0, 16, .inl cl)) ∧ h.2 (g + 3) = some (.inl (0, 17, .inl qu))
theorem qg_at.kept (H : qg_at h g dir cl qu) (e : ∀ q, g ≤ q → q < g + 4 → h1.2 q = h.2 q) : qg_at h1 g dir cl qu :=
  ⟨(e _ (by omega) (by omega)).trans H.1, (e _ (by omega) (by omega)).trans H.2.1, (e _ (by omega) (by omega)).trans H.2.2.1, (e _ (by omega) (by omega)).trans H.2.2.2⟩
theorem qg_r0 (H : qg_at h g dir cl qu) {K : Option Nat → Prop} : ql_gR h (some g) 5 0 K = K (some (g + 1)) := qp_gR H.1 rfl
theorem qg_r1 (H : qg_at h g dir cl qu) {K : Option Nat → Prop} : ql_gR h (some g) 5 1 K = K (some (g + 2)) := qp_gR H.1 rfl
theorem qg_r2 (H : qg_at h g dir cl qu) {K : Option Nat → Prop} : ql_gR h (some g) 5 2 K = K (some (g + 3)) := qp_gR H.1 rfl
theorem qg_lD (H : qg_at h g dir cl qu) {i : Nat} {K : Int32 → Prop} (hi : i < 16) : ql_lI h (some (g + 1)) 0 (nI i) K = K (dir i) := qp_lI H.2.1 hi (by decide)
theorem qg_lC (H : qg_at h g dir cl qu) {i : Nat} {K : Int32 → Prop} (hi : i < 16) : ql_lI h (some (g + 2)) 0 (nI i) K = K (cl i) := qp_lI H.2.2.1 hi (by decide)
theorem qg_lQ (H : qg_at h g dir cl qu) {i : Nat} {K : Int32 → Prop} (hi : i < 17) : ql_lI h (some (g + 3)) 0 (nI i) K = K (qu i) := qp_lI H.2.2.2 hi (by decide)
theorem qg_sD (H : qg_at h g dir cl qu) {i : Nat} {v : Int32} {K : ql_H → Prop} (hi : i < 16) (k : ∀ h1, qg_at h1 g (upd dir i v) cl qu → qp_fr g (g + 4) h h1 → K h1) : ql_sI h (some (g + 1)) 0 (nI i) v K := by
  rw [qp_sI H.2.1 hi (by decide)]
  exact k _ ⟨(qp_up_n (by omega)).trans H.1, qp_up_s, (qp_up_n (by omega)).trans H.2.2.1, (qp_up_n (by omega)).trans H.2.2.2⟩ (qp_fr.up (by omega) (by omega))
theorem qg_sC (H : qg_at h g dir cl qu) {i : Nat} {v : Int32} {K : ql_H → Prop} (hi : i < 16) (k : ∀ h1, qg_at h1 g dir (upd cl i v) qu → qp_fr g (g + 4) h h1 → K h1) : ql_sI h (some (g + 2)) 0 (nI i) v K := by
  rw [qp_sI H.2.2.1 hi (by decide)]
  exact k _ ⟨(qp_up_n (by omega)).trans H.1, (qp_up_n (by omega)).trans H.2.1, qp_up_s, (qp_up_n (by omega)).trans H.2.2.2⟩ (qp_fr.up (by omega) (by omega))
theorem qg_sQ (H : qg_at h g dir cl qu) {i : Nat} {v : Int32} {K : ql_H → Prop} (hi : i < 17) (k : ∀ h1, qg_at h1 g dir cl (upd qu i v) → qp_fr g (g + 4) h h1 → K h1) : ql_sI h (some (g + 3)) 0 (nI i) v K := by
  rw [qp_sI H.2.2.2 hi (by decide)]
  exact k _ ⟨(qp_up_n (by omega)).trans H.1, (qp_up_n (by omega)).trans H.2.1, (qp_up_n (by omega)).trans H.2.2.1, qp_up_s⟩ (qp_fr.up (by omega) (by omega))
/-- a slot's clause cites another slot's -/
def qg_E (S : Nat → Option qa_C) (i j : Nat) : Prop := j < 16 ∧ ∃ A D, S i = some A ∧ S j = some D ∧ qa_id D ∈ qa_ci A
def qg_U (S : Nat → Option qa_C) : Prop := ∀ i j A D, i < 16 → j < 16 → S i = some A → S j = some D → qa_id A = qa_id D → i = j
theorem qe_X2_slotsCitedBy (H : qb_at h b B) (R : qr_S B S) (u : qg_U S) {i : Nat} {A : qa_C} (hi : i < 16) (eS : S i = some A) {Q : Int32 → ql_H → Prop} (k : ∀ m, (∀ j, j < 32 → (qg_b m j = true ↔ qg_E S i j)) → Q m h) : qw_X2_slotsCitedBy (some (b + 3 + 4 * i)) (some b) h Q := by
  have hC := H.2.2.2 i hi
  have hA := (R i hi).1 A eS
  have h4 := hA.2.2.2.2.1
  unfold qw_X2_slotsCitedBy
  rw [qc_rv hC]
  refine qe_X3_countCites hC hA.ok ?_
  have hL : ∀ n p m, p ≤ (qa_ci A).length → (qa_ci A).length - p < n → (∀ j, j < 32 → (qg_b m j = true ↔ j < 16 ∧ ∃ D, S j = some D ∧ ∃ t, ∃ (ht : t < (qa_ci A).length), t < p ∧ (qa_ci A)[t] = qa_id D)) → qw_X2_slotsCitedBy_10 Q n (some (b + 3 + 4 * i)) (some b) m (nI (qa_ci A).length) (nI p) h := by
    intro n
    induction n with
    | zero => intro p _ _ h; omega
    | succ n ih =>
      intro p m hp hm hb
      unfold qw_X2_slotsCitedBy_10 qw_X2_slotsCitedBy_41
      by_cases e : p = (qa_ci A).length
      · subst e
        refine qp_iT (nI_le (Nat.le_refl _) (by omega)) (k m fun j hj => (hb j hj).trans ⟨?_, ?_⟩)
        · rintro ⟨q1, D, q2, t, q3, _, q5⟩
          exact ⟨q1, A, D, eS, q2, q5 ▸ List.getElem_mem q3⟩
        · rintro ⟨q1, A2, D, q2, q3, q4⟩
          rw [eS] at q2
          cases q2
          obtain ⟨t, q5, q6, _⟩ := qa_mem_idx q4
          exact ⟨q1, D, q3, t, q5, q5, q6⟩
      · refine qp_iF (nI_ge (by omega) (by omega)) ?_
        have hp2 : p < (qa_ci A).length := by omega
        rw [qc_rv hC]
        refine qe_X3_citeAtPlace hC (by omega) ?_
        rw [hA.2.2.1.1 p hp2, qb_rv H, nI_1]
        refine qe_X1_slotWithId H R (fun i2 A2 hi2 eS2 z => ?_) (fun z => ?_)
        · refine qp_iF (qp_nI_m1 (by omega)) ?_
          refine ih (p + 1) _ (by omega) (by omega) fun j hj => ?_
          rw [qg_or, Bool.or_eq_true, hb j hj, qg_1 hi2 hj, decide_eq_true_eq]
          constructor
          · rintro (⟨q1, D, q2, t, q3, q4, q5⟩ | q)
            · exact ⟨q1, D, q2, t, q3, by omega, q5⟩
            · subst q
              exact ⟨hi2, A2, eS2, p, hp2, by omega, z.symm⟩
          · rintro ⟨q1, D, q2, t, q3, q4, q5⟩
            by_cases e2 : t = p
            · subst e2
              exact Or.inr (u i2 j A2 D hi2 q1 eS2 q2 (by rw [z, q5]))
            · exact Or.inl ⟨q1, D, q2, t, q3, by omega, q5⟩
        · refine qp_iT rfl (ih (p + 1) _ (by omega) (by omega) fun j hj => ?_)
          rw [hb j hj]
          constructor
          · rintro ⟨q1, D, q2, t, q3, q4, q5⟩
            exact ⟨q1, D, q2, t, q3, by omega, q5⟩
          · rintro ⟨q1, D, q2, t, q3, q4, q5⟩
            by_cases e2 : t = p
            · subst e2
              exact absurd q5.symm (z j D q1 q2)
            · exact ⟨q1, D, q2, t, q3, by omega, q5⟩
  refine hL ql_FU 0 0 (Nat.zero_le _) (by unfold ql_FU; omega) fun j hj => ?_
  rw [qg_0]
  exact ⟨fun z => (by cases z), fun ⟨_, _, _, t, _, q, _⟩ => absurd q (Nat.not_lt_zero t)⟩
theorem qe_X2_read (H : qb_at h b B) (R : qr_S B S) (u : qg_U S) (G : qg_at h g dir cl qu) (hd : g + 4 ≤ b ∨ b + 67 ≤ g) {Q : ql_H → Prop} (k : ∀ h1 d1, qg_at h1 g d1 cl qu → qp_fr g (g + 4) h h1 → (∀ i, i < 16 → ∀ j, j < 32 → (qg_b (d1 i) j = true ↔ qg_E S i j)) → Q h1) : qw_X2_read g (some b) h Q := by
  have hL : ∀ m i hh dd, i ≤ 16 → 16 - i < m → qg_at hh g dd cl qu → qp_fr g (g + 4) h hh → (∀ t, t < i → ∀ j, j < 32 → (qg_b (dd t) j = true ↔ qg_E S t j)) → qw_X2_read_2 g Q m (some b) (nI i) hh := by
    intro m
    induction m with
    | zero => intro i _ _ _ h; omega
    | succ m ih =>
      intro i hh dd hi hm G f hb
      unfold qw_X2_read_2
      by_cases e : i = 16
      · subst e
        exact qp_iT (nI_le (a := 16) (Nat.le_refl _) (by omega)) (k hh dd G f hb)
      · refine qp_iF (nI_ge (a := i) (b := 16) (by omega) (by omega)) ?_
        have H2 : qb_at hh b B := H.kept fun q h1 h2 => f.2 q (by omega)
        rw [qb_r0 H2, qb_lC H2 (by omega), qg_r0 G, qc_f (H2.2.2.2 i (by omega)) 0]
        have next : ∀ m2, (∀ j, j < 32 → (qg_b m2 j = true ↔ qg_E S i j)) → qw_X2_read_36 g Q (qw_X2_read_2 g Q m) (some b) (nI i) (some (g + 1)) (nI i) m2 hh := by
          intro m2 h2
          unfold qw_X2_read_36
          refine qg_sD G (by omega) fun h3 G3 f3 => ?_
          rw [nI_1]
          refine ih (i + 1) h3 _ (by omega) (by omega) G3 (f.tr f3) fun t ht j hj => ?_
          by_cases e2 : t = i
          · rw [e2, pk_us]
            exact h2 j hj
          · rw [pk_un e2]
            exact hb t (by omega) j hj
        cases eS : S i with
        | none =>
          refine qp_iT ((R i (by omega)).2 eS) (next 0 fun j hj => ?_)
          rw [qg_0]
          exact ⟨fun z => (by cases z), fun ⟨_, _, _, q, _⟩ => by rw [eS] at q; cases q⟩
        | some A =>
          refine qp_iF (by rw [((R i (by omega)).1 A eS).1.1]; exact qp_1) ?_
          exact qe_X2_slotsCitedBy H2 R u (by omega) eS fun m2 h2 => next m2 h2
  exact hL ql_FU 0 h dir (Nat.zero_le _) (by unfold ql_FU; omega) G qp_fr.rf fun t ht => absurd ht (Nat.not_lt_zero t)
theorem qe_X2_countCiters (G : qg_at h g dir cl qu) {j : Nat} (hj : j < 16) {Q : Int32 → ql_H → Prop} (k : Q (nI ((List.range 16).countP fun i => qg_b (dir i) j)) h) : qw_X2_countCiters g (nI j) h Q := by
  have hL : ∀ m i, i ≤ 16 → 16 - i < m → qw_X2_countCiters_14 g Q m (nI j) (nI ((List.range i).countP fun i => qg_b (dir i) j)) (some (g + 1)) (nI 16) (nI i) h := by
    intro m
    induction m with
    | zero => intro i _ h; omega
    | succ m ih =>
      intro i hi hm
      unfold qw_X2_countCiters_14 qw_X2_countCiters_39
      by_cases e : i = 16
      · subst e
        exact qp_iT (nI_le (Nat.le_refl _) (by omega)) k
      · refine qp_iF (nI_ge (by omega) (by omega)) ?_
        rw [qg_lD G (by omega), nI_1, nI_1]
        refine qe_X2_hasSlot _ (by omega) ?_
        have hn := ih (i + 1) (by omega) (by omega)
        rw [List.range_succ, List.countP_append, List.countP_singleton] at hn
        cases e2 : qg_b (dir i) j with
        | true =>
          rw [e2] at hn
          exact qp_iF qp_1 hn
        | false =>
          rw [e2] at hn
          exact qp_iT rfl hn
  unfold qw_X2_countCiters
  rw [qg_r0 G, qp_len G.2.1]
  exact hL ql_FU 0 (Nat.zero_le _) (by unfold ql_FU; omega)
/-- reached by one step or more: in each set that holds the first step's ends and is closed -/
def qg_R (E : Nat → Nat → Prop) (i j : Nat) : Prop := ∀ P : Nat → Prop, (∀ t, E i t → P t) → (∀ s t, P s → E s t → P t) → P j
theorem qg_R1 {E : Nat → Nat → Prop} {i j : Nat} (h : E i j) : qg_R E i j := fun _ h1 _ => h1 j h
theorem qg_Rs {E : Nat → Nat → Prop} {i s t : Nat} (h : qg_R E i s) (e : E s t) : qg_R E i t := fun P h1 h2 => h2 s t (h P h1 h2) e
theorem qg_Rt {E : Nat → Nat → Prop} {i s t : Nat} (h : qg_R E i s) (e : qg_R E s t) : qg_R E i t := fun P h1 h2 => e P (fun u hu => h2 s u (h P h1 h2) hu) h2
theorem qg_pig {n m : Nat} {f : Nat → Nat} (h1 : ∀ i, i < n → f i < m) (h2 : ∀ i j, i < j → j < n → f i ≠ f j) : n ≤ m := by
  have := qa_pig m ((List.range n).map f) ?_ ?_
  · rwa [List.length_map, List.length_range] at this
  · unfold List.Nodup
    rw [List.pairwise_map]
    exact List.pairwise_lt_range.imp_of_mem fun {a b} _ hb hab => h2 a b hab (List.mem_range.mp hb)
  · intro x hx
    obtain ⟨i, hi, rfl⟩ := List.mem_map.mp hx
    exact h1 i (List.mem_range.mp hi)
/-- the queue: w of it filled by v; F holds what stands from place 1 on -/
def qg_I (E : Nat → Nat → Prop) (start : Nat) (F : Int32) (w : Nat) (qu : Nat → Int32) (v : Nat → Nat) : Prop :=
  1 ≤ w ∧ v 0 = start ∧ (∀ k, k < w → qu k = nI (v k) ∧ v k < 16) ∧ (∀ k m, 1 ≤ k → k < m → m < w → v k ≠ v m) ∧ (∀ j, j < 32 → (qg_b F j = true ↔ ∃ k, 1 ≤ k ∧ k < w ∧ v k = j)) ∧ ∀ k, 1 ≤ k → k < w → qg_R E start (v k)
theorem qg_I.le {E : Nat → Nat → Prop} {start w : Nat} {F : Int32} {v : Nat → Nat} (I : qg_I E start F w qu v) : w ≤ 17 := by
  have := qg_pig (n := w - 1) (m := 16) (f := fun k => v (k + 1)) (fun i hi => (I.2.2.1 (i + 1) (by omega)).2) fun i j hij hj => I.2.2.2.1 (i + 1) (j + 1) (by omega) (by omega) (by omega)
  omega
theorem qe_X2_slotsFoundFrom {E : Nat → Nat → Prop} (G : qg_at h g dir cl qu) (hE : ∀ i, i < 16 → ∀ j, j < 32 → (qg_b (dir i) j = true ↔ E i j)) (h16 : ∀ i j, E i j → j < 16) {start : Nat} (hs : start < 16) {Q : Int32 → ql_H → Prop} (k : ∀ F h1 q1, qg_at h1 g dir cl q1 → qp_fr g (g + 4) h h1 → (∀ j, j < 32 → (qg_b F j = true ↔ qg_R E start j)) → Q F h1) : qw_X2_slotsFoundFrom g (nI start) h Q := by
  have inner : ∀ (k14 : Int32 → Int32 → Int32 → ql_H → Prop) (F0 fresh : Int32) (nx : Nat), (∀ j, j < 32 → qg_b fresh j = true → qg_R E start j ∧ j < 16 ∧ qg_b F0 j = false) → ∀ m t hh qq w v F, t ≤ 16 → 16 - t < m → qg_at hh g dir cl qq → qp_fr g (g + 4) h hh → nx < w → qg_I E start F w qq v → (∀ j, j < 32 → (qg_b F j = true ↔ qg_b F0 j = true ∨ (j < t ∧ qg_b fresh j = true))) → (∀ h2 q2 w2 v2 F2, qg_at h2 g dir cl q2 → qp_fr g (g + 4) h h2 → w ≤ w2 → (∀ k, k < w → v2 k = v k) → qg_I E start F2 w2 q2 v2 → (∀ j, j < 32 → (qg_b F2 j = true ↔ qg_b F0 j = true ∨ qg_b fresh j = true)) → k14 (F0 ||| fresh) (nI w2) (nI (nx + 1)) h2) → qw_X2_slotsFoundFrom_56 g Q k14 m (F0 ||| fresh) (nI w) (nI nx) fresh (nI t) hh := by
    intro k14 F0 fresh nx hf m
    induction m with
    | zero => intro t _ _ _ _ _ _ h; omega
    | succ m ih =>
      intro t hh qq w v F ht hm G f hnx I hF hk
      unfold qw_X2_slotsFoundFrom_56 qw_X2_slotsFoundFrom_93
      have hw := I.le
      by_cases e : t = 16
      · subst e
        refine qp_iT (nI_le (a := 16) (Nat.le_refl _) (by omega)) ?_
        rw [nI_1]
        refine hk hh qq w v F G f (Nat.le_refl _) (fun _ _ => rfl) I fun j hj => ?_
        rw [hF j hj]
        exact ⟨fun z => z.elim Or.inl fun z => Or.inr z.2, fun z => z.elim Or.inl fun z => Or.inr ⟨(hf j hj z).2.1, z⟩⟩
      · refine qp_iF (nI_ge (a := t) (b := 16) (by omega) (by omega)) ?_
        refine qe_X2_hasSlot _ (by omega) ?_
        rw [nI_1]
        cases e2 : qg_b fresh t with
        | false =>
          refine qp_iT rfl (ih (t + 1) hh qq w v F (by omega) (by omega) G f hnx I (fun j hj => ?_) hk)
          rw [hF j hj]
          constructor
          · rintro (z | ⟨z1, z2⟩)
            · exact Or.inl z
            · exact Or.inr ⟨by omega, z2⟩
          · rintro (z | ⟨z1, z2⟩)
            · exact Or.inl z
            · by_cases e3 : j = t
              · rw [e3, e2] at z2
                cases z2
              · exact Or.inr ⟨by omega, z2⟩
        | true =>
          obtain ⟨r1, r2, r3⟩ := hf t (by omega) e2
          have hnew : ∀ k, 1 ≤ k → k < w → v k ≠ t := fun k h1 h2 z => by
            have := ((I.2.2.2.2.1 t (by omega)).mpr ⟨k, h1, h2, z⟩)
            rw [hF t (by omega)] at this
            rcases this with z | z
            · rw [r3] at z
              cases z
            · omega
          have hw2 : w < 17 := by
            have := qg_pig (n := w) (m := 16) (f := fun k => if k + 1 < w then v (k + 1) else t) (fun i hi => ?_) fun i j hij hj => ?_
            · omega
            · show (if i + 1 < w then v (i + 1) else t) < 16
              split
              · exact (I.2.2.1 (i + 1) (by omega)).2
              · exact r2
            · show (if i + 1 < w then v (i + 1) else t) ≠ (if j + 1 < w then v (j + 1) else t)
              rw [if_pos (by omega)]
              split
              · exact I.2.2.2.1 (i + 1) (j + 1) (by omega) (by omega) (by omega)
              · exact hnew (i + 1) (by omega) (by omega)
          refine qp_iF qp_1 ?_
          rw [qg_r2 G, qp_len G.2.2.2]
          refine qp_iF (nI_ge (a := w) (b := 17) hw2 (by omega)) ?_
          rw [qg_r2 G]
          refine qg_sQ G hw2 fun h3 G3 f3 => ?_
          rw [nI_1]
          have hF2 : ∀ j, j < 32 → (qg_b (F ||| ((1 : Int32) <<< (nI t &&& 31))) j = true ↔ qg_b F j = true ∨ t = j) := fun j hj => by
            rw [qg_or, Bool.or_eq_true, qg_1 r2 hj, decide_eq_true_eq]
          refine ih (t + 1) h3 (upd qq w (nI t)) (w + 1) (va_up v w t) (F ||| ((1 : Int32) <<< (nI t &&& 31))) (by omega) (by omega) G3 (f.tr f3) (by omega) ⟨by omega, ?_, fun k hk => ?_, fun k1 k2 h1 h2 h3 => ?_, fun j hj => ?_, fun k h1 h2 => ?_⟩ (fun j hj => ?_) (fun h2 q2 w2 v2 F2 g1 g2 g3 g4 g5 g6 => hk h2 q2 w2 v2 F2 g1 g2 (by omega) (fun k hk2 => by rw [g4 k (by omega), va_up_ne _ _ (by omega)]) g5 g6)
          · have h1w := I.1
            rw [va_up_ne _ _ (by omega)]
            exact I.2.1
          · by_cases e4 : k = w
            · rw [e4, pk_us, va_up_self]
              exact ⟨rfl, r2⟩
            · rw [pk_un e4, va_up_ne _ _ e4]
              exact I.2.2.1 k (by omega)
          · rw [va_up_ne _ _ (show k1 ≠ w by omega)]
            by_cases e4 : k2 = w
            · rw [e4, va_up_self]
              exact hnew k1 h1 (by omega)
            · rw [va_up_ne _ _ e4]
              exact I.2.2.2.1 k1 k2 h1 h2 (by omega)
          · rw [hF2 j hj, I.2.2.2.2.1 j hj]
            constructor
            · rintro (⟨k, z1, z2, z3⟩ | z)
              · exact ⟨k, z1, by omega, by rw [va_up_ne _ _ (by omega)]; exact z3⟩
              · exact ⟨w, I.1, by omega, by rw [va_up_self]; exact z⟩
            · rintro ⟨k, z1, z2, z3⟩
              by_cases e4 : k = w
              · rw [e4, va_up_self] at z3
                exact Or.inr z3
              · rw [va_up_ne _ _ e4] at z3
                exact Or.inl ⟨k, z1, by omega, z3⟩
          · by_cases e4 : k = w
            · rw [e4, va_up_self]
              exact r1
            · rw [va_up_ne _ _ e4]
              exact I.2.2.2.2.2 k h1 (by omega)
          · rw [hF2 j hj, hF j hj]
            constructor
            · rintro ((z | ⟨z1, z2⟩) | z)
              · exact Or.inl z
              · exact Or.inr ⟨by omega, z2⟩
              · subst z
                exact Or.inr ⟨by omega, e2⟩
            · rintro (z | ⟨z1, z2⟩)
              · exact Or.inl (Or.inl z)
              · by_cases e3 : j = t
                · exact Or.inr e3.symm
                · exact Or.inl (Or.inr ⟨by omega, z2⟩)
  have outer : ∀ m nx hh qq w v F, 17 - nx < m → nx ≤ w → qg_at hh g dir cl qq → qp_fr g (g + 4) h hh → qg_I E start F w qq v → (∀ k, k < nx → ∀ j, E (v k) j → qg_b F j = true) → qw_X2_slotsFoundFrom_14 g Q m F (nI w) (nI nx) hh := by
    intro m
    induction m with
    | zero => intro nx _ _ _ _ _ h; omega
    | succ m ih =>
      intro nx hh qq w v F hm hnx G f I hcl
      unfold qw_X2_slotsFoundFrom_14
      have hw := I.le
      by_cases e : nx = w
      · subst e
        refine qp_iT (nI_le (Nat.le_refl _) (by omega)) (k F hh qq G f fun j hj => ⟨fun z => ?_, fun z => ?_⟩)
        · obtain ⟨k2, h1, h2, h3⟩ := (I.2.2.2.2.1 j hj).mp z
          exact h3 ▸ I.2.2.2.2.2 k2 h1 h2
        · exact (z (fun t => qg_b F t = true) (fun t ht => hcl 0 (by have := I.1; omega) t (by rw [I.2.1]; exact ht)) fun s t hs2 hst => by
            by_cases h32 : s < 32
            · obtain ⟨k2, h1, h2, h3⟩ := (I.2.2.2.2.1 s h32).mp hs2
              exact hcl k2 h2 t (by rw [h3]; exact hst)
            · have : qg_b F s = false := BitVec.getLsbD_of_ge _ _ (by omega)
              rw [this] at hs2
              cases hs2)
      · refine qp_iF (nI_ge (by omega) (by omega)) ?_
        rw [qg_r2 G, qp_len G.2.2.2]
        refine qp_iF (nI_ge (a := nx) (b := 17) (by omega) (by omega)) ?_
        obtain ⟨v1, v2⟩ := I.2.2.1 nx (by omega)
        rw [qg_r0 G, qg_r2 G, qg_lQ G (by omega), v1, qg_lD G v2]
        have hreach : ∀ j, E (v nx) j → qg_R E start j := fun j hj => by
          by_cases e0 : nx = 0
          · rw [e0, I.2.1] at hj
            exact qg_R1 hj
          · exact qg_Rs (I.2.2.2.2.2 nx (by omega) (by omega)) hj
        refine inner _ F (dir (v nx) &&& (F ^^^ (-1 : Int32))) nx (fun j hj hb => ?_) ql_FU 0 hh qq w v F (by omega) (by unfold ql_FU; omega) G f (by omega) I (fun j hj => ?_) fun h2 q2 w2 v2' F2 G2 f2 hw2 hv I2 hF2 => ?_
        · rw [qg_and, qg_not _ hj, Bool.and_eq_true, hE _ v2 j hj] at hb
          exact ⟨hreach j hb.1, h16 _ j hb.1, by simpa using hb.2⟩
        · exact ⟨Or.inl, fun z => z.elim id fun z => absurd z.1 (Nat.not_lt_zero j)⟩
        · have hFe : F ||| (dir (v nx) &&& (F ^^^ (-1 : Int32))) = F2 := qg_ext fun j hj => by
            have := hF2 j hj
            rw [qg_or]
            cases e3 : qg_b F2 j with
            | true =>
              rw [e3] at this
              rcases this.mp rfl with z | z
              · rw [z, Bool.true_or]
              · rw [z, Bool.or_true]
            | false =>
              rw [e3] at this
              cases e4 : qg_b F j with
              | true => cases this.mpr (Or.inl e4)
              | false =>
                cases e5 : qg_b (dir (v nx) &&& (F ^^^ (-1 : Int32))) j with
                | true => cases this.mpr (Or.inr e5)
                | false => rfl
          rw [hFe]
          refine ih (nx + 1) h2 q2 w2 v2' F2 (by omega) (by omega) G2 f2 I2 fun k2 hk2 j hj => ?_
          have hj16 := h16 _ _ hj
          rw [hF2 j (by omega)]
          rw [hv k2 (by omega)] at hj
          by_cases e3 : k2 = nx
          · subst e3
            cases e4 : qg_b F j with
            | true => exact Or.inl rfl
            | false =>
              refine Or.inr ?_
              rw [qg_and, qg_not _ (by omega), e4, (hE _ v2 j (by omega)).mpr hj]
              rfl
          · exact Or.inl (hcl k2 (by omega) j hj)
  unfold qw_X2_slotsFoundFrom
  rw [qg_r2 G]
  refine qg_sQ (i := 0) G (by omega) fun h1 G1 f1 => ?_
  refine outer ql_FU 0 h1 (upd qu 0 (nI start)) 1 (fun _ => start) 0 (by unfold ql_FU; omega) (by omega) G1 f1 ⟨Nat.le_refl _, rfl, fun k hk => ?_, fun k m h1 h2 h3 => by omega, fun j hj => ?_, fun k h1 h2 => by omega⟩ fun k hk => absurd hk (Nat.not_lt_zero k)
  · rw [show k = 0 by omega, pk_us]
    exact ⟨rfl, hs⟩
  · rw [qg_0]
    exact ⟨fun z => (by cases z), fun ⟨k, h1, h2, _⟩ => by omega⟩
/-- by way of the first k alone -/
def qg_P (E : Nat → Nat → Prop) : Nat → Nat → Nat → Prop
  | 0, i, j => E i j
  | k + 1, i, j => qg_P E k i j ∨ (qg_P E k i k ∧ qg_P E k k j)
theorem qg_P.tr {E : Nat → Nat → Prop} : ∀ (k i m j : Nat), m < k → qg_P E k i m → qg_P E k m j → qg_P E k i j
  | 0, _, _, _, h, _, _ => absurd h (Nat.not_lt_zero _)
  | k + 1, i, m, j, h, h1, h2 => by
    by_cases e : m = k
    · subst e
      have a1 : qg_P E m i m := h1.elim id fun z => z.1
      have a2 : qg_P E m m j := h2.elim id fun z => z.2
      exact Or.inr ⟨a1, a2⟩
    · have hm : m < k := by omega
      rcases h1 with h1 | ⟨h1, h1'⟩
      · rcases h2 with h2 | ⟨h2, h2'⟩
        · exact Or.inl (qg_P.tr k i m j hm h1 h2)
        · exact Or.inr ⟨qg_P.tr k i m k hm h1 h2, h2'⟩
      · rcases h2 with h2 | ⟨h2, h2'⟩
        · exact Or.inr ⟨h1, qg_P.tr k k m j hm h1' h2⟩
        · exact Or.inr ⟨h1, h2'⟩
theorem qg_P.sound {E : Nat → Nat → Prop} : ∀ (k i j : Nat), qg_P E k i j → qg_R E i j
  | 0, _, _, h => qg_R1 h
  | k + 1, i, j, h => h.elim (qg_P.sound k i j) fun z => qg_Rt (qg_P.sound k i k z.1) (qg_P.sound k k j z.2)
theorem qg_P.mono {E : Nat → Nat → Prop} {i j : Nat} (h : E i j) : ∀ k, qg_P E k i j
  | 0 => h
  | k + 1 => Or.inl (qg_P.mono h k)
theorem qg_P_R {E : Nat → Nat → Prop} (h16 : ∀ i j, E i j → j < 16) (i j : Nat) : qg_P E 16 i j ↔ qg_R E i j := by
  refine ⟨qg_P.sound 16 i j, fun h => ?_⟩
  have := h (fun t => t < 16 ∧ qg_P E 16 i t) (fun t ht => ⟨h16 i t ht, qg_P.mono ht 16⟩) fun s t hs hst => ⟨h16 s t hst, qg_P.tr 16 i s t hs.1 hs.2 (qg_P.mono hst 16)⟩
  exact this.2
theorem qe_X2_close {E : Nat → Nat → Prop} (G : qg_at h g dir cl qu) (hE : ∀ i, i < 16 → ∀ j, j < 32 → (qg_b (dir i) j = true ↔ E i j)) (h16 : ∀ i j, E i j → j < 16) {Q : ql_H → Prop} (k : ∀ h1 c1, qg_at h1 g dir c1 qu → qp_fr g (g + 4) h h1 → (∀ i, i < 16 → ∀ j, j < 32 → (qg_b (c1 i) j = true ↔ qg_R E i j)) → Q h1) : qw_X2_close g h Q := by
  have inner : ∀ (k17 : Int32 → ql_H → Prop) (by_ : Nat), by_ < 16 → ∀ m t hh cc, t ≤ 16 → 16 - t < m → qg_at hh g dir cc qu → qp_fr g (g + 4) h hh → (∀ i, i < 16 → ∀ j, j < 32 → (qg_b (cc i) j = true ↔ if i < t then qg_P E (by_ + 1) i j else qg_P E by_ i j)) → (∀ h2 c2, qg_at h2 g dir c2 qu → qp_fr g (g + 4) h h2 → (∀ i, i < 16 → ∀ j, j < 32 → (qg_b (c2 i) j = true ↔ qg_P E (by_ + 1) i j)) → k17 (nI (by_ + 1)) h2) → qw_X2_close_25 g Q k17 m (nI by_) (nI t) hh := by
    intro k17 by_ hby m
    induction m with
    | zero => intro t _ _ _ h; omega
    | succ m ih =>
      intro t hh cc ht hm G f hb hk
      unfold qw_X2_close_25 qw_X2_close_59
      by_cases e : t = 16
      · subst e
        refine qp_iT (nI_le (a := 16) (Nat.le_refl _) (by omega)) ?_
        rw [nI_1]
        exact hk hh cc G f fun i hi j hj => by
          have := hb i hi j hj
          rwa [if_pos hi] at this
      · refine qp_iF (nI_ge (a := t) (b := 16) (by omega) (by omega)) ?_
        rw [qg_r1 G, qg_lC G (by omega)]
        refine qe_X2_hasSlot _ (by omega) ?_
        rw [nI_1]
        have ht2 : ∀ j, j < 32 → (qg_b (cc t) j = true ↔ qg_P E by_ t j) := fun j hj => by
          have := hb t (by omega) j hj
          rwa [if_neg (Nat.lt_irrefl t)] at this
        have hby2 : ∀ j, j < 32 → (qg_b (cc by_) j = true ↔ qg_P E by_ by_ j) := fun j hj => by
          have := hb by_ hby j hj
          by_cases e2 : by_ < t
          · rw [if_pos e2] at this
            exact this.trans ⟨fun z => z.elim id fun z => z.2, Or.inl⟩
          · rwa [if_neg e2] at this
        cases e2 : qg_b (cc t) by_ with
        | false =>
          have hno : ¬ qg_P E by_ t by_ := fun z => by
            rw [(ht2 by_ (by omega)).mpr z] at e2
            cases e2
          refine qp_iT rfl (ih (t + 1) hh cc (by omega) (by omega) G f (fun i hi j hj => ?_) hk)
          have := hb i hi j hj
          by_cases e3 : i = t
          · subst e3
            rw [if_pos (by omega)]
            exact (ht2 j hj).trans ⟨Or.inl, fun z => z.elim id fun z => absurd z.1 hno⟩
          · by_cases e4 : i < t
            · rw [if_pos e4] at this
              rw [if_pos (by omega)]
              exact this
            · rw [if_neg e4] at this
              rw [if_neg (by omega)]
              exact this
        | true =>
          have hyes : qg_P E by_ t by_ := (ht2 by_ (by omega)).mp e2
          refine qp_iF qp_1 ?_
          rw [qg_r1 G, qg_lC G (by omega), qg_r1 G, qg_lC G hby]
          refine qg_sC G (by omega) fun h3 G3 f3 => ?_
          refine ih (t + 1) h3 _ (by omega) (by omega) G3 (f.tr f3) (fun i hi j hj => ?_) hk
          by_cases e3 : i = t
          · subst e3
            rw [pk_us, if_pos (by omega), qg_or, Bool.or_eq_true, ht2 j hj, hby2 j hj]
            exact ⟨fun z => z.elim Or.inl fun z => Or.inr ⟨hyes, z⟩, fun z => z.elim Or.inl fun z => Or.inr z.2⟩
          · rw [pk_un e3]
            have := hb i hi j hj
            by_cases e4 : i < t
            · rw [if_pos e4] at this
              rw [if_pos (by omega)]
              exact this
            · rw [if_neg e4] at this
              rw [if_neg (by omega)]
              exact this
  have outer : ∀ m t hh cc, t ≤ 16 → 16 - t < m → qg_at hh g dir cc qu → qp_fr g (g + 4) h hh → (∀ i, i < 16 → ∀ j, j < 32 → (qg_b (cc i) j = true ↔ qg_P E t i j)) → qw_X2_close_17 g Q m (nI t) hh := by
    intro m
    induction m with
    | zero => intro t _ _ _ h; omega
    | succ m ih =>
      intro t hh cc ht hm G f hb
      unfold qw_X2_close_17
      by_cases e : t = 16
      · subst e
        exact qp_iT (nI_le (a := 16) (Nat.le_refl _) (by omega)) (k hh cc G f fun i hi j hj => (hb i hi j hj).trans (qg_P_R h16 i j))
      · refine qp_iF (nI_ge (a := t) (b := 16) (by omega) (by omega)) ?_
        refine inner _ t (by omega) ql_FU 0 hh cc (by omega) (by unfold ql_FU; omega) G f (fun i hi j hj => ?_) fun h2 c2 G2 f2 hb2 => ih (t + 1) h2 c2 (by omega) (by omega) G2 f2 hb2
        rw [if_neg (Nat.not_lt_zero i)]
        exact hb i hi j hj
  unfold qw_X2_close
  rw [qg_r0 G, qg_r1 G]
  simp only [ql_cpI, ql_ar, G.2.1, G.2.2.1, true_and]
  refine ⟨⟨by decide, by decide, by decide, by decide, by decide, fun i _ => rfl⟩, ?_⟩
  have G1 : qg_at (ql_up h (g + 2) (.inl (0, 16, .inl (va_cpy dir cl 0 0 16)))) g dir (va_cpy dir cl 0 0 16) qu := ⟨(qp_up_n (by omega)).trans G.1, (qp_up_n (by omega)).trans G.2.1, qp_up_s, (qp_up_n (by omega)).trans G.2.2.2⟩
  refine outer ql_FU 0 _ _ (Nat.zero_le _) (by unfold ql_FU; omega) G1 (qp_fr.up (by omega) (by omega)) fun i hi j hj => ?_
  rw [pk_cpy_in (Nat.zero_le _) (by omega), Nat.sub_zero, Nat.zero_add]
  exact hE i hi j hj
theorem qe_X2_slotsClosedFrom (G : qg_at h g dir cl qu) {i : Nat} (hi : i < 16) {Q : Int32 → ql_H → Prop} (k : Q (cl i) h) : qw_X2_slotsClosedFrom g (nI i) h Q := by
  unfold qw_X2_slotsClosedFrom
  rw [qg_r1 G, qg_lC G hi]
  exact k
end QGR
