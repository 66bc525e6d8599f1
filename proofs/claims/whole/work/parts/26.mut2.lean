/-! The changes of one clause; repeal; advance. -/
section QM2
variable {h : ql_H} {b : Nat} {B : qb_T} {S : Nat → Option qa_C} {L : qa_L} {N : Nat} {i : Nat} {A : qa_C}
theorem qb_clS {C : qc_T} : (qb_sC B i C).1 i = C := va_up_self ..
theorem qa_open_lt (h : qa_open L A = true) : (qa_vs A).length < 8 := by
  unfold qa_open at h
  rw [Bool.and_eq_true, decide_eq_true_eq] at h
  exact h.2
theorem qe_X1_amend (H : qb_at h b B) (R : qr_S B S) (P : (qs_ls S 16).Perm L.1) (F : qr_F B L) (hd : (L.1.map qa_id).Pairwise (· < ·)) (hi : i < 16) (e : S i = some A) (h8 : (qa_vs A).length < 8) {T : Int64} {t : List Nat} (I : qt_is T t) (h0 : t ≠ []) {Q : Int32 → ql_H → Prop} (k : ∀ h1 B1, qb_at h1 b B1 → qr_L B1 (qa_amend L (qa_id A) A t).2 → qp_fr b (b + 67) h h1 → Q (qa_amend L (qa_id A) A t).1 h1) : qw_X1_amend b (some (b + 3 + 4 * i)) T h Q := by
  have hC := H.2.2.2 i hi
  have hA := (R i hi).1 A e
  unfold qw_X1_amend
  rw [qb_f H 2, qc_rv hC]
  refine qe_X3_addVersion hC hA.ok h8 fun h1 H1 f1 => ?_
  obtain ⟨H2, f2⟩ := H.cl hi H1 f1
  rw [qb_f H2 4]
  refine qb_p H2 4 fun h3 H3 f3 => ?_
  have hC3 : qc_at h3 (b + 3 + 4 * i) (qc_sT (qc_sD (B.1 i) (qa_vs A).length (B.2.1 2)) (qa_vs A).length T) := by
    have := H3.2.2.2 i hi
    rwa [show (qb_sF (qb_sC B i (qc_sT (qc_sD (B.1 i) (qa_vs A).length (B.2.1 2)) (qa_vs A).length T)) 4 ((qb_sC B i (qc_sT (qc_sD (B.1 i) (qa_vs A).length (B.2.1 2)) (qa_vs A).length T)).2.1 4 + 1)).1 i = _ from qb_clS] at this
  have hA3 := hA.amend (d := B.2.1 2) rfl h8 I h0
  rw [qc_rv hC3]
  refine qe_X3_countVersions hC3 hA3.ok ?_
  have e5 : (qa_vs (A.1, qa_vs A ++ [(B.2.1 2, t)], qa_ci A)).length = (qa_vs A).length + 1 := List.length_append
  rw [e5]
  rw [F.1.2 2 (by omega) (by omega)] at hA3
  obtain ⟨S2, R2, P2⟩ := qr_L.upd (g := fun C => (C.1, qa_vs C ++ [(L.2.1 2, t)], qa_ci C)) R P hd hi e hA3
  rw [← F.1.2 2 (by omega) (by omega)] at R2
  exact k h3 _ H3 ⟨S2, R2, P2, F.set 4 (congrArg (· + 1) (F.1.2 4 (by omega) (by omega)))⟩ (f2.tr f3)
theorem qe_X1_isAmendable (H : qb_at h b B) (R : qr_S B S) (F : qr_F B L) (hi : i < 16) (e : S i = some A) {Q : Int32 → ql_H → Prop} (k : Q (qp_b (qa_open L A)) h) : qw_X1_isAmendable b (some (b + 3 + 4 * i)) h Q := by
  have hC := H.2.2.2 i hi
  have hA := (R i hi).1 A e
  unfold qw_X1_isAmendable
  rw [qb_f H 2, qc_rv hC]
  refine qe_X3_holdsOn hC ?_
  rw [hA.hold, F.1.2 2 (by omega) (by omega)]
  unfold qa_open at k
  cases e2 : qa_hold A (L.2.1 2) with
  | false =>
    rw [e2] at k
    exact qp_iT rfl ⟨ql_nz0, k⟩
  | true =>
    rw [e2, Bool.true_and] at k
    refine qp_iF qp_1 ?_
    rw [qc_rv hC]
    refine qe_X3_hasRoomForVersion hC hA.ok ?_
    cases e3 : decide ((qa_vs A).length < 8) with
    | false =>
      rw [e3] at k
      exact qp_iT rfl ⟨ql_nz0, k⟩
    | true =>
      rw [e3] at k
      exact qp_iF qp_1 ⟨ql_nz1, k⟩
theorem qe_X1_tryInsert (H : qb_at h b B) (RL : qr_L B L) (hd : (L.1.map qa_id).Pairwise (· < ·)) {x p n : Int32} {Q : Int32 → ql_H → Prop} (k : ∀ h1 B1, qb_at h1 b B1 → qr_L B1 (qa_ins L x p n).2 → qp_fr b (b + 67) h h1 → Q (qa_ins L x p n).1 h1) : qw_X1_tryInsert b x p n h Q := by
  have kf : ∀ r, qa_ins L x p n = (r, L) → Q r h := fun r e => by
    have := k h B H
    rw [e] at this
    exact this RL qp_fr.rf
  obtain ⟨S, R, P, F⟩ := RL
  unfold qw_X1_tryInsert
  rw [qb_rv H]
  refine qe_X1_clauseWithId H R (fun i A hi eS z => ?_) (fun z => qp_iT rfl (kf _ (qa_by_n (qs_findN P z))))
  subst z
  have hf : qa_ins L (qa_id A) p n = qa_insC L A p n := qa_by_s (qs_find P hd hi eS)
  rw [hf] at k kf
  have hC := H.2.2.2 i hi
  have hA := (R i hi).1 A eS
  refine qp_iF qp_N ?_
  rw [qc_rv hC]
  refine qe_X3_txt hC hA fun T I => ?_
  have hl := I.1.2
  refine qe_X9_lenOf I ?_
  refine qp_if (fun z => kf _ (if_pos (Or.inl z))) fun z1 => qp_if (fun z2 => ?_) (fun z2 => kf _ (if_pos (Or.inr (Int32.not_le.mp z2))))
  have hA1 : ¬ (p < 0 ∨ nI (qa_txt A).length < p) := fun z => by
    rcases z with z | z
    · exact z1 z
    · exact absurd z2 (Int32.not_le.mpr z)
  refine qe_X9_isNote ?_
  cases en : qa_note n with
  | false =>
    rw [show (decide (97 ≤ n) && decide (n ≤ 103)) = false from en]
    exact qp_iT rfl (kf _ (by unfold qa_insC; rw [if_neg hA1, if_pos en]))
  | true =>
    rw [show (decide (97 ≤ n) && decide (n ≤ 103)) = true from en]
    have hA2 : ¬ qa_note n = false := by rw [en]; decide
    refine qp_iF qp_1 ?_
    rw [qb_rv H]
    refine qe_X1_isAmendable H R F hi eS ?_
    cases eo : qa_open L A with
    | false => exact qp_iT rfl (kf _ (by unfold qa_insC; rw [if_neg hA1, if_neg hA2, if_pos eo]))
    | true =>
      have hA3 : ¬ qa_open L A = false := by rw [eo]; decide
      refine qp_iF qp_1 ?_
      by_cases e12 : (qa_txt A).length < 12
      · refine qp_iT (nI_lt (b := 12) e12 (by omega)) ?_
        obtain ⟨j, hj, rfl⟩ := nI_of z1
        have hjl : j ≤ (qa_txt A).length := (nI_leI hj (by omega)).mp z2
        obtain ⟨a, ha, rfl, ec⟩ := qa_note_of en
        refine qe_X9_withInserted I hjl e12 ha fun T2 I2 => ?_
        rw [qb_rv H]
        have eq : qa_insC L A (nI j) (nI (97 + a)) = qa_amend L (qa_id A) A (qt_ins (qa_txt A) j a) := by
          unfold qa_insC
          rw [if_neg hA1, if_neg hA2, if_neg hA3, if_neg (by omega), ec, nI_clamp hj]
        rw [eq] at k
        exact qe_X1_amend H R P F hd hi eS (qa_open_lt eo) I2 (fun z => by
          have := congrArg List.length z
          rw [qt_ins_len hjl] at this
          cases this) k
      · exact qp_iF (nI_nlt (a := (qa_txt A).length) (b := 12) (by omega) (by omega)) (kf _ (by unfold qa_insC; rw [if_neg hA1, if_neg hA2, if_neg hA3, if_pos (by omega)]))
theorem qe_X1_tryReplace (H : qb_at h b B) (RL : qr_L B L) (hd : (L.1.map qa_id).Pairwise (· < ·)) {x p n : Int32} {Q : Int32 → ql_H → Prop} (k : ∀ h1 B1, qb_at h1 b B1 → qr_L B1 (qa_rep L x p n).2 → qp_fr b (b + 67) h h1 → Q (qa_rep L x p n).1 h1) : qw_X1_tryReplace b x p n h Q := by
  have kf : ∀ r, qa_rep L x p n = (r, L) → Q r h := fun r e => by
    have := k h B H
    rw [e] at this
    exact this RL qp_fr.rf
  obtain ⟨S, R, P, F⟩ := RL
  unfold qw_X1_tryReplace
  rw [qb_rv H]
  refine qe_X1_clauseWithId H R (fun i A hi eS z => ?_) (fun z => qp_iT rfl (kf _ (qa_by_n (qs_findN P z))))
  subst z
  have hf : qa_rep L (qa_id A) p n = qa_repC L A p n := qa_by_s (qs_find P hd hi eS)
  rw [hf] at k kf
  have hC := H.2.2.2 i hi
  have hA := (R i hi).1 A eS
  refine qp_iF qp_N ?_
  rw [qc_rv hC]
  refine qe_X3_txt hC hA fun T I => ?_
  have hl := I.1.2
  refine qp_if (fun z => kf _ (if_pos (Or.inl z))) fun z1 => ?_
  refine qe_X9_lenOf I ?_
  refine qp_if (fun z2 => ?_) (fun z2 => kf _ (if_pos (Or.inr (Int32.not_lt.mp z2))))
  have hA1 : ¬ (p < 0 ∨ nI (qa_txt A).length ≤ p) := fun z => by
    rcases z with z | z
    · exact z1 z
    · exact absurd z2 (Int32.not_lt.mpr z)
  refine qe_X9_isNote ?_
  cases en : qa_note n with
  | false =>
    rw [show (decide (97 ≤ n) && decide (n ≤ 103)) = false from en]
    exact qp_iT rfl (kf _ (by unfold qa_repC; rw [if_neg hA1, if_pos en]))
  | true =>
    rw [show (decide (97 ≤ n) && decide (n ≤ 103)) = true from en]
    have hA2 : ¬ qa_note n = false := by rw [en]; decide
    refine qp_iF qp_1 ?_
    rw [qb_rv H]
    refine qe_X1_isAmendable H R F hi eS ?_
    cases eo : qa_open L A with
    | false => exact qp_iT rfl (kf _ (by unfold qa_repC; rw [if_neg hA1, if_neg hA2, if_pos eo]))
    | true =>
      have hA3 : ¬ qa_open L A = false := by rw [eo]; decide
      refine qp_iF qp_1 ?_
      obtain ⟨j, hj, rfl⟩ := nI_of z1
      have hjl : j < (qa_txt A).length := (nI_ltI hj (by omega)).mp z2
      obtain ⟨a, ha, rfl, ec⟩ := qa_note_of en
      refine qe_X9_withReplaced I hjl ha fun T2 I2 => ?_
      rw [qb_rv H]
      have eq : qa_repC L A (nI j) (nI (97 + a)) = qa_amend L (qa_id A) A (qt_set (qa_txt A) j a) := by
        unfold qa_repC
        rw [if_neg hA1, if_neg hA2, if_neg hA3, ec, nI_clamp hj]
      rw [eq] at k
      exact qe_X1_amend H R P F hd hi eS (qa_open_lt eo) I2 (fun z => by
        have := congrArg List.length z
        rw [qt_set_len hjl] at this
        have h2 : (qa_txt A).length = 0 := this
        omega) k
theorem qe_X1_tryDelete (H : qb_at h b B) (RL : qr_L B L) (hd : (L.1.map qa_id).Pairwise (· < ·)) {x p : Int32} {Q : Int32 → ql_H → Prop} (k : ∀ h1 B1, qb_at h1 b B1 → qr_L B1 (qa_del L x p).2 → qp_fr b (b + 67) h h1 → Q (qa_del L x p).1 h1) : qw_X1_tryDelete b x p h Q := by
  have kf : ∀ r, qa_del L x p = (r, L) → Q r h := fun r e => by
    have := k h B H
    rw [e] at this
    exact this RL qp_fr.rf
  obtain ⟨S, R, P, F⟩ := RL
  unfold qw_X1_tryDelete
  rw [qb_rv H]
  refine qe_X1_clauseWithId H R (fun i A hi eS z => ?_) (fun z => qp_iT rfl (kf _ (qa_by_n (qs_findN P z))))
  subst z
  have hf : qa_del L (qa_id A) p = qa_delC L A p := qa_by_s (qs_find P hd hi eS)
  rw [hf] at k kf
  have hC := H.2.2.2 i hi
  have hA := (R i hi).1 A eS
  refine qp_iF qp_N ?_
  rw [qc_rv hC]
  refine qe_X3_txt hC hA fun T I => ?_
  have hl := I.1.2
  refine qe_X9_lenOf I ?_
  refine qp_if (fun z => kf _ (if_pos (Or.inl z))) fun z1 => qp_if (fun z2 => ?_) (fun z2 => kf _ (if_pos (Or.inr (Int32.not_lt.mp z2))))
  have hA1 : ¬ (p < 0 ∨ nI (qa_txt A).length ≤ p) := fun z => by
    rcases z with z | z
    · exact z1 z
    · exact absurd z2 (Int32.not_lt.mpr z)
  rw [qb_rv H]
  refine qe_X1_isAmendable H R F hi eS ?_
  cases eo : qa_open L A with
  | false => exact qp_iT rfl (kf _ (by unfold qa_delC; rw [if_neg hA1, if_pos eo]))
  | true =>
    have hA3 : ¬ qa_open L A = false := by rw [eo]; decide
    refine qp_iF qp_1 ?_
    by_cases e1 : 1 < (qa_txt A).length
    · refine qp_iT (nI_lt (a := 1) e1 (by omega)) ?_
      obtain ⟨j, hj, rfl⟩ := nI_of z1
      have hjl : j < (qa_txt A).length := (nI_ltI hj (by omega)).mp z2
      refine qe_X9_withDeleted I hjl fun T2 I2 => ?_
      rw [qb_rv H]
      have eq : qa_delC L A (nI j) = qa_amend L (qa_id A) A (qt_del (qa_txt A) j) := by
        unfold qa_delC
        rw [if_neg hA1, if_neg hA3, if_neg (by omega), nI_clamp hj]
      rw [eq] at k
      exact qe_X1_amend H R P F hd hi eS (qa_open_lt eo) I2 (fun z => by
        have := congrArg List.length z
        rw [qt_del_len hjl] at this
        have h2 : (qa_txt A).length - 1 = 0 := this
        omega) k
    · exact qp_iF (nI_nlt (a := 1) (b := (qa_txt A).length) (by omega) (by omega)) (kf _ (by unfold qa_delC; rw [if_neg hA1, if_neg hA3, if_pos (by omega)]))
theorem qe_X1_trySunset (H : qb_at h b B) (RL : qr_L B L) (hd : (L.1.map qa_id).Pairwise (· < ·)) {x d : Int32} {Q : Int32 → ql_H → Prop} (k : ∀ h1 B1, qb_at h1 b B1 → qr_L B1 (qa_setSun L x d).2 → qp_fr b (b + 67) h h1 → Q (qa_setSun L x d).1 h1) : qw_X1_trySunset b x d h Q := by
  have kf : ∀ r, qa_setSun L x d = (r, L) → Q r h := fun r e => by
    have := k h B H
    rw [e] at this
    exact this RL qp_fr.rf
  obtain ⟨S, R, P, F⟩ := RL
  have F2 : B.2.1 2 = L.2.1 2 := F.1.2 2 (by omega) (by omega)
  unfold qw_X1_trySunset
  rw [qb_rv H]
  refine qe_X1_clauseWithId H R (fun i A hi eS z => ?_) (fun z => qp_iT rfl (kf _ (qa_by_n (qs_findN P z))))
  subst z
  have hf : qa_setSun L (qa_id A) d = qa_sunC L A d := qa_by_s (qs_find P hd hi eS)
  rw [hf] at k kf
  have hC := H.2.2.2 i hi
  have hA := (R i hi).1 A eS
  refine qp_iF qp_N ?_
  rw [qb_f H 2, F2]
  refine qp_if (fun z => kf _ (if_pos (Or.inl z))) fun z1 => ?_
  rw [qb_f H 2, F2]
  refine qp_if (fun z2 => ?_) (fun z2 => kf _ (if_pos (Or.inr (Int32.not_le.mp z2))))
  have hA1 : ¬ (d < L.2.1 2 ∨ 9999 < d - L.2.1 2) := fun z => by
    rcases z with z | z
    · exact z1 z
    · exact absurd z2 (Int32.not_le.mpr z)
  rw [qb_f H 2, qc_rv hC, F2]
  refine qe_X3_lapsedBy hC ?_
  rw [hA.laps]
  cases el : qa_laps A (L.2.1 2) with
  | true => exact qp_iF qp_1 (kf _ (by unfold qa_sunC; rw [if_neg hA1, if_pos el]))
  | false =>
    refine qp_iT rfl ?_
    have eq : qa_sunC L A d = (d - L.2.1 2, qa_upd L.1 (qa_id A) (fun C => ((qa_id C, qa_sec C, qa_beg C, d), C.2)), L.2) := by
      unfold qa_sunC
      rw [if_neg hA1, if_neg (by rw [el]; decide)]
    rw [eq] at k
    refine qc_p hC 4 fun h1 H1 f1 => ?_
    obtain ⟨H2, f2⟩ := H.cl hi H1 f1
    rw [qb_f H2 2, show (qb_sC B i (qc_sF (B.1 i) 4 d)).2.1 2 = L.2.1 2 from F2]
    obtain ⟨S2, R2, P2⟩ := qr_L.upd (g := fun C => ((qa_id C, qa_sec C, qa_beg C, d), C.2)) R P hd hi eS (hA.sun d)
    exact k h1 _ H2 ⟨S2, R2, P2, F⟩ f2
theorem qe_X1_tryCite (H : qb_at h b B) (RL : qr_L B L) (hd : (L.1.map qa_id).Pairwise (· < ·)) (hm : ∀ A ∈ L.1, qa_id A ≠ -1) {x y : Int32} {Q : Int32 → ql_H → Prop} (k : ∀ h1 B1, qb_at h1 b B1 → qr_L B1 (qa_cite L x y).2 → qp_fr b (b + 67) h h1 → Q (qa_cite L x y).1 h1) : qw_X1_tryCite b x y h Q := by
  have kf : ∀ r, qa_cite L x y = (r, L) → Q r h := fun r e => by
    have := k h B H
    rw [e] at this
    exact this RL qp_fr.rf
  obtain ⟨S, R, P, F⟩ := RL
  unfold qw_X1_tryCite
  rw [qb_rv H]
  refine qe_X1_clauseWithId H R (fun i A hi eS z => ?_) (fun z => qp_iT rfl (kf _ (qa_by_n (qs_findN P z))))
  subst z
  have hf : qa_cite L (qa_id A) y = qa_citeC L A y := qa_by_s (qs_find P hd hi eS)
  rw [hf] at k kf
  have hC := H.2.2.2 i hi
  have hA := (R i hi).1 A eS
  refine qp_iF qp_N ?_
  rw [qb_rv H]
  refine qe_X1_clauseWithId H R (fun i2 A2 hi2 eS2 z => ?_) (fun z => ?_)
  · have hm2 := P.mem_iff.mp (qs_ls_mem.mpr ⟨i2, hi2, eS2⟩)
    have hh : ¬ qa_has L.1 y = false := by
      rw [qa_has_iff.mpr ⟨A2, hm2, z⟩]
      decide
    have hy : y ≠ -1 := z ▸ hm A2 hm2
    refine qp_iF qp_N (qp_if (fun e => kf _ (by unfold qa_citeC; rw [if_neg hh, if_pos e])) fun e => ?_)
    rw [qc_rv hC]
    refine qe_X3_citesId hC hA.ok fun p hp => ?_
    have hp2 : p = true ↔ y ∈ qa_ci A := by
      rw [hp]
      constructor
      · rintro ⟨j, hj, e2⟩
        rw [hA.2.2.1.1 j hj] at e2
        exact e2 ▸ List.getElem_mem hj
      · intro hm2
        obtain ⟨j, hj, e2, _⟩ := qa_mem_idx hm2
        exact ⟨j, hj, by rw [hA.2.2.1.1 j hj, e2]⟩
    cases p with
    | true => exact qp_iF qp_1 (kf _ (by unfold qa_citeC; rw [if_neg hh, if_neg e, if_pos (Or.inl (hp2.mp rfl))]))
    | false =>
      refine qp_iT rfl ?_
      have hny : y ∉ qa_ci A := fun z => by cases hp2.mpr z
      rw [qc_rv hC]
      refine qe_X3_countCites hC hA.ok ?_
      have hn4 := hA.2.2.2.2.1
      by_cases e4 : (qa_ci A).length < 4
      · refine qp_iT (nI_lt (b := 4) e4 (by omega)) ?_
        have eq : qa_citeC L A y = (nI ((qa_ci A).length + 1), qa_upd L.1 (qa_id A) (fun C => (C.1, qa_vs C, qa_ci C ++ [y])), L.2) := by
          unfold qa_citeC
          rw [if_neg hh, if_neg e, if_neg (fun z => by
            rcases z with z | z
            · exact hny z
            · omega)]
        rw [eq] at k
        rw [qc_rv hC]
        refine qe_X3_addCite hC hA.ok e4 fun h1 H1 f1 => ?_
        obtain ⟨H2, f2⟩ := H.cl hi H1 f1
        have hA3 := hA.cite rfl e4 hny hy
        have hC3 : qc_at h1 (b + 3 + 4 * i) (qc_sC (B.1 i) (qa_ci A).length y) := H1
        rw [qc_rv hC3]
        refine qe_X3_countCites hC3 hA3.ok ?_
        rw [show (qa_ci (A.1, qa_vs A, qa_ci A ++ [y])).length = (qa_ci A).length + 1 from List.length_append]
        obtain ⟨S2, R2, P2⟩ := qr_L.upd (g := fun C => (C.1, qa_vs C, qa_ci C ++ [y])) R P hd hi eS hA3
        exact k h1 _ H2 ⟨S2, R2, P2, F⟩ f2
      · exact qp_iF (nI_nlt (a := (qa_ci A).length) (b := 4) (by omega) (by omega)) (kf _ (by unfold qa_citeC; rw [if_neg hh, if_neg e, if_pos (Or.inr (by omega))]))
  · refine qp_iT rfl (kf _ ?_)
    unfold qa_citeC
    rw [if_pos]
    cases e : qa_has L.1 y with
    | false => rfl
    | true =>
      obtain ⟨D, hD, e2⟩ := qa_has_iff.mp e
      obtain ⟨j, hj, e3⟩ := qs_ls_mem.mp (P.mem_iff.mpr hD)
      exact absurd e2 (z j D hj e3)
theorem qe_X1_tryUncite (H : qb_at h b B) (RL : qr_L B L) (hd : (L.1.map qa_id).Pairwise (· < ·)) {x y : Int32} {Q : Int32 → ql_H → Prop} (k : ∀ h1 B1, qb_at h1 b B1 → qr_L B1 (qa_uncite L x y).2 → qp_fr b (b + 67) h h1 → Q (qa_uncite L x y).1 h1) : qw_X1_tryUncite b x y h Q := by
  have kf : ∀ r, qa_uncite L x y = (r, L) → Q r h := fun r e => by
    have := k h B H
    rw [e] at this
    exact this RL qp_fr.rf
  obtain ⟨S, R, P, F⟩ := RL
  unfold qw_X1_tryUncite
  rw [qb_rv H]
  refine qe_X1_clauseWithId H R (fun i A hi eS z => ?_) (fun z => qp_iT rfl (kf _ (qa_by_n (qs_findN P z))))
  subst z
  have hf : qa_uncite L (qa_id A) y = qa_unciteC L A y := qa_by_s (qs_find P hd hi eS)
  rw [hf] at k kf
  have hC := H.2.2.2 i hi
  have hA := (R i hi).1 A eS
  refine qp_iF qp_N ?_
  rw [qc_rv hC]
  refine qe_X3_citesId hC hA.ok fun p hp => ?_
  cases p with
  | false =>
    refine qp_iT rfl (kf _ ?_)
    unfold qa_unciteC
    rw [if_neg]
    intro hm2
    obtain ⟨j, hj, e2, _⟩ := qa_mem_idx hm2
    cases hp.mpr ⟨j, hj, by rw [hA.2.2.1.1 j hj, e2]⟩
  | true =>
    refine qp_iF qp_1 ?_
    obtain ⟨j0, hj0, e0⟩ := hp.mp rfl
    rw [hA.2.2.1.1 j0 hj0] at e0
    obtain ⟨j, hj, e2, hfst⟩ := qa_mem_idx (e0 ▸ List.getElem_mem hj0 : y ∈ qa_ci A)
    have eq : qa_unciteC L A y = (nI ((qa_ci A).length - 1), qa_upd L.1 (qa_id A) (fun C => (C.1, qa_vs C, (qa_ci C).erase y)), L.2) := by
      unfold qa_unciteC
      rw [if_pos (e0 ▸ List.getElem_mem hj0)]
    rw [eq] at k
    have hn4 := hA.2.2.2.2.1
    rw [qc_rv hC]
    refine qe_X3_removeCite hC hA.ok hj (by rw [hA.2.2.1.1 j hj, e2]) (fun m hm2 => by
      rw [hA.2.2.1.1 m (Nat.lt_trans hm2 hj)]
      exact hfst m hm2) fun h1 H1 f1 => ?_
    obtain ⟨H2, f2⟩ := H.cl hi H1 f1
    have hA3 := hA.rm hj
    rw [qc_rv H1]
    refine qe_X3_countCites H1 hA3.ok ?_
    rw [show (qa_ci (A.1, qa_vs A, (qa_ci A).eraseIdx j)).length = (qa_ci A).length - 1 from List.length_eraseIdx_of_lt hj]
    rw [← qa_er _ y j hj e2 hfst] at hA3
    obtain ⟨S2, R2, P2⟩ := qr_L.upd (g := fun C => (C.1, qa_vs C, (qa_ci C).erase y)) R P hd hi eS hA3
    exact k h1 _ H2 ⟨S2, R2, P2, F⟩ f2
theorem qe_X1_tryRepeal (H : qb_at h b B) (RL : qr_L B L) (hd : (L.1.map qa_id).Pairwise (· < ·)) {x : Int32} {Q : Int32 → ql_H → Prop} (k : ∀ h1 B1, qb_at h1 b B1 → qr_L B1 (qa_repeal L x).2 → qp_fr b (b + 67) h h1 → Q (qa_repeal L x).1 h1) : qw_X1_tryRepeal b x h Q := by
  have kf : ∀ r, qa_repeal L x = (r, L) → Q r h := fun r e => by
    have := k h B H
    rw [e] at this
    exact this RL qp_fr.rf
  obtain ⟨S, R, P, F⟩ := RL
  unfold qw_X1_tryRepeal
  rw [qb_rv H]
  refine qe_X1_clauseWithId H R (fun i A hi eS z => ?_) (fun z => ?_)
  · subst z
    have hC := H.2.2.2 i hi
    have hA := (R i hi).1 A eS
    have hmem : A ∈ L.1 := P.mem_iff.mp (qs_ls_mem.mpr ⟨i, hi, eS⟩)
    have eq : qa_repeal L (qa_id A) = (nI (L.1.filter (fun C => qa_id C != qa_id A)).length, L.1.filter (fun C => qa_id C != qa_id A), upd L.2.1 5 (L.2.1 5 + 1), L.2.2) := by
      unfold qa_repeal
      rw [if_pos (qa_has_iff.mpr ⟨A, hmem, rfl⟩)]
    rw [eq] at k
    refine qp_iF qp_N ?_
    refine qc_p hC 0 fun h1 H1 f1 => ?_
    obtain ⟨H2, f2⟩ := H.cl hi H1 f1
    rw [qb_f H2 5]
    refine qb_p H2 5 fun h3 H3 f3 => ?_
    have R3 : qr_S (qb_sF (qb_sC B i (qc_sF (B.1 i) 0 0)) 5 ((qb_sC B i (qc_sF (B.1 i) 0 0)).2.1 5 + 1)) (fun j => (S j).filter fun C => qa_id C != qa_id A) := by
      have := R.up (i := i) (C1 := qc_sF (B.1 i) 0 0) (S2 := fun j => (S j).filter fun C => qa_id C != qa_id A) (fun j hj hji => ?_) (fun D hD => ?_) (fun _ => rfl)
      · exact this
      · cases eS2 : S j with
        | none => rfl
        | some D =>
          have : qa_id D ≠ qa_id A := fun z => hji (qs_uniq P hd hj hi eS2 eS z)
          simp [Option.filter, this]
      · rw [eS] at hD
        simp [Option.filter] at hD
    have P3 : (qs_ls (fun j => (S j).filter fun C => qa_id C != qa_id A) 16).Perm (L.1.filter (fun C => qa_id C != qa_id A)) := by
      rw [qs_ls_filter]
      exact P.filter _
    rw [qb_rv H3]
    refine qe_X1_countClauses H3 R3 ?_
    rw [P3.length_eq]
    exact k h3 _ H3 ⟨_, R3, P3, F.set 5 (congrArg (· + 1) (F.1.2 5 (by omega) (by omega)))⟩ (f2.tr f3)
  · refine qp_iT rfl (kf _ ?_)
    unfold qa_repeal
    rw [if_neg]
    intro e
    obtain ⟨D, hD, e2⟩ := qa_has_iff.mp e
    obtain ⟨j, hj, e3⟩ := qs_ls_mem.mp (P.mem_iff.mpr hD)
    exact absurd e2 (z j D hj e3)
theorem qe_X1_tryAdvance (H : qb_at h b B) (RL : qr_L B L) {n : Int32} {Q : Int32 → ql_H → Prop} (k : ∀ h1 B1, qb_at h1 b B1 → qr_L B1 (qa_adv L n).2 → qp_fr b (b + 67) h h1 → Q (qa_adv L n).1 h1) : qw_X1_tryAdvance b n h Q := by
  have kf : ∀ r, qa_adv L n = (r, L) → Q r h := fun r e => by
    have := k h B H
    rw [e] at this
    exact this RL qp_fr.rf
  obtain ⟨S, R, P, F⟩ := RL
  have F2 : B.2.1 2 = L.2.1 2 := F.1.2 2 (by omega) (by omega)
  unfold qw_X1_tryAdvance
  refine qp_if (fun z => kf _ (if_pos (Or.inl z))) fun z1 => qp_if (fun z2 => ?_) (fun z2 => kf _ (if_pos (Or.inr (Int32.not_le.mp z2))))
  have hA1 : ¬ (n < 1 ∨ 400 < n) := fun z => by
    rcases z with z | z
    · exact z1 z
    · exact absurd z2 (Int32.not_le.mpr z)
  have eq : qa_adv L n = (nI (L.1.countP fun C => qa_laps C (L.2.1 2 + n)) - nI (qa_over L), L.1, upd L.2.1 2 (L.2.1 2 + n), L.2.2) := by
    unfold qa_adv
    rw [if_neg hA1]
  rw [eq] at k
  rw [qb_rv H]
  refine qe_X1_countLapsed H R ?_
  rw [qb_f H 2]
  refine qb_p H 2 fun h1 H1 f1 => ?_
  rw [qb_rv H1]
  refine qe_X1_countLapsed H1 (S := S) R ?_
  rw [show (qb_sF B 2 (B.2.1 2 + n)).2.1 2 = B.2.1 2 + n from rfl, P.countP_eq, P.countP_eq, F2]
  have F4 : qr_F (qb_sF B 2 (B.2.1 2 + n)) (L.1, upd L.2.1 2 (L.2.1 2 + n), L.2.2) := F.set 2 (by rw [F2])
  exact k h1 _ H1 ⟨S, R, P, F4⟩ f1
end QM2
