/-! An edition: who has lapsed goes, cites of no clause go, sections are numbered anew, one version stays. -/
section QED
variable {h : ql_H} {b : Nat} {B : qb_T} {S : Nat → Option qa_C} {L : qa_L} {N : Nat}
theorem qe_X1_endLapsedClauses (H : qb_at h b B) (R : qr_S B S) {Q : ql_H → Prop} (k : ∀ h1 B1, qb_at h1 b B1 → qr_S B1 (fun j => (S j).filter fun A => !qa_laps A (B.2.1 2)) → B1.2 = (upd B.2.1 6 (B.2.1 6 + nI ((qs_ls S 16).countP fun A => qa_laps A (B.2.1 2))), B.2.2) → qp_fr b (b + 67) h h1 → Q h1) : qw_X1_endLapsedClauses b h Q := by
  have hL : ∀ m i g Bg, i ≤ 16 → 16 - i < m → qb_at g b Bg → qr_S Bg (fun j => if j < i then (S j).filter fun A => !qa_laps A (B.2.1 2) else S j) → Bg.2 = (upd B.2.1 6 (B.2.1 6 + nI ((qs_ls S i).countP fun A => qa_laps A (B.2.1 2))), B.2.2) → qp_fr b (b + 67) h g → qw_X1_endLapsedClauses_10 b Q m (some (b + 1)) (nI 16) (nI i) g := by
    intro m
    induction m with
    | zero => intro i _ _ _ h; omega
    | succ m ih =>
      intro i g Bg hi hm G RG EG f
      unfold qw_X1_endLapsedClauses_10 qw_X1_endLapsedClauses_56
      by_cases e : i = 16
      · subst e
        refine qp_iT (nI_le (Nat.le_refl _) (by omega)) (k g Bg G ?_ EG f)
        intro j hj
        have := RG j hj
        simp only [if_pos hj] at this
        exact this
      · refine qp_iF (nI_ge (by omega) (by omega)) ?_
        have hC := G.2.2.2 i (by omega)
        have Ri := RG i (by omega)
        simp only [if_neg (Nat.lt_irrefl i)] at Ri
        have hd : Bg.2.1 2 = B.2.1 2 := by
          rw [EG]
          rfl
        have st : (S i).filter (fun A => !qa_laps A (B.2.1 2)) = S i → qr_S Bg (fun j => if j < i + 1 then (S j).filter fun A => !qa_laps A (B.2.1 2) else S j) := fun e2 j hj => by
          have := RG j hj
          by_cases e3 : j = i
          · subst e3
            simp only [if_neg (Nat.lt_irrefl j)] at this
            simp only [if_pos (Nat.lt_succ_self j)]
            rw [e2]
            exact this
          · by_cases e4 : j < i
            · simp only [if_pos e4] at this
              simp only [if_pos (Nat.lt_succ_of_lt e4)]
              exact this
            · simp only [if_neg e4] at this
              simp only [if_neg (show ¬ j < i + 1 by omega)]
              exact this
        rw [qb_lC G (by omega), qc_f hC 0, nI_1]
        cases eS : S i with
        | none =>
          refine qp_iT (Ri.2 eS) (ih (i + 1) g Bg (by omega) (by omega) G (st (by rw [eS]; rfl)) ?_ f)
          rw [qs_ls_none eS]
          exact EG
        | some A =>
          have hA := Ri.1 A eS
          refine qp_iF (by rw [hA.1.1]; exact qp_1) ?_
          rw [qb_f G 2, qc_rv hC, hd]
          refine qe_X3_lapsedBy hC ?_
          rw [hA.laps]
          cases el : qa_laps A (B.2.1 2) with
          | false =>
            refine qp_iT rfl (ih (i + 1) g Bg (by omega) (by omega) G (st (by rw [eS]; simp [Option.filter, el])) ?_ f)
            rw [qs_ls_some eS, qp_cp0 (P := fun A => qa_laps A (B.2.1 2)) el]
            exact EG
          | true =>
            refine qp_iF qp_1 ?_
            refine qc_p hC 0 fun h1 H1 f1 => ?_
            obtain ⟨H2, f2⟩ := G.cl (by omega) H1 f1
            rw [qb_f H2 6]
            refine qb_p H2 6 fun h3 H3 f3 => ?_
            refine ih (i + 1) h3 _ (by omega) (by omega) H3 ?_ ?_ (f.tr (f2.tr f3))
            · have := RG.up (i := i) (C1 := qc_sF (Bg.1 i) 0 0) (S2 := fun j => if j < i + 1 then (S j).filter fun A => !qa_laps A (B.2.1 2) else S j) (fun j hj hji => ?_) (fun D hD => ?_) (fun _ => rfl)
              · exact this
              · by_cases e4 : j < i
                · simp only [if_pos e4, if_pos (Nat.lt_succ_of_lt e4)]
                · simp only [if_neg e4, if_neg (show ¬ j < i + 1 by omega)]
              · simp only [if_pos (Nat.lt_succ_self i)] at hD
                rw [eS] at hD
                simp [Option.filter, el] at hD
            · rw [qs_ls_some eS, qp_cp1 (P := fun A => qa_laps A (B.2.1 2)) el]
              show (upd Bg.2.1 6 (Bg.2.1 6 + 1), Bg.2.2) = _
              rw [EG]
              refine congrArg (fun z => (z, B.2.2)) ?_
              funext j
              show upd (upd B.2.1 6 (B.2.1 6 + nI ((qs_ls S i).countP fun A => qa_laps A (B.2.1 2)))) 6 (upd B.2.1 6 (B.2.1 6 + nI ((qs_ls S i).countP fun A => qa_laps A (B.2.1 2))) 6 + 1) j = upd B.2.1 6 (B.2.1 6 + nI ((qs_ls S i).countP (fun A => qa_laps A (B.2.1 2)) + 1)) j
              by_cases e5 : j = 6
              · rw [e5, pk_us, pk_us, pk_us, Int32.add_assoc, nI_1]
              · rw [pk_un e5, pk_un e5, pk_un e5]
  unfold qw_X1_endLapsedClauses
  rw [qb_r0 H, qb_ln H]
  refine hL ql_FU 0 h B (Nat.zero_le _) (by unfold ql_FU; omega) H ?_ ?_ qp_fr.rf
  · intro j hj
    have := R j hj
    simp only [if_neg (Nat.not_lt_zero j)]
    exact this
  · refine Prod.ext ?_ rfl
    funext j
    show B.2.1 j = upd B.2.1 6 (B.2.1 6 + nI 0) j
    by_cases e5 : j = 6
    · rw [e5, pk_us, nI_0, Int32.add_zero]
    · rw [pk_un e5]
theorem qs_ids {S2 : Nat → Option qa_C} (h : ∀ j, (S2 j).map qa_id = (S j).map qa_id) (n : Nat) : (qs_ls S2 n).map qa_id = (qs_ls S n).map qa_id := by
  induction n with
  | zero => rfl
  | succ n ih =>
    rw [qs_ls_succ, qs_ls_succ, List.map_append, List.map_append, ih]
    congr 1
    have := h n
    cases e1 : S2 n <;> cases e2 : S n <;> rw [e1, e2] at this <;> simp at this ⊢
    exact this
theorem qa_has_map {l l2 : List qa_C} (h : l.map qa_id = l2.map qa_id) (x : Int32) : qa_has l x = qa_has l2 x := by
  have e : ∀ l : List qa_C, qa_has l x = (l.map qa_id).any fun y => y == x := fun l => by
    unfold qa_has
    rw [List.any_map]
    rfl
  rw [e, e, h]
def qa_cut (l : List qa_C) (A : qa_C) : qa_C := (A.1, qa_vs A, (qa_ci A).filter fun y => qa_has l y)
/-- in the midst of it: the cites from p on are through -/
def qa_cutp (l : List qa_C) (p : Nat) (A : qa_C) : qa_C := (A.1, qa_vs A, (qa_ci A).take p ++ ((qa_ci A).drop p).filter fun y => qa_has l y)
theorem qa_cut0 (l : List qa_C) (A : qa_C) : qa_cutp l 0 A = qa_cut l A := rfl
theorem qa_cutn (l : List qa_C) (A : qa_C) : qa_cutp l (qa_ci A).length A = A := by
  unfold qa_cutp
  rw [List.take_length, List.drop_length]
  simp only [List.filter_nil, List.append_nil]
  rfl
theorem qa_cutp_get {l : List qa_C} {A : qa_C} {p : Nat} (hp : p < (qa_ci A).length) (h : p < (qa_ci (qa_cutp l (p + 1) A)).length) : (qa_ci (qa_cutp l (p + 1) A))[p] = (qa_ci A)[p] := by
  have e : (qa_ci (qa_cutp l (p + 1) A))[p]? = (qa_ci A)[p]? := by
    show ((qa_ci A).take (p + 1) ++ ((qa_ci A).drop (p + 1)).filter fun y => qa_has l y)[p]? = _
    rw [List.getElem?_append_left (by rw [List.length_take]; omega), List.getElem?_take, if_pos (Nat.lt_succ_self p)]
  rw [List.getElem?_eq_getElem h, List.getElem?_eq_getElem hp] at e
  exact Option.some.inj e
theorem qa_nd_ne {l : List Int32} (hn : l.Nodup) {p : Nat} (hp : p < l.length) : ∀ j (hj : j < p), l[j]'(Nat.lt_trans hj hp) ≠ l[p] := by
  intro j hj e
  exact absurd ((List.getElem_inj hn).mp e) (by omega)
theorem qe_X1_dropCitesOfNoClause (H : qb_at h b B) (R : qr_S B S) {Q : ql_H → Prop} (k : ∀ h1 B1, qb_at h1 b B1 → qr_S B1 (fun j => (S j).map (qa_cut (qs_ls S 16))) → B1.2 = B.2 → qp_fr b (b + 67) h h1 → Q h1) : qw_X1_dropCitesOfNoClause b h Q := by
  have hL : ∀ m i g Bg, i ≤ 16 → 16 - i < m → qb_at g b Bg → qr_S Bg (fun j => if j < i then (S j).map (qa_cut (qs_ls S 16)) else S j) → Bg.2 = B.2 → qp_fr b (b + 67) h g → qw_X1_dropCitesOfNoClause_10 b Q m (some (b + 1)) (nI 16) (nI i) g := by
    intro m
    induction m with
    | zero => intro i _ _ _ h; omega
    | succ m ih =>
      intro i g Bg hi hm G RG EG f
      unfold qw_X1_dropCitesOfNoClause_10 qw_X1_dropCitesOfNoClause_37
      by_cases e : i = 16
      · subst e
        refine qp_iT (nI_le (Nat.le_refl _) (by omega)) (k g Bg G ?_ EG f)
        intro j hj
        have := RG j hj
        simp only [if_pos hj] at this
        exact this
      · refine qp_iF (nI_ge (by omega) (by omega)) ?_
        have hC := G.2.2.2 i (by omega)
        have Ri := RG i (by omega)
        simp only [if_neg (Nat.lt_irrefl i)] at Ri
        rw [qb_lC G (by omega), qc_f hC 0]
        cases eS : S i with
        | none =>
          refine qp_iT (Ri.2 eS) ?_
          rw [show ql_FU = 999999 + 1 from rfl]
          unfold qw_X1_dropCitesOfNoClause_45
          refine qp_iT (by decide) ?_
          rw [nI_1]
          refine ih (i + 1) g Bg (by omega) (by omega) G (fun j hj => ?_) EG f
          have := RG j hj
          by_cases e3 : j = i
          · subst e3
            simp only [if_neg (Nat.lt_irrefl j)] at this
            simp only [if_pos (Nat.lt_succ_self j)]
            rw [eS] at this ⊢
            exact this
          · by_cases e4 : j < i
            · simp only [if_pos e4] at this
              simp only [if_pos (Nat.lt_succ_of_lt e4)]
              exact this
            · simp only [if_neg e4] at this
              simp only [if_neg (show ¬ j < i + 1 by omega)]
              exact this
        | some A =>
          have hA := Ri.1 A eS
          refine qp_iF (by rw [hA.1.1]; exact qp_1) ?_
          rw [qc_rv hC]
          refine qe_X3_countCites hC hA.ok ?_
          have hn4 := hA.2.2.2.2.1
          have inner : ∀ p m2 g2 B2, p ≤ (qa_ci A).length → p < m2 → qb_at g2 b B2 → qr_S B2 (fun j => if j = i then some (qa_cutp (qs_ls S 16) p A) else if j < i then (S j).map (qa_cut (qs_ls S 16)) else S j) → B2.2 = B.2 → qp_fr b (b + 67) h g2 → qw_X1_dropCitesOfNoClause_45 b Q (qw_X1_dropCitesOfNoClause_10 b Q m) m2 (some (b + 1)) (nI 16) (nI i) (some (b + 3 + 4 * i)) (nI p - 1) g2 := by
            intro p
            induction p with
            | zero =>
              intro m2 g2 B2 hp hm2 G2 R2 E2 f2
              obtain ⟨m3, rfl⟩ : ∃ m3, m2 = m3 + 1 := ⟨m2 - 1, by omega⟩
              unfold qw_X1_dropCitesOfNoClause_45
              refine qp_iT (by decide) ?_
              rw [nI_1]
              refine ih (i + 1) g2 B2 (by omega) (by omega) G2 (fun j hj => ?_) E2 f2
              have := R2 j hj
              by_cases e3 : j = i
              · subst e3
                simp only [if_true] at this
                simp only [if_pos (Nat.lt_succ_self j)]
                rw [eS]
                exact this
              · by_cases e4 : j < i
                · simp only [if_neg e3, if_pos e4] at this
                  simp only [if_pos (Nat.lt_succ_of_lt e4)]
                  exact this
                · simp only [if_neg e3, if_neg e4] at this
                  simp only [if_neg (show ¬ j < i + 1 by omega)]
                  exact this
            | succ p ihp =>
              intro m2 g2 B2 hp hm2 G2 R2 E2 f2
              obtain ⟨m3, rfl⟩ : ∃ m3, m2 = m3 + 1 := ⟨m2 - 1, by omega⟩
              unfold qw_X1_dropCitesOfNoClause_45 qw_X1_dropCitesOfNoClause_75
              have hC2 := G2.2.2.2 i (by omega)
              have hA2 : qr_C (B2.1 i) (qa_cutp (qs_ls S 16) (p + 1) A) := (R2 i (by omega)).1 _ (if_pos rfl)
              rw [nI_pred]
              refine qp_iF (nI_pos (by omega)) ?_
              rw [qc_rv hC2]
              have hlen : p < (qa_ci (qa_cutp (qs_ls S 16) (p + 1) A)).length := by
                show p < ((qa_ci A).take (p + 1) ++ _).length
                rw [List.length_append, List.length_take]
                omega
              have hget : (qa_ci (qa_cutp (qs_ls S 16) (p + 1) A))[p] = (qa_ci A)[p] := qa_cutp_get (by omega) hlen
              refine qe_X3_citeAtPlace hC2 (by omega) ?_
              rw [hA2.2.2.1.1 p hlen, hget, qb_rv G2]
              have hids : ∀ x, qa_has (qs_ls (fun j => if j = i then some (qa_cutp (qs_ls S 16) (p + 1) A) else if j < i then (S j).map (qa_cut (qs_ls S 16)) else S j) 16) x = qa_has (qs_ls S 16) x := by
                intro x
                refine qa_has_map (qs_ids (fun j => ?_) 16) x
                by_cases e3 : j = i
                · simp only [if_pos e3]
                  rw [e3, eS]
                  rfl
                · by_cases e4 : j < i
                  · simp only [if_neg e3, if_pos e4]
                    cases S j <;> rfl
                  · simp only [if_neg e3, if_neg e4]
              have hdr : (qa_ci A).drop p = (qa_ci A)[p] :: (qa_ci A).drop (p + 1) := List.drop_eq_getElem_cons (by omega)
              have htk : (qa_ci A).take (p + 1) = (qa_ci A).take p ++ [(qa_ci A)[p]] := by
                rw [List.take_succ_eq_append_getElem (by omega)]
              refine qe_X1_clauseWithId G2 R2 (fun i2 A2 hi2 eS2 z => ?_) (fun z => ?_)
              · refine qp_iF qp_N ?_
                rw [show nI p + (-1 : Int32) = nI p - 1 from (Int32.sub_eq_add_neg _ _).symm]
                refine ihp m3 g2 B2 (by omega) (by omega) G2 ?_ E2 f2
                have hh : qa_has (qs_ls S 16) (qa_ci A)[p] = true := by
                  rw [← hids]
                  exact qa_has_iff.mpr ⟨A2, qs_ls_mem.mpr ⟨i2, hi2, eS2⟩, z⟩
                have : qa_cutp (qs_ls S 16) p A = qa_cutp (qs_ls S 16) (p + 1) A := by
                  unfold qa_cutp
                  rw [hdr, List.filter_cons, if_pos hh, htk, List.append_assoc]
                  rfl
                rw [this]
                exact R2
              · refine qp_iT rfl ?_
                have hh : ¬ qa_has (qs_ls S 16) (qa_ci A)[p] = true := by
                  rw [← hids]
                  intro z2
                  obtain ⟨D, hD, e2⟩ := qa_has_iff.mp z2
                  obtain ⟨j, hj, e3⟩ := qs_ls_mem.mp hD
                  exact z j D hj e3 e2
                rw [qc_rv hC2]
                have hnd := hA2.2.2.2.2.2.1
                refine qe_X3_removeCite hC2 hA2.ok hlen (by rw [hA2.2.2.1.1 p hlen, hget]) (fun j hj => by
                  rw [hA2.2.2.1.1 j (Nat.lt_trans hj hlen), ← hget]
                  exact qa_nd_ne hnd hlen j hj) fun h1 H1 f1 => ?_
                obtain ⟨H2, f3⟩ := G2.cl (by omega) H1 f1
                rw [show nI p + (-1 : Int32) = nI p - 1 from (Int32.sub_eq_add_neg _ _).symm]
                have hA3 := hA2.rm hlen
                have e6 : ((qa_cutp (qs_ls S 16) (p + 1) A).1, qa_vs (qa_cutp (qs_ls S 16) (p + 1) A), (qa_ci (qa_cutp (qs_ls S 16) (p + 1) A)).eraseIdx p) = qa_cutp (qs_ls S 16) p A := by
                  show (A.1, qa_vs A, ((qa_ci A).take (p + 1) ++ _).eraseIdx p) = _
                  unfold qa_cutp
                  rw [hdr, List.filter_cons, if_neg hh, htk, List.append_assoc, List.eraseIdx_append_of_length_le (by rw [List.length_take]; omega), List.length_take, Nat.min_eq_left (by omega), Nat.sub_self]
                  rfl
                rw [e6] at hA3
                refine ihp m3 h1 _ (by omega) (by omega) H2 ?_ E2 (f2.tr f3)
                refine R2.up (fun j hj hji => ?_) (fun D hD => ?_) (fun hD => ?_)
                · simp only [if_neg hji]
                · simp only [if_true] at hD
                  cases hD
                  exact hA3
                · simp only [if_true] at hD
                  cases hD
          refine inner (qa_ci A).length ql_FU g Bg (Nat.le_refl _) (by unfold ql_FU; omega) G (fun j hj => ?_) EG f
          have := RG j hj
          by_cases e3 : j = i
          · subst e3
            simp only [if_neg (Nat.lt_irrefl j)] at this
            simp only [if_true]
            rw [qa_cutn, ← eS]
            exact this
          · simp only [if_neg e3]
            exact this
  unfold qw_X1_dropCitesOfNoClause
  rw [qb_r0 H, qb_ln H]
  refine hL ql_FU 0 h B (Nat.zero_le _) (by unfold ql_FU; omega) H ?_ rfl qp_fr.rf
  intro j hj
  have := R j hj
  simp only [if_neg (Nat.not_lt_zero j)]
  exact this
def qa_last (A : qa_C) : qa_C := (A.1, (qa_vs A).getLast?.toList, qa_ci A)
theorem qe_X1_forgetOldVersions (H : qb_at h b B) (R : qr_S B S) {Q : ql_H → Prop} (k : ∀ h1 B1, qb_at h1 b B1 → qr_S B1 (fun j => (S j).map qa_last) → B1.2 = B.2 → qp_fr b (b + 67) h h1 → Q h1) : qw_X1_forgetOldVersions b h Q := by
  have hL : ∀ m i g Bg, i ≤ 16 → 16 - i < m → qb_at g b Bg → qr_S Bg (fun j => if j < i then (S j).map qa_last else S j) → Bg.2 = B.2 → qp_fr b (b + 67) h g → qw_X1_forgetOldVersions_10 b Q m (some (b + 1)) (nI 16) (nI i) g := by
    intro m
    induction m with
    | zero => intro i _ _ _ h; omega
    | succ m ih =>
      intro i g Bg hi hm G RG EG f
      unfold qw_X1_forgetOldVersions_10 qw_X1_forgetOldVersions_33
      by_cases e : i = 16
      · subst e
        refine qp_iT (nI_le (Nat.le_refl _) (by omega)) (k g Bg G ?_ EG f)
        intro j hj
        have := RG j hj
        simp only [if_pos hj] at this
        exact this
      · refine qp_iF (nI_ge (by omega) (by omega)) ?_
        have hC := G.2.2.2 i (by omega)
        have Ri := RG i (by omega)
        simp only [if_neg (Nat.lt_irrefl i)] at Ri
        rw [qb_lC G (by omega), qc_f hC 0, nI_1]
        cases eS : S i with
        | none =>
          refine qp_iT (Ri.2 eS) ?_
          refine ih (i + 1) g Bg (by omega) (by omega) G (fun j hj => ?_) EG f
          have := RG j hj
          by_cases e3 : j = i
          · subst e3
            simp only [if_neg (Nat.lt_irrefl j)] at this
            simp only [if_pos (Nat.lt_succ_self j)]
            rw [eS] at this ⊢
            exact this
          · by_cases e4 : j < i
            · simp only [if_pos e4] at this
              simp only [if_pos (Nat.lt_succ_of_lt e4)]
              exact this
            · simp only [if_neg e4] at this
              simp only [if_neg (show ¬ j < i + 1 by omega)]
              exact this
        | some A =>
          have hA := Ri.1 A eS
          refine qp_iF (by rw [hA.1.1]; exact qp_1) ?_
          rw [qc_rv hC]
          obtain ⟨v, hv, _, ok⟩ := hA.v1
          refine qe_X3_keepLastVersion hC ok fun h1 H1 f1 => ?_
          obtain ⟨H2, f2⟩ := G.cl (by omega) H1 f1
          refine ih (i + 1) h1 _ (by omega) (by omega) H2 ?_ EG (f.tr f2)
          refine RG.up (fun j hj hji => ?_) (fun D hD => ?_) (fun hD => ?_)
          · by_cases e4 : j < i
            · simp only [if_pos e4, if_pos (Nat.lt_succ_of_lt e4)]
            · simp only [if_neg e4, if_neg (show ¬ j < i + 1 by omega)]
          · simp only [if_pos (Nat.lt_succ_self i)] at hD
            rw [eS] at hD
            cases hD
            exact hA.keep hv
          · simp only [if_pos (Nat.lt_succ_self i)] at hD
            rw [eS] at hD
            cases hD
  unfold qw_X1_forgetOldVersions
  rw [qb_r0 H, qb_ln H]
  refine hL ql_FU 0 h B (Nat.zero_le _) (by unfold ql_FU; omega) H ?_ rfl qp_fr.rf
  intro j hj
  have := R j hj
  simp only [if_neg (Nat.not_lt_zero j)]
  exact this
end QED
