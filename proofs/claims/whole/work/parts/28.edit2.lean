/-! Sections by their ranks; the whole edition. -/
section QE2
theorem qa_pig : ∀ (n : Nat) (l : List Nat), l.Nodup → (∀ x ∈ l, x < n) → l.length ≤ n := by
  intro n
  induction n with
  | zero =>
    intro l _ h
    cases l with
    | nil => exact Nat.le_refl _
    | cons x l => exact absurd (h x (List.mem_cons_self ..)) (Nat.not_lt_zero _)
  | succ n ih =>
    intro l hn h
    have h1 : (l.filter (fun x => x != n)).length ≤ n := ih _ (hn.sublist List.filter_sublist) fun x hx => by
      obtain ⟨h2, h3⟩ := List.mem_filter.mp hx
      have h4 := h x h2
      have h5 : x ≠ n := by simpa using h3
      omega
    have h2 : l.length ≤ (l.filter (fun x => x != n)).length + 1 := by
      clear h1 h ih
      induction l with
      | nil => exact Nat.zero_le _
      | cons x l ih =>
        rw [List.nodup_cons] at hn
        by_cases e : x = n
        · subst e
          have e2 : l.filter (fun y => y != x) = l := List.filter_eq_self.mpr fun y hy => by
            have : y ≠ x := fun z => hn.1 (z ▸ hy)
            simpa using this
          rw [List.filter_cons, if_neg (by simp), e2, List.length_cons]
          exact Nat.le_refl _
        · rw [List.filter_cons, if_pos (by simpa using e), List.length_cons, List.length_cons]
          exact Nat.succ_le_succ (ih hn.2)
    omega
theorem qa_below_map {l l2 : List qa_C} (h : l.map qa_sec = l2.map qa_sec) (s : Int32) : qa_below l s = qa_below l2 s := by
  have e : ∀ l : List qa_C, qa_below l s = (l.map qa_sec).countP fun y => decide (y < s) := fun l => by
    unfold qa_below
    rw [List.countP_map]
    rfl
  rw [e, e, h]
/-- sections from 1 on, each once -/
def qa_secs (l : List qa_C) : Prop := (l.map qa_sec).Nodup ∧ ∀ A ∈ l, ∃ s, 1 ≤ s ∧ s ≤ 99 ∧ qa_sec A = nI s
theorem qa_rank_lt {l : List qa_C} (h : qa_secs l) {A : qa_C} {s : Nat} (hs1 : 1 ≤ s) (hs : s ≤ 99) (e : qa_sec A = nI s) : qa_below l (qa_sec A) < s := by
  have h1 := qa_pig (s - 1) (((l.filter fun D => decide (qa_sec D < qa_sec A)).map qa_sec).map fun x => x.toNatClampNeg - 1) ?_ ?_
  · rw [List.length_map, List.length_map, ← List.countP_eq_length_filter] at h1
    have h2 : qa_below l (qa_sec A) ≤ s - 1 := h1
    omega
  · have hn : ((l.filter fun D => decide (qa_sec D < qa_sec A)).map qa_sec).Nodup := h.1.sublist (List.filter_sublist.map _)
    unfold List.Nodup at hn ⊢
    rw [List.pairwise_map]
    refine hn.imp_of_mem fun {x y} hx hy hxy => ?_
    obtain ⟨D, hD, rfl⟩ := List.mem_map.mp hx
    obtain ⟨E, hE, rfl⟩ := List.mem_map.mp hy
    obtain ⟨s1, a1, a2, a3⟩ := h.2 D (List.mem_filter.mp hD).1
    obtain ⟨s2, b1, b2, b3⟩ := h.2 E (List.mem_filter.mp hE).1
    rw [a3, b3] at hxy ⊢
    rw [nI_clamp (by omega), nI_clamp (by omega)]
    intro z
    exact hxy (by rw [show s1 = s2 by omega])
  · intro x hx
    obtain ⟨y, hy, rfl⟩ := List.mem_map.mp hx
    obtain ⟨D, hD, rfl⟩ := List.mem_map.mp hy
    obtain ⟨h2, h3⟩ := List.mem_filter.mp hD
    obtain ⟨s1, a1, a2, a3⟩ := h.2 D h2
    have h4 : qa_sec D < qa_sec A := of_decide_eq_true h3
    rw [a3, e] at h4
    have h5 := (nI_ltI (by omega) (by omega)).mp h4
    rw [a3, nI_clamp (by omega)]
    omega
theorem qa_rank_mono {l : List qa_C} {A D : qa_C} (hD : D ∈ l) (h : qa_sec D < qa_sec A) : qa_below l (qa_sec D) < qa_below l (qa_sec A) := by
  unfold qa_below
  induction l with
  | nil => cases hD
  | cons z l ih =>
    rw [List.countP_cons, List.countP_cons]
    have hle : l.countP (fun C => decide (qa_sec C < qa_sec D)) ≤ l.countP (fun C => decide (qa_sec C < qa_sec A)) :=
      List.countP_mono_left fun C _ hC => decide_eq_true (Int32.lt_trans (of_decide_eq_true hC) h)
    rcases List.mem_cons.mp hD with e | e
    · subst e
      rw [if_neg (by rw [decide_eq_false Int32.lt_irrefl]; decide), if_pos (decide_eq_true h)]
      omega
    · have := ih e
      by_cases e2 : qa_sec z < qa_sec D
      · rw [if_pos (decide_eq_true e2), if_pos (decide_eq_true (Int32.lt_trans e2 h))]
        omega
      · rw [if_neg (by rw [decide_eq_false e2]; decide)]
        omega
/-- the section after r ranks -/
def qa_num (l : List qa_C) (r : Nat) (A : qa_C) : qa_C := ((qa_id A, (if qa_below l (qa_sec A) < r then nI (qa_below l (qa_sec A) + 1) else qa_sec A), qa_beg A, qa_sun A), A.2)
theorem qa_num_lt {l : List qa_C} (h : qa_secs l) (r : Nat) {A D : qa_C} (hA : A ∈ l) (hD : D ∈ l) : qa_sec (qa_num l r D) < qa_sec (qa_num l r A) ↔ qa_sec D < qa_sec A := by
  obtain ⟨s1, a1, a2, a3⟩ := h.2 A hA
  obtain ⟨s2, b1, b2, b3⟩ := h.2 D hD
  have h1 := qa_rank_lt h a1 a2 a3
  have h2 := qa_rank_lt h b1 b2 b3
  have m1 : qa_sec D < qa_sec A → qa_below l (qa_sec D) < qa_below l (qa_sec A) := qa_rank_mono hD
  have m2 : qa_sec A < qa_sec D → qa_below l (qa_sec A) < qa_below l (qa_sec D) := qa_rank_mono hA
  have m3 : qa_sec D = qa_sec A → qa_below l (qa_sec D) = qa_below l (qa_sec A) := fun e => by rw [e]
  show (if qa_below l (qa_sec D) < r then nI (qa_below l (qa_sec D) + 1) else qa_sec D) < (if qa_below l (qa_sec A) < r then nI (qa_below l (qa_sec A) + 1) else qa_sec A) ↔ qa_sec D < qa_sec A
  generalize qa_below l (qa_sec D) = rD at *
  generalize qa_below l (qa_sec A) = rA at *
  rw [a3, b3] at *
  have t1 : nI s2 < nI s1 ↔ s2 < s1 := nI_ltI (by omega) (by omega)
  have t2 : nI s1 < nI s2 ↔ s1 < s2 := nI_ltI (by omega) (by omega)
  have t3 : nI s2 = nI s1 ↔ s2 = s1 := nI_eq (by omega) (by omega)
  rw [t1] at m1
  rw [t2] at m2
  rw [t3] at m3
  rw [t1]
  split
  · split
    · rw [nI_ltI (by omega) (by omega)]
      omega
    · rw [nI_ltI (by omega) (by omega)]
      omega
  · split
    · rw [nI_ltI (by omega) (by omega)]
      omega
    · exact t1
theorem qa_cP_map {l l2 : List qa_C} {g : qa_C → qa_C} {P P2 : qa_C → Bool} (h2 : l2 = l.map g) (h : ∀ D ∈ l, P2 (g D) = P D) : l2.countP P2 = l.countP P := by
  subst h2
  rw [List.countP_map]
  exact List.countP_congr fun D hD => by
    show P2 (g D) = true ↔ P D = true
    rw [h D hD]
theorem qa_num_below {l : List qa_C} (h : qa_secs l) (r : Nat) {A : qa_C} (hA : A ∈ l) : qa_below (l.map (qa_num l r)) (qa_sec (qa_num l r A)) = qa_below l (qa_sec A) := by
  unfold qa_below
  refine qa_cP_map rfl fun D hD => ?_
  have := qa_num_lt h r hA hD
  by_cases e : qa_sec D < qa_sec A
  · rw [decide_eq_true e, decide_eq_true (this.mpr e)]
  · rw [decide_eq_false e, decide_eq_false (fun z => e (this.mp z))]
variable {h : ql_H} {b : Nat} {B : qb_T} {S : Nat → Option qa_C} {L : qa_L} {N : Nat}
theorem qa_num_next {l : List qa_C} {r : Nat} {A : qa_C} (h : qa_below l (qa_sec A) ≠ r) : qa_num l (r + 1) A = qa_num l r A := by
  unfold qa_num
  by_cases e : qa_below l (qa_sec A) < r
  · rw [if_pos e, if_pos (Nat.lt_succ_of_lt e)]
  · rw [if_neg e, if_neg (by omega)]
theorem qe_X1_renumberSections (H : qb_at h b B) (R : qr_S B S) (hs : qa_secs (qs_ls S 16)) {Q : ql_H → Prop} (k : ∀ h1 B1, qb_at h1 b B1 → qr_S B1 (fun j => (S j).map (qa_num (qs_ls S 16) 16)) → B1.2 = B.2 → qp_fr b (b + 67) h h1 → Q h1) : qw_X1_renumberSections b h Q := by
  have hL : ∀ m r g Bg, r ≤ 16 → 16 - r < m → qb_at g b Bg → qr_S Bg (fun j => (S j).map (qa_num (qs_ls S 16) r)) → Bg.2 = B.2 → qp_fr b (b + 67) h g → qw_X1_renumberSections_2 b Q m (nI r) g := by
    intro m
    induction m with
    | zero => intro i _ _ _ h; omega
    | succ m ih =>
      intro r g Bg hr hm G RG EG f
      unfold qw_X1_renumberSections_2 qw_X1_renumberSections_25
      by_cases e : r = 16
      · subst e
        exact qp_iT (nI_le (a := 16) (Nat.le_refl _) (by omega)) (k g Bg G RG EG f)
      · refine qp_iF (nI_ge (a := r) (b := 16) (by omega) (by omega)) ?_
        rw [qb_rv G, nI_1]
        have lm : qs_ls (fun j => (S j).map (qa_num (qs_ls S 16) r)) 16 = (qs_ls S 16).map (qa_num (qs_ls S 16) r) := qs_ls_map ..
        refine qe_X1_clauseAtRank G RG (fun i A hi eA z => ?_) (fun z => ?_)
        · cases eS : S i with
          | none => rw [eS] at eA; cases eA
          | some D =>
            have hDm : D ∈ qs_ls S 16 := qs_ls_mem.mpr ⟨i, hi, eS⟩
            have eA2 : A = qa_num (qs_ls S 16) r D := by
              have : ((S i).map (qa_num (qs_ls S 16) r)) = some A := eA
              rw [eS] at this
              exact (Option.some.inj this).symm
            subst eA2
            rw [lm, qa_num_below hs r hDm] at z
            have hb := qs_ls_le S 16
            have hb2 : qa_below (qs_ls S 16) (qa_sec D) ≤ (qs_ls S 16).length := List.countP_le_length
            have z2 := (nI_eq (by omega) (by omega)).mp z
            refine qp_iF qp_N ?_
            have hC := G.2.2.2 i hi
            have hA := (RG i hi).1 _ eA
            refine qc_p hC 2 fun h1 H1 f1 => ?_
            obtain ⟨H2, f2⟩ := G.cl hi H1 f1
            refine ih (r + 1) h1 _ (by omega) (by omega) H2 ?_ EG (f.tr f2)
            refine RG.up (fun j hj hji => ?_) (fun E hE => ?_) (fun hE => ?_)
            · show (S j).map _ = (S j).map _
              cases eS2 : S j with
              | none => rfl
              | some E =>
                have hEm : E ∈ qs_ls S 16 := qs_ls_mem.mpr ⟨j, hj, eS2⟩
                rw [Option.map_some, Option.map_some, qa_num_next]
                intro z3
                -- two of one rank
                have : qa_sec E ≠ qa_sec D := fun z4 => by
                  have key : ∀ n i j, i < j → j < n → ∀ A D, S i = some A → S j = some D → qa_sec A = qa_sec D → ¬ ((qs_ls S n).map qa_sec).Nodup := by
                    intro n
                    induction n with
                    | zero => intro i j _ h; omega
                    | succ n ih =>
                      intro i j hij hj A D hA hD e hn
                      rw [qs_ls_succ, List.map_append] at hn
                      rw [List.nodup_append] at hn
                      by_cases e2 : j = n
                      · subst e2
                        refine hn.2.2 (qa_sec A) (List.mem_map_of_mem (qs_ls_mem.mpr ⟨i, hij, hA⟩)) (qa_sec D) ?_ e
                        rw [hD]
                        exact List.mem_singleton.mpr rfl
                      · exact ih i j hij (by omega) A D hA hD e hn.1
                  rcases Nat.lt_trichotomy i j with q | q | q
                  · exact key 16 i j q hj D E eS eS2 z4.symm hs.1
                  · exact hji q.symm
                  · exact key 16 j i q hi E D eS2 eS z4 hs.1
                obtain ⟨s1, a1, a2, a3⟩ := hs.2 E hEm
                obtain ⟨s2, b1, b2, b3⟩ := hs.2 D hDm
                rcases Nat.lt_trichotomy s1 s2 with q | q | q
                · have := qa_rank_mono (A := D) hEm (by rw [a3, b3]; exact nI_lt q (by omega))
                  omega
                · exact this (by rw [a3, b3, q])
                · have := qa_rank_mono (A := E) hDm (by rw [a3, b3]; exact nI_lt q (by omega))
                  omega
            · have hE2 : (S i).map (qa_num (qs_ls S 16) (r + 1)) = some E := hE
              rw [eS] at hE2
              have hE3 := Option.some.inj hE2
              subst hE3
              have := hA.sec (nI (r + 1))
              have e9 : qa_num (qs_ls S 16) (r + 1) D = ((qa_id (qa_num (qs_ls S 16) r D), nI (r + 1), qa_beg (qa_num (qs_ls S 16) r D), qa_sun (qa_num (qs_ls S 16) r D)), (qa_num (qs_ls S 16) r D).2) := by
                show ((qa_id D, (if qa_below (qs_ls S 16) (qa_sec D) < r + 1 then nI (qa_below (qs_ls S 16) (qa_sec D) + 1) else qa_sec D), qa_beg D, qa_sun D), D.2) = _
                rw [if_pos (by omega), z2]
                rfl
              rw [e9]
              exact this
            · have hE2 : (S i).map (qa_num (qs_ls S 16) (r + 1)) = none := hE
              rw [eS] at hE2
              cases hE2
        · refine qp_iT rfl (ih (r + 1) g Bg (by omega) (by omega) G ?_ EG f)
          have e10 : (fun j => (S j).map (qa_num (qs_ls S 16) (r + 1))) = fun j => if j < 16 then (S j).map (qa_num (qs_ls S 16) r) else (S j).map (qa_num (qs_ls S 16) (r + 1)) := by
            funext j
            by_cases hj : j < 16
            · rw [if_pos hj]
              cases eS : S j with
              | none => rfl
              | some D =>
                have hDm : D ∈ qs_ls S 16 := qs_ls_mem.mpr ⟨j, hj, eS⟩
                rw [Option.map_some, Option.map_some, qa_num_next]
                intro z3
                refine z j (qa_num (qs_ls S 16) r D) hj (by show (S j).map _ = _; rw [eS]; rfl) ?_
                rw [lm, qa_num_below hs r hDm, z3]
            · rw [if_neg hj]
          rw [e10]
          intro j hj
          have := RG j hj
          simp only [if_pos hj]
          exact this
  unfold qw_X1_renumberSections
  refine hL ql_FU 0 h B (Nat.zero_le _) (by unfold ql_FU; omega) H ?_ rfl qp_fr.rf
  have e11 : (fun j => (S j).map (qa_num (qs_ls S 16) 0)) = S := by
    funext j
    cases S j <;> rfl
  rw [e11]
  exact R
theorem qs_floorMod {n d : Nat} (hn : n < 2 ^ 31) (h0 : 0 < d) (hd : d < 2 ^ 31) {Q : Int32 → ql_H → Prop} (k : Q (nI (n % d)) h) : qw_J9_floorMod_7cf53 (nI n) (nI d) h Q := by
  unfold qw_J9_floorMod_7cf53
  refine ⟨nI_ne0 h0 hd, ?_⟩
  rw [pk_rem hn h0 hd]
  refine qp_if (fun _ => k) (fun z => absurd ?_ z)
  have h1 : ∀ n, n < 2 ^ 31 → (nI n).toBitVec.msb = false := fun n hn => by
    rw [BitVec.msb_eq_decide, pk_tn (by omega)]
    exact decide_eq_false (by omega)
  refine Int32.le_iff_toInt_le.mpr ?_
  show (0 : Int) ≤ (nI n ^^^ nI d).toBitVec.toInt
  rw [Int32.toBitVec_xor]
  have h2 : ((nI n).toBitVec ^^^ (nI d).toBitVec).msb = false := by
    rw [BitVec.msb_xor, h1 n hn, h1 d hd]
    rfl
  rw [BitVec.toInt_eq_toNat_of_msb h2]
  exact Int.natCast_nonneg _
theorem qe_X1_placeOfEdition {n : Nat} (hn : n < 2 ^ 31) {Q : Int32 → ql_H → Prop} (k : Q (nI (n % 6)) h) : qw_X1_placeOfEdition (nI n) h Q := by
  unfold qw_X1_placeOfEdition
  exact qs_floorMod (d := 6) hn (by omega) (by omega) k
theorem qe_X1_dayOfEdition (H : qb_at h b B) {n : Nat} (hn : n < 2 ^ 31) {Q : Int32 → ql_H → Prop} (k : Q (B.2.2 (n % 6)) h) : qw_X1_dayOfEdition b (nI n) h Q := by
  unfold qw_X1_dayOfEdition
  rw [qb_r8 H]
  refine qe_X1_placeOfEdition hn ?_
  rw [qb_lE H (Nat.mod_lt _ (by omega))]
  exact k
theorem qe_X1_makeEdition (H : qb_at h b B) (RL : qr_L B L) (hs : qa_secs L.1) {e : Nat} (he : e < 2 ^ 29) (hE : L.2.1 7 = nI e) {Q : Int32 → ql_H → Prop} (k : ∀ h1 B1, qb_at h1 b B1 → qr_L B1 (qa_cons L).2 → qp_fr b (b + 67) h h1 → Q (qa_cons L).1 h1) : qw_X1_makeEdition b h Q := by
  obtain ⟨S, R, P, F⟩ := RL
  have F2 : B.2.1 2 = L.2.1 2 := F.1.2 2 (by omega) (by omega)
  unfold qw_X1_makeEdition
  rw [qb_rv H]
  refine qe_X1_endLapsedClauses H R fun h1 B1 H1 R1 E1 f1 => ?_
  obtain ⟨S1, hS1⟩ : ∃ S1 : Nat → Option qa_C, S1 = fun j => (S j).filter fun A => !qa_laps A (B.2.1 2) := ⟨_, rfl⟩
  rw [← hS1] at R1
  rw [qb_rv H1]
  refine qe_X1_dropCitesOfNoClause H1 R1 fun h2 B2 H2 R2 E2 f2 => ?_
  rw [qb_rv H2]
  have P1 : (qs_ls S1 16).Perm (qa_live L) := by
    rw [hS1, qs_ls_filter, F2]
    exact P.filter _
  have hlive : qa_secs (qa_live L) := ⟨hs.1.sublist (List.filter_sublist.map _), fun A hA => hs.2 A (List.mem_filter.mp hA).1⟩
  have l2' : qs_ls (fun j => (S1 j).map (qa_cut (qs_ls S1 16))) 16 = (qs_ls S1 16).map (qa_cut (qs_ls S1 16)) := qs_ls_map ..
  have hsec2 : (qs_ls (fun j => (S1 j).map (qa_cut (qs_ls S1 16))) 16).map qa_sec = (qs_ls S1 16).map qa_sec := by
    rw [l2', List.map_map]
    rfl
  have hs2 : qa_secs (qs_ls (fun j => (S1 j).map (qa_cut (qs_ls S1 16))) 16) := by
    refine ⟨?_, fun A hA => ?_⟩
    · rw [hsec2]
      exact ((P1.map qa_sec).nodup_iff).mpr hlive.1
    · rw [l2'] at hA
      obtain ⟨D, hD, rfl⟩ := List.mem_map.mp hA
      exact hlive.2 D (P1.mem_iff.mp hD)
  refine qe_X1_renumberSections H2 R2 hs2 fun h3 B3 H3 R3 E3 f3 => ?_
  rw [qb_rv H3]
  refine qe_X1_forgetOldVersions H3 R3 fun h4 B4 H4 R4 E4 f4 => ?_
  have hov : nI ((qs_ls S 16).countP fun A => qa_laps A (B.2.1 2)) = nI (qa_over L) := by
    rw [P.countP_eq, F2]
    rfl
  have E : B4.2 = (upd B.2.1 6 (B.2.1 6 + nI (qa_over L)), B.2.2) := by rw [E4, E3, E2, E1, hov]
  have Ea : B4.2.1 = upd B.2.1 6 (B.2.1 6 + nI (qa_over L)) := congrArg Prod.fst E
  have Eb : B4.2.2 = B.2.2 := by rw [E]
  have e7 : B4.2.1 7 = nI e := by
    rw [Ea, pk_un (by omega), F.1.2 7 (by omega) (by omega), hE]
  rw [qb_f H4 7, e7, nI_1]
  refine qb_p H4 7 fun h5 H5 f5 => ?_
  rw [qb_r8 H5, qb_f H5 7, show (qb_sF B4 7 (nI (e + 1))).2.1 7 = nI (e + 1) from rfl]
  refine qe_X1_placeOfEdition (by omega) ?_
  rw [qb_f H5 2]
  refine qb_wE H5 (Nat.mod_lt _ (by omega)) fun h6 H6 f6 => ?_
  rw [qb_f H6 7, show (qb_sE (qb_sF B4 7 (nI (e + 1))) ((e + 1) % 6) ((qb_sF B4 7 (nI (e + 1))).2.1 2)).2.1 7 = nI (e + 1) from rfl]
  have k2 := k h6 _ H6 ⟨_, R4, ?_, ?_⟩ (f1.tr (f2.tr (f3.tr (f4.tr (f5.tr f6)))))
  · have : (qa_cons L).1 = nI (e + 1) := by
      show L.2.1 7 + 1 = _
      rw [hE, nI_1]
    rw [this] at k2
    exact k2
  · -- the clauses
    rw [qs_ls_map, qs_ls_map, l2', List.map_map, List.map_map]
    show ((qs_ls S1 16).map _).Perm ((qa_live L).map (qa_fresh (qa_live L)))
    have e12 : (qs_ls S1 16).map ((qa_last ∘ qa_num ((qs_ls S1 16).map (qa_cut (qs_ls S1 16))) 16) ∘ qa_cut (qs_ls S1 16)) = (qs_ls S1 16).map (qa_fresh (qa_live L)) := by
      refine List.map_congr_left fun A hA => ?_
      have hb : qa_below ((qs_ls S1 16).map (qa_cut (qs_ls S1 16))) (qa_sec A) = qa_below (qa_live L) (qa_sec A) := by
        rw [qa_below_map (l2 := qs_ls S1 16) (by rw [List.map_map]; rfl)]
        exact P1.countP_eq _
      have hlen : qa_below ((qs_ls S1 16).map (qa_cut (qs_ls S1 16))) (qa_sec A) < 16 := by
        obtain ⟨s, a1, a2, a3⟩ := hlive.2 A (P1.mem_iff.mp hA)
        rw [hb]
        have h1 : qa_below (qa_live L) (qa_sec A) < (qa_live L).length := by
          unfold qa_below
          rw [List.countP_eq_length_filter]
          refine Nat.lt_of_le_of_ne (List.length_filter_le ..) fun z => ?_
          have := List.length_filter_eq_length_iff.mp z A (P1.mem_iff.mp hA)
          exact absurd (of_decide_eq_true this) Int32.lt_irrefl
        have h2 := qs_ls_le S1 16
        rw [P1.length_eq] at h2
        omega
      have hhas : (fun y => qa_has (qs_ls S1 16) y) = fun y => qa_has (qa_live L) y := by
        funext y
        cases e1 : qa_has (qa_live L) y with
        | true =>
          obtain ⟨D, hD, e2⟩ := qa_has_iff.mp e1
          exact qa_has_iff.mpr ⟨D, P1.mem_iff.mpr hD, e2⟩
        | false =>
          cases e3 : qa_has (qs_ls S1 16) y with
          | false => rfl
          | true =>
            obtain ⟨D, hD, e2⟩ := qa_has_iff.mp e3
            rw [qa_has_iff.mpr ⟨D, P1.mem_iff.mp hD, e2⟩] at e1
            cases e1
      show ((qa_id A, (if qa_below ((qs_ls S1 16).map (qa_cut (qs_ls S1 16))) (qa_sec A) < 16 then nI (qa_below ((qs_ls S1 16).map (qa_cut (qs_ls S1 16))) (qa_sec A) + 1) else qa_sec A), qa_beg A, qa_sun A), (qa_vs A).getLast?.toList, (qa_ci A).filter fun y => qa_has (qs_ls S1 16) y) = qa_fresh (qa_live L) A
      rw [if_pos hlen, hb, hhas]
      rfl
    have e13 := e12 ▸ (P1.map (qa_fresh (qa_live L)))
    exact e13
  · -- the numbers
    refine ⟨⟨?_, fun m h1 h2 => ?_⟩, fun e2 he2 hh t h1 h2 h3 => ?_⟩
    · show upd B4.2.1 7 (nI (e + 1)) 1 = upd (upd L.2.1 6 (L.2.1 6 + nI (qa_over L))) 7 (L.2.1 7 + 1) 3
      rw [pk_un (by omega), pk_un (by omega), pk_un (by omega), Ea, pk_un (by omega)]
      exact F.1.1
    · show upd B4.2.1 7 (nI (e + 1)) m = upd (upd L.2.1 6 (L.2.1 6 + nI (qa_over L))) 7 (L.2.1 7 + 1) m
      by_cases e3 : m = 7
      · rw [e3, pk_us, pk_us, hE, nI_1]
      · rw [pk_un e3, pk_un e3, Ea]
        by_cases e4 : m = 6
        · rw [e4, pk_us, pk_us, F.1.2 6 (by omega) (by omega)]
        · rw [pk_un e4, pk_un e4]
          exact F.1.2 m h1 h2
    · have hh2 : upd (upd L.2.1 6 (L.2.1 6 + nI (qa_over L))) 7 (L.2.1 7 + 1) 7 = nI e2 := hh
      rw [pk_us, hE, nI_1] at hh2
      have e5 := (nI_eq (by omega) (by omega)).mp hh2
      subst e5
      show upd B4.2.2 ((e + 1) % 6) (upd B4.2.1 7 (nI (e + 1)) 2) (t % 6) = upd L.2.2 ((L.2.1 7).toNatClampNeg + 1) (L.2.1 2) t
      rw [hE, nI_clamp (by omega)]
      by_cases e6 : t = e + 1
      · rw [e6, pk_us, pk_us, pk_un (by omega), Ea, pk_un (by omega), F2]
      · rw [pk_un (by omega), pk_un e6, Eb]
        exact F.2 e (by omega) hE t h1 (by omega) (by omega)
end QE2
