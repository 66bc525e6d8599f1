/-! What the class answers when asked: places by sections and by cites, pairs, broken cites, who reaches whom, soundness. -/
section QCB
variable {σ : Nat → Nat} {h h1 g : ql_H} {b c N : Nat} {S : qa_S} {T : Option qa_L} {L : qa_L} {C : qc_T} {A : qa_C} {B : qb_T} {Sl : Nat → Option qa_C} {nm : Nat → String} {a : Nat × Int32} {Q : Int32 → ql_H → Prop} {X : String → ql_H → Prop}
theorem qa_below_perm {l l2 : List qa_C} (P : l.Perm l2) (s : Int32) : qa_below l s = qa_below l2 s := P.countP_eq _
theorem qs_mem (P : (qs_ls Sl 16).Perm L.1) {i : Nat} (hi : i < 16) (e : Sl i = some A) : A ∈ L.1 := P.mem_iff.mp (qs_ls_mem.mpr ⟨i, hi, e⟩)
theorem qa_below_inj {l : List qa_C} (h : (l.map qa_sec).Nodup) {D : qa_C} (hA : A ∈ l) (hD : D ∈ l) (e : qa_below l (qa_sec D) = qa_below l (qa_sec A)) : D = A := by
  rcases Int.lt_trichotomy (qa_sec D).toInt (qa_sec A).toInt with z | z | z
  · have := qa_rank_mono hD (Int32.lt_iff_toInt_lt.mpr z)
    omega
  · exact qa_nd_inj h hD hA (Int32.toInt_inj.mp z)
  · have := qa_rank_mono hA (Int32.lt_iff_toInt_lt.mpr z)
    omega
theorem qa_below_le (l : List qa_C) (s : Int32) : qa_below l s ≤ l.length := List.countP_le_length
theorem qe_X11_clauseAt (H : qx_at σ h b S none) (w : qa_w S.1 N) {p : Int32} (k : qx_pq σ b S h qx_n1 (qq_clauseAt S.1 p) Q X) : qw_X11_clauseAt b p h Q X := by
  have l16 := H.2.1.1.l16
  obtain ⟨B, G, Sl, RS, P, F⟩ := id H.2.1.1
  unfold qw_X11_clauseAt
  rw [qx_r0 H, qb_rv G]
  refine qe_X1_clauseAtRank G RS (fun i A hi e er => ?_) fun e => ?_
  · unfold qw_X11_existing
    have hA := qs_mem P hi e
    rw [qa_below_perm P] at er
    refine qp_iF qp_N ?_
    dsimp only
    rw [qc_f (G.2.2.2 i hi) 1, ((RS i hi).1 A e).1.2.1]
    refine k.ok H qx_fr.rf (qa_ans_s (qa_find_u hA (by rw [er]; exact beq_self_eq_true _) fun D hD eD => ?_))
    have eD := eq_of_beq eD
    rw [← er] at eD
    have b1 := qa_below_le S.1.1 (qa_sec D)
    have b2 := qa_below_le S.1.1 (qa_sec A)
    exact qa_below_inj w.1.2.1.1 hA hD ((nI_eq (by omega) (by omega)).mp eD)
  · unfold qw_X11_existing
    refine qp_iT rfl (k.no H qx_fr.rf (qa_ans_n (qa_find_z fun D hD => ?_)) rfl)
    obtain ⟨i, hi, ei⟩ := qs_ls_mem.mp (P.mem_iff.mpr hD)
    have := e i D hi ei
    rw [qa_below_perm P] at this
    exact beq_eq_false_iff_ne.mpr this
theorem qe_X11_clauseOfSection (H : qx_at σ h b S none) (w : qa_w S.1 N) {s : Int32} (k : qx_pq σ b S h qx_n1 (qq_ofSection S.1 s) Q X) : qw_X11_clauseOfSection b s h Q X := by
  obtain ⟨B, G, Sl, RS, P, F⟩ := id H.2.1.1
  unfold qw_X11_clauseOfSection
  rw [qx_r0 H, qb_rv G]
  refine qe_X1_clauseWithSection G RS (fun i A hi e er => ?_) fun e => ?_
  · unfold qw_X11_existing
    have hA := qs_mem P hi e
    refine qp_iF qp_N ?_
    dsimp only
    rw [qc_f (G.2.2.2 i hi) 1, ((RS i hi).1 A e).1.2.1]
    refine k.ok H qx_fr.rf (qa_ans_s (qa_find_u hA (by rw [er]; exact beq_self_eq_true _) fun D hD eD => ?_))
    exact qa_nd_inj w.1.2.1.1 hD hA ((eq_of_beq eD).trans er.symm)
  · unfold qw_X11_existing
    refine qp_iT rfl (k.no H qx_fr.rf (qa_ans_n (qa_find_z fun D hD => ?_)) rfl)
    obtain ⟨i, hi, ei⟩ := qs_ls_mem.mp (P.mem_iff.mpr hD)
    exact beq_eq_false_iff_ne.mpr (e i D hi ei)
/-! pairs -/
theorem qa_pairs_perm {l l2 : List (List Nat)} (P : l.Perm l2) : qa_pairs l = qa_pairs l2 := by
  induction P with
  | nil => rfl
  | cons x p ih =>
    show List.countP _ _ + qa_pairs _ = List.countP _ _ + qa_pairs _
    rw [ih, p.countP_eq]
  | swap x y l =>
    show List.countP (fun s => s == y) (x :: l) + (List.countP (fun s => s == x) l + qa_pairs l) = List.countP (fun s => s == x) (y :: l) + (List.countP (fun s => s == y) l + qa_pairs l)
    rw [List.countP_cons, List.countP_cons]
    have e : (x == y) = (y == x) := Bool.beq_comm
    rw [e]
    omega
  | trans _ _ ih1 ih2 => exact ih1.trans ih2
theorem qe_X11_duplicatePairs (H : qx_at σ h b S T) (k : ∀ h1, qx_at σ h1 b S T → qx_fr b h h1 → Q (nI (qa_pairs (S.1.1.map qa_txt))) h1) : qw_X11_duplicatePairs b h Q := by
  obtain ⟨B, G, Sl, RS, P, F⟩ := id H.2.1.1
  obtain ⟨c0, x0, D⟩ := H.2.2.2.1.2.1
  unfold qw_X11_duplicatePairs
  rw [qx_r9 H, qp_rv D.1]
  refine qe_X10_clear D fun ha c1 D1 hz f1 => ?_
  have ax := H.2.2.2.1.cnt D1 f1
  have kp : ∀ g, qp_fr (b + 758) (b + 780) h g → qb_at g (b + 1) B := fun g f => G.kept fun q h1 h2 => f.2 q (by omega)
  have l16 := H.2.1.1.l16
  rw [qx_r0 (H.aux ax.2 ax.1), qb_r0 (kp ha ax.2), qb_ln (kp ha ax.2)]
  have hL : ∀ d i fu g c1 x1 ts, i + d = 16 → d < fu → qh_at g (b + 773) c1 x1 → qh_ok c1 x1 ts → ts.length ≤ i → (∀ T t, qt_is T t → qh_ct ts T = ((qs_ls Sl i).map qa_txt).countP fun s => s == t) → qp_fr (b + 758) (b + 780) h g → qx_aux g b → qw_X11_duplicatePairs_23 b Q fu (nI (qa_pairs ((qs_ls Sl i).map qa_txt))) (some (b + 1 + 1)) (nI 16) (nI i) g := by
    intro d
    induction d with
    | zero =>
      intro i fu g c1 x1 ts hi hf D ok hl hc f K
      obtain ⟨fu, rfl⟩ : ∃ z, fu = z + 1 := ⟨fu - 1, by omega⟩
      unfold qw_X11_duplicatePairs_23
      refine qp_iT (nI_le (by omega) (by omega)) ?_
      have e16 : i = 16 := by omega
      subst e16
      rw [qa_pairs_perm (P.map qa_txt)]
      exact k g (H.aux f K) (f.x (by omega))
    | succ d ih =>
      intro i fu g c1 x1 ts hi hf D ok hl hc f K
      obtain ⟨fu, rfl⟩ : ∃ z, fu = z + 1 := ⟨fu - 1, by omega⟩
      have hi16 : i < 16 := by omega
      have Gg := kp g f
      have hC := Gg.2.2.2 i hi16
      unfold qw_X11_duplicatePairs_23 qw_X11_duplicatePairs_58
      refine qp_iF (nI_ge hi16 (by omega)) ?_
      rw [qb_lC Gg hi16, qc_f hC 0, nI_1]
      cases eS : Sl i with
      | none =>
        have hn := ih (i + 1) fu g c1 x1 ts (by omega) (by omega) D ok (by omega)
        rw [qs_ls_none eS] at hn
        exact qp_iT ((RS i hi16).2 eS) (hn hc f K)
      | some A =>
        have hA := (RS i hi16).1 A eS
        refine qp_iF (by rw [hA.1.1]; exact qp_1) ?_
        rw [qx_r9 (H.aux f K), qc_rv hC]
        refine qe_X3_txt hC hA fun T I => ?_
        rw [qp_rv D.1]
        refine qe_X10_countBeforeAdding D ok (by omega) fun g1 c2 x2 D2 ok2 f2 => ?_
        have ax2 := K.cnt D2 f2
        have hn := ih (i + 1) fu g1 c2 x2 (ts ++ [T]) (by omega) (by omega) D2 ok2 (by rw [List.length_append]; show ts.length + 1 ≤ i + 1; omega)
        rw [qs_ls_some eS, List.map_append] at hn
        have hn := hn (fun T2 t2 I2 => ?_) (f.tr ax2.2) ax2.1
        · rw [show [A].map qa_txt = [qa_txt A] from rfl, qa_pairs_app, ← hc T (qa_txt A) I] at hn
          rw [nI_add]
          exact hn
        · rw [qh_ct_app, hc T2 t2 I2, List.countP_append]
          show _ = _ + [qa_txt A].countP (fun s => s == t2)
          rw [List.countP_singleton]
          congr 1
          by_cases e : T = T2
          · rw [if_pos e, if_pos (by rw [(qt_eq I I2).mp e]; exact beq_self_eq_true _)]
          · rw [if_neg e, if_neg (fun q => e ((qt_eq I I2).mpr (eq_of_beq q)))]
  exact hL 16 0 ql_FU ha c1 x0 [] (Nat.zero_add _) (by unfold ql_FU; omega) D1 (qh_ok0 hz) (Nat.le_refl _) (fun _ _ _ => rfl) ax.2 ax.1
/-- by comparing all: earlier ids with later ones -/
def qa_cmp (l : List qa_C) (A : qa_C) : Nat := l.countP fun D => decide (qa_id A < qa_id D) && (qa_txt A == qa_txt D)
theorem qa_cmp_sum : ∀ (l : List qa_C), (l.map qa_id).Pairwise (· < ·) → (l.map (qa_cmp l)).sum = qa_pairs (l.map qa_txt)
  | [], _ => rfl
  | A :: l, h => by
    have h : (∀ y ∈ l.map qa_id, qa_id A < y) ∧ (l.map qa_id).Pairwise (· < ·) := List.pairwise_cons.mp h
    have ih := qa_cmp_sum l h.2
    have e1 : qa_cmp (A :: l) A = (l.map qa_txt).countP fun s => s == qa_txt A := by
      unfold qa_cmp
      rw [List.countP_cons, if_neg (by rw [decide_eq_false Int32.lt_irrefl, Bool.false_and]; decide), List.countP_map]
      refine List.countP_congr fun D hD => ?_
      rw [decide_eq_true (h.1 _ (List.mem_map_of_mem hD)), Bool.true_and]
      show (qa_txt A == qa_txt D) = true ↔ (qa_txt D == qa_txt A) = true
      rw [Bool.beq_comm]
    have e2 : l.map (qa_cmp (A :: l)) = l.map (qa_cmp l) := List.map_congr_left fun D hD => by
      unfold qa_cmp
      rw [List.countP_cons, if_neg]
      · rfl
      · rw [decide_eq_false (fun q => Int32.lt_irrefl (Int32.lt_trans q (h.1 _ (List.mem_map_of_mem hD)))), Bool.false_and]
        decide
    show qa_cmp (A :: l) A + (l.map (qa_cmp (A :: l))).sum = List.countP _ _ + qa_pairs (l.map qa_txt)
    rw [e1, e2, ih]
theorem qa_cmp_perm {l l2 : List qa_C} (P : l.Perm l2) : (l.map (qa_cmp l)).sum = (l2.map (qa_cmp l2)).sum := by
  have e : qa_cmp l = qa_cmp l2 := by
    funext A
    exact P.countP_eq _
  rw [e]
  exact (P.map _).sum_nat
theorem qe_X11_duplicatePairsByComparing (H : qx_at σ h b S T) (w : qa_w S.1 N) (k : Q (nI (qa_pairs (S.1.1.map qa_txt))) h) : qw_X11_duplicatePairsByComparing b h Q := by
  obtain ⟨B, G, Sl, RS, P, F⟩ := id H.2.1.1
  have hl := qs_ls_le Sl 16
  have k : Q (nI ((qs_ls Sl 16).map (qa_cmp (qs_ls Sl 16))).sum) h := by
    rw [qa_cmp_perm P, qa_cmp_sum _ w.1.1]
    exact k
  have hI : ∀ (i : Nat) (hi : i < 16) (x0 : Nat) (K0 : Int32 → Option Nat → Int32 → Int32 → ql_H → Prop) (f : qa_C → Nat) (d j fu : Nat), j + d = 16 → d < fu → (∀ A, Sl i = some A → f A = (qs_ls Sl j).countP fun D => decide (qa_id A < qa_id D) && (qa_txt A == qa_txt D)) → K0 (nI (x0 + ((Sl i).toList.map (qa_cmp (qs_ls Sl 16))).sum)) (some (b + 1 + 1)) (nI 16) (nI i + 1) h → qw_X11_duplicatePairsByComparing_45 b Q K0 fu (nI (x0 + ((Sl i).toList.map f).sum)) (some (b + 1 + 1)) (nI 16) (nI i) (some (b + 1 + 3 + 4 * i)) (some (b + 1 + 1)) (nI 16) (nI j) h := by
    intro i hi x0 K0 f d
    have hC := G.2.2.2 i hi
    induction d generalizing f with
    | zero =>
      intro j fu hj hf hfA hk
      obtain ⟨fu, rfl⟩ : ∃ z, fu = z + 1 := ⟨fu - 1, by omega⟩
      unfold qw_X11_duplicatePairsByComparing_45
      refine qp_iT (nI_le (by omega) (by omega)) ?_
      have e16 : j = 16 := by omega
      subst e16
      cases eS : Sl i with
      | none =>
        rw [eS] at hk
        exact hk
      | some A =>
        rw [eS] at hk
        have : f A = qa_cmp (qs_ls Sl 16) A := hfA A eS
        show K0 (nI (x0 + (f A + 0))) _ _ _ _
        rw [this]
        exact hk
    | succ d ih =>
      intro j fu hj hf hfA hk
      obtain ⟨fu, rfl⟩ : ∃ z, fu = z + 1 := ⟨fu - 1, by omega⟩
      have hj16 : j < 16 := by omega
      have hD := G.2.2.2 j hj16
      unfold qw_X11_duplicatePairsByComparing_45 qw_X11_duplicatePairsByComparing_105
      refine qp_iF (nI_ge hj16 (by omega)) ?_
      rw [qb_lC G hj16, qc_f hC 0, nI_1]
      cases eS : Sl i with
      | none =>
        have := ih f (j + 1) fu (by omega) (by omega) (fun A e => by rw [eS] at e; cases e) hk
        rw [eS] at this
        exact qp_iT ((RS i hi).2 eS) this
      | some A =>
        have hA := (RS i hi).1 A eS
        refine qp_iF (by rw [hA.1.1]; exact qp_1) ?_
        rw [qc_f hD 0]
        have hf0 := hfA A eS
        have go : ∀ y, (y = (qs_ls Sl (j + 1)).countP fun D => decide (qa_id A < qa_id D) && (qa_txt A == qa_txt D)) → qw_X11_duplicatePairsByComparing_45 b Q K0 fu (nI (x0 + y)) (some (b + 1 + 1)) (nI 16) (nI i) (some (b + 1 + 3 + 4 * i)) (some (b + 1 + 1)) (nI 16) (nI (j + 1)) h := fun y hy => by
          have := ih (fun _ => y) (j + 1) fu (by omega) (by omega) (fun A2 e2 => by rw [eS] at e2; cases e2; exact hy) hk
          rw [eS] at this
          exact this
        have es : x0 + (([A] : List qa_C).map f).sum = x0 + f A := rfl
        show (if (B.1 j).1 0 = 0 then qw_X11_duplicatePairsByComparing_45 b Q K0 fu (nI (x0 + f A)) (some (b + 1 + 1)) (nI 16) (nI i) (some (b + 1 + 3 + 4 * i)) (some (b + 1 + 1)) (nI 16) (nI (j + 1)) h else _)
        cases eT : Sl j with
        | none =>
          refine qp_iT ((RS j hj16).2 eT) (go _ ?_)
          rw [qs_ls_none eT]
          exact hf0
        | some D =>
          have hDr := (RS j hj16).1 D eT
          refine qp_iF (by rw [hDr.1.1]; exact qp_1) ?_
          rw [qc_f hC 1, qc_f hD 1, hA.1.2.1, hDr.1.2.1]
          have e1 : (qs_ls Sl (j + 1)).countP (fun D => decide (qa_id A < qa_id D) && (qa_txt A == qa_txt D)) = f A + if (decide (qa_id A < qa_id D) && (qa_txt A == qa_txt D)) = true then 1 else 0 := by
            rw [qs_ls_some eT, List.countP_append, List.countP_singleton, hf0]
          refine qp_if (fun z => go _ ?_) fun z => ?_
          · rw [e1, decide_eq_false (Int32.not_lt.mpr z), Bool.false_and]
            rfl
          · rw [qc_rv hC]
            refine qe_X3_txt hC hA fun T1 I1 => ?_
            rw [qc_rv hD]
            refine qe_X3_txt hD hDr fun T2 I2 => ?_
            rw [decide_eq_true (Int32.not_le.mp z), Bool.true_and] at e1
            refine qp_if (fun y => ?_) fun y => go _ ?_
            · have y := (qt_eq I1 I2).mp ((lg_cmp_eq _ _).mp y)
              rw [if_pos (by rw [y]; exact beq_self_eq_true _)] at e1
              have := go _ e1.symm
              have e9 : (nI (x0 + f A)) + (1 : Int32) = nI (x0 + (f A + 1)) := nI_1 _
              rw [← e9] at this
              exact this
            · rw [if_neg (fun q => y ((lg_cmp_eq _ _).mpr ((qt_eq I1 I2).mpr (eq_of_beq q))))] at e1
              exact e1.symm
  have hO : ∀ d i fu, i + d = 16 → d < fu → qw_X11_duplicatePairsByComparing_16 b Q fu (nI ((qs_ls Sl i).map (qa_cmp (qs_ls Sl 16))).sum) (some (b + 1 + 1)) (nI 16) (nI i) h := by
    intro d
    induction d with
    | zero =>
      intro i fu hi hf
      obtain ⟨fu, rfl⟩ : ∃ z, fu = z + 1 := ⟨fu - 1, by omega⟩
      unfold qw_X11_duplicatePairsByComparing_16
      have e16 : i = 16 := by omega
      subst e16
      exact qp_iT (nI_le (by omega) (by omega)) k
    | succ d ih =>
      intro i fu hi hf
      obtain ⟨fu, rfl⟩ : ∃ z, fu = z + 1 := ⟨fu - 1, by omega⟩
      have hi16 : i < 16 := by omega
      unfold qw_X11_duplicatePairsByComparing_16
      refine qp_iF (nI_ge hi16 (by omega)) ?_
      rw [qb_lC G hi16, qx_r0 H, qb_r0 G, qb_ln G]
      have hn := ih (i + 1) fu (by omega) (by omega)
      rw [show qs_ls Sl (i + 1) = qs_ls Sl i ++ (Sl i).toList from qs_ls_succ _ _, List.map_append, List.sum_append_nat] at hn
      have := hI i hi16 ((qs_ls Sl i).map (qa_cmp (qs_ls Sl 16))).sum (qw_X11_duplicatePairsByComparing_16 b Q fu) (fun _ => 0) 16 0 ql_FU (Nat.zero_add _) (by unfold ql_FU; omega) (fun _ _ => rfl) (by rw [nI_1]; exact hn)
      have e0 : ((Sl i).toList.map fun _ => 0).sum = 0 := by cases Sl i <;> rfl
      rw [e0] at this
      exact this
  unfold qw_X11_duplicatePairsByComparing
  rw [qx_r0 H, qb_r0 G, qb_ln G]
  exact hO 16 0 ql_FU (Nat.zero_add _) (by unfold ql_FU; omega)
/-! broken cites -/
theorem qa_broken_perm {l l2 : List qa_C} (P : l.Perm l2) (f : Int32 → Bool) : (l.map fun C => (qa_ci C).countP f).sum = (l2.map fun C => (qa_ci C).countP f).sum := (P.map _).sum_nat
theorem qe_X1_countBrokenCites (G : qb_at h b B) (RL : qr_L B L) (hd : (L.1.map qa_id).Pairwise (· < ·)) {Q : Int32 → ql_H → Prop} (k : Q (nI (qa_broken L)) h) : qw_X1_countBrokenCites b h Q := by
  obtain ⟨Sl, RS, P, F⟩ := RL
  have k : Q (nI ((qs_ls Sl 16).map fun C => (qa_ci C).countP (qa_br L)).sum) h := by
    rw [qa_broken_perm P, ← qa_brokenE]
    exact k
  have hI : ∀ (i : Nat) (hi : i < 16) (A : qa_C) (eS : Sl i = some A) (K0 : Int32 → Option Nat → Int32 → Int32 → ql_H → Prop) (x0 d j fu : Nat), j + d = (qa_ci A).length → d < fu → K0 (nI (x0 + (qa_ci A).countP (qa_br L))) (some (b + 1)) (nI 16) (nI i + 1) h → qw_X1_countBrokenCites_47 b Q K0 fu (nI (x0 + ((qa_ci A).take j).countP (qa_br L))) (some (b + 1)) (nI 16) (nI i) (some (b + 3 + 4 * i)) (nI (qa_ci A).length) (nI j) h := by
    intro i hi A eS K0 x0 d
    have hC := G.2.2.2 i hi
    have hA := (RS i hi).1 A eS
    have c4 := hA.2.2.2.2.1
    induction d with
    | zero =>
      intro j fu hj hf hk
      obtain ⟨fu, rfl⟩ : ∃ z, fu = z + 1 := ⟨fu - 1, by omega⟩
      unfold qw_X1_countBrokenCites_47
      refine qp_iT (nI_le (by omega) (by omega)) ?_
      rw [List.take_of_length_le (by omega)]
      exact hk
    | succ d ih =>
      intro j fu hj hf hk
      obtain ⟨fu, rfl⟩ : ∃ z, fu = z + 1 := ⟨fu - 1, by omega⟩
      have hj2 : j < (qa_ci A).length := by omega
      unfold qw_X1_countBrokenCites_47 qw_X1_countBrokenCites_84 qw_X1_countBrokenCites_87
      refine qp_iF (nI_ge hj2 (by omega)) ?_
      rw [qc_rv hC]
      refine qe_X3_citeAtPlace hC (by omega) ?_
      rw [hA.2.2.1.1 j hj2, qb_rv G, nI_1 j]
      have hn := ih (j + 1) fu (by omega) (by omega) hk
      rw [List.take_succ_eq_append_getElem hj2, List.countP_append, List.countP_singleton] at hn
      have yes : qa_br L (qa_ci A)[j] = true → qw_X1_countBrokenCites_47 b Q K0 fu (nI (x0 + ((qa_ci A).take j).countP (qa_br L)) + 1) (some (b + 1)) (nI 16) (nI i) (some (b + 3 + 4 * i)) (nI (qa_ci A).length) (nI (j + 1)) h := fun z => by
        rw [z, if_pos rfl] at hn
        rw [nI_1]
        exact hn
      have no : qa_br L (qa_ci A)[j] = false → qw_X1_countBrokenCites_47 b Q K0 fu (nI (x0 + ((qa_ci A).take j).countP (qa_br L))) (some (b + 1)) (nI 16) (nI i) (some (b + 3 + 4 * i)) (nI (qa_ci A).length) (nI (j + 1)) h := fun z => by
        rw [z, if_neg (by decide)] at hn
        exact hn
      refine qe_X1_clauseWithId G RS (fun i2 D hi2 eD ei => ?_) fun e => ?_
      · have hf := qs_find P hd hi2 eD
        rw [ei] at hf
        have eb : qa_br L (qa_ci A)[j] = !qa_hold D (L.2.1 2) := by
          unfold qa_br
          rw [hf]
        refine qp_iF qp_N ?_
        rw [qb_f G 2, F.1.2 2 (by omega) (by omega), qc_rv (G.2.2.2 i2 hi2)]
        refine qe_X3_holdsOn (G.2.2.2 i2 hi2) ?_
        rw [((RS i2 hi2).1 D eD).hold]
        cases z : qa_hold D (L.2.1 2) with
        | true => exact qp_iF qp_1 (no (by rw [eb, z]; rfl))
        | false => exact qp_iT rfl (yes (by rw [eb, z]; rfl))
      · refine qp_iT rfl (yes ?_)
        unfold qa_br
        rw [qs_findN P e]
  have hO : ∀ d i fu, i + d = 16 → d < fu → qw_X1_countBrokenCites_13 b Q fu (nI ((qs_ls Sl i).map fun C => (qa_ci C).countP (qa_br L)).sum) (some (b + 1)) (nI 16) (nI i) h := by
    intro d
    induction d with
    | zero =>
      intro i fu hi hf
      obtain ⟨fu, rfl⟩ : ∃ z, fu = z + 1 := ⟨fu - 1, by omega⟩
      unfold qw_X1_countBrokenCites_13
      have e16 : i = 16 := by omega
      subst e16
      exact qp_iT (nI_le (by omega) (by omega)) k
    | succ d ih =>
      intro i fu hi hf
      obtain ⟨fu, rfl⟩ : ∃ z, fu = z + 1 := ⟨fu - 1, by omega⟩
      have hi16 : i < 16 := by omega
      have hC := G.2.2.2 i hi16
      unfold qw_X1_countBrokenCites_13 qw_X1_countBrokenCites_42
      refine qp_iF (nI_ge hi16 (by omega)) ?_
      rw [qb_lC G hi16, qc_f hC 0]
      have hn := ih (i + 1) fu (by omega) (by omega)
      cases eS : Sl i with
      | none =>
        rw [qs_ls_none eS] at hn
        refine qp_iT ((RS i hi16).2 eS) ?_
        unfold qw_X1_countBrokenCites_47
        rw [show ql_FU = 999999 + 1 from rfl]
        refine qp_iT (by decide) ?_
        rw [nI_1]
        exact hn
      | some A =>
        have hA := (RS i hi16).1 A eS
        rw [qs_ls_some eS, List.map_append, List.sum_append_nat] at hn
        refine qp_iF (by rw [hA.1.1]; exact qp_1) ?_
        rw [qc_rv hC]
        refine qe_X3_countCites hC hA.ok ?_
        have := hI i hi16 A eS (qw_X1_countBrokenCites_13 b Q fu) ((qs_ls Sl i).map fun C => (qa_ci C).countP (qa_br L)).sum (qa_ci A).length 0 ql_FU (Nat.zero_add _) (by have := hA.2.2.2.2.1; unfold ql_FU; omega) (by rw [nI_1]; exact hn)
        rw [List.take_zero] at this
        exact this
  unfold qw_X1_countBrokenCites
  rw [qb_r0 G, qb_ln G]
  exact hO 16 0 ql_FU (Nat.zero_add _) (by unfold ql_FU; omega)
theorem qe_X11_brokenCites (H : qx_at σ h b S none) (w : qa_w S.1 N) (k : ∀ h1, qx_at σ h1 b S none → qx_fr b h h1 → Q (nI (qa_broken S.1)) h1) : qw_X11_brokenCites b h Q := by
  obtain ⟨B, G, R⟩ := id H.2.1.1
  unfold qw_X11_brokenCites
  rw [qx_r0 H, qb_rv G]
  exact qe_X1_countBrokenCites G R w.1.1 (k h H qx_fr.rf)
/-! who reaches whom -/
theorem qg_reach (P : (qs_ls Sl 16).Perm L.1) (hd : (L.1.map qa_id).Pairwise (· < ·)) {i j : Nat} {A D : qa_C} (hi : i < 16) (hj : j < 16) (eA : Sl i = some A) (eD : Sl j = some D) : qg_R (qg_E Sl) i j ↔ qa_reach L.1 (qa_id A) (qa_id D) := by
  constructor
  · intro h S h1 h2
    have := h (fun t => ∃ E, Sl t = some E ∧ t < 16 ∧ S (qa_id E)) (fun t ht => ?_) (fun a t ha ht => ?_)
    · obtain ⟨E, e1, _, e2⟩ := this
      rw [eD] at e1
      cases e1
      exact e2
    · obtain ⟨q1, A2, D2, q2, q3, q4⟩ := ht
      rw [eA] at q2
      cases q2
      exact ⟨D2, q3, q1, h1 _ ⟨A, qs_find P hd hi eA, q4, qa_has_iff.mpr ⟨D2, qs_mem P q1 q3, rfl⟩⟩⟩
    · obtain ⟨q1, A2, D2, q2, q3, q4⟩ := ht
      obtain ⟨E, e1, e2, e3⟩ := ha
      rw [q2] at e1
      cases e1
      exact ⟨D2, q3, q1, h2 _ _ e3 ⟨A2, qs_find P hd e2 q2, q4, qa_has_iff.mpr ⟨D2, qs_mem P q1 q3, rfl⟩⟩⟩
  · intro h Pr h1 h2
    have sl : ∀ x, qa_has L.1 x = true → ∃ t E, t < 16 ∧ Sl t = some E ∧ qa_id E = x := fun x hx => by
      obtain ⟨E, hE, e⟩ := qa_has_iff.mp hx
      obtain ⟨t, ht, et⟩ := qs_ls_mem.mp (P.mem_iff.mpr hE)
      exact ⟨t, E, ht, et, e⟩
    have := h (fun y => ∃ t E, t < 16 ∧ Sl t = some E ∧ qa_id E = y ∧ Pr t) (fun z hz => ?_) (fun w z hw hz => ?_)
    · obtain ⟨t, E, ht, et, e, hP⟩ := this
      have : t = j := qs_uniq P hd ht hj et eD e
      exact this ▸ hP
    · obtain ⟨C, c1, c2, c3⟩ := hz
      rw [qs_find P hd hi eA] at c1
      cases c1
      obtain ⟨t, E, ht, et, e⟩ := sl z c3
      exact ⟨t, E, ht, et, e, h1 t ⟨ht, A, E, eA, et, e ▸ c2⟩⟩
    · obtain ⟨C, c1, c2, c3⟩ := hz
      obtain ⟨a, E, ha, ea, e, hP⟩ := hw
      rw [← e, qs_find P hd ha ea] at c1
      cases c1
      obtain ⟨t, E2, ht, et, e2⟩ := sl z c3
      exact ⟨t, E2, ht, et, e2, h2 a t hP ⟨ht, _, E2, ea, et, e2 ▸ c2⟩⟩
theorem qg_u (P : (qs_ls Sl 16).Perm L.1) (hd : (L.1.map qa_id).Pairwise (· < ·)) : qg_U Sl := fun i j A D hi hj hA hD e => qs_uniq P hd hi hj hA hD e
theorem qx_cg (H : qx_at σ h b S T) : ∃ d c q, qg_at h (b + 776) d c q := H.2.2.2.1.2.2
theorem qg_E16 : ∀ i j, qg_E Sl i j → j < 16 := fun _ _ h => h.1
theorem qe_X11_slotOf (H : qx_at σ h b S T) (G : qb_at h (b + 1) B) (RS : qr_S B Sl) (P : (qs_ls Sl 16).Perm S.1.1) (hd : (S.1.1.map qa_id).Pairwise (· < ·)) {x : Int32} (k : ∀ i A, i < 16 → Sl i = some A → qa_id A = x → Q (nI i) h) (k0 : ¬ qa_has S.1.1 x = true → ∀ n9, h.1 ≤ n9 → X "java/util/NoSuchElementException" (n9, h.2)) : qw_X11_slotOf b x h Q X := by
  unfold qw_X11_slotOf
  rw [qx_r0 H, qb_rv G]
  refine qe_X1_slotWithId G RS (fun i A hi e ei => qp_iF (qp_nI_m1 (by omega)) (k i A hi e ei)) fun e => qp_iT rfl (k0 (qa_has_none (qs_findN P e)))
theorem qe_X11_citesIndirectly (H : qx_at σ h b S none) (w : qa_w S.1 N) {x y : Int32} (k : qx_pq σ b S h qx_n1 (qq_reach S.1 x y) Q X) : qw_X11_citesIndirectly b x y h Q X := by
  obtain ⟨B, G, Sl, RS, P, F⟩ := id H.2.1.1
  unfold qw_X11_citesIndirectly
  rw [qx_rv H]
  refine qe_X11_slotOf H G RS P w.1.1 (fun i A hi eA ex => ?_) fun e => k.no H qx_fr.rf (if_neg fun q => e q.1) rfl
  rw [qx_rv H]
  refine qe_X11_slotOf H G RS P w.1.1 (fun j D hj eD ey => ?_) fun e => k.no H qx_fr.rf (if_neg fun q => e q.2) rfl
  obtain ⟨d0, c0, q0, K⟩ := qx_cg H
  rw [qx_r10 H, qx_r0 H, qp_rv K.1]
  refine qe_X2_read G RS (qg_u P w.1.1) K (by omega) fun g1 d1 K1 f1 hE => ?_
  have ax := H.2.2.2.1.gr K1 f1
  have H1 := H.aux ax.2 ax.1
  rw [qx_r10 H1, qp_rv K1.1]
  refine qe_X2_slotsFoundFrom K1 hE qg_E16 hi fun Fd g2 q1 K2 f2 hF => ?_
  have ax2 := H1.2.2.2.1.gr K2 f2
  have H2 := H1.aux ax2.2 ax2.1
  refine qe_X2_hasSlot _ (by omega) ⟨qp_bz _, ?_⟩
  have hb : qg_b Fd j = qa_reachB S.1.1 x y := by
    have := (hF j (by omega)).trans (qg_reach P w.1.1 hi hj eA eD)
    rw [ex, ey, ← qa_reachB_iff] at this
    cases z : qa_reachB S.1.1 x y with
    | true => exact this.mpr z
    | false =>
      cases u : qg_b Fd j with
      | false => rfl
      | true =>
        rw [this.mp u] at z
        cases z
  rw [hb]
  exact k.ok H2 ((ax.2.x (by omega)).tr (ax2.2.x (by omega))) (if_pos ⟨qa_has_iff.mpr ⟨A, qs_mem P hi eA, ex⟩, qa_has_iff.mpr ⟨D, qs_mem P hj eD, ey⟩⟩)
theorem qe_X11_citesByClosure (H : qx_at σ h b S none) (w : qa_w S.1 N) {x y : Int32} (k : qx_pq σ b S h qx_n1 (qq_reach S.1 x y) Q X) : qw_X11_citesByClosure b x y h Q X := by
  obtain ⟨B, G, Sl, RS, P, F⟩ := id H.2.1.1
  unfold qw_X11_citesByClosure
  rw [qx_rv H]
  refine qe_X11_slotOf H G RS P w.1.1 (fun i A hi eA ex => ?_) fun e => k.no H qx_fr.rf (if_neg fun q => e q.1) rfl
  rw [qx_rv H]
  refine qe_X11_slotOf H G RS P w.1.1 (fun j D hj eD ey => ?_) fun e => k.no H qx_fr.rf (if_neg fun q => e q.2) rfl
  obtain ⟨d0, c0, q0, K⟩ := qx_cg H
  rw [qx_r10 H, qx_r0 H, qp_rv K.1]
  refine qe_X2_read G RS (qg_u P w.1.1) K (by omega) fun g1 d1 K1 f1 hE => ?_
  have ax := H.2.2.2.1.gr K1 f1
  have H1 := H.aux ax.2 ax.1
  rw [qx_r10 H1, qp_rv K1.1]
  refine qe_X2_close K1 hE qg_E16 fun g2 c1 K2 f2 hF => ?_
  have ax2 := H1.2.2.2.1.gr K2 f2
  have H2 := H1.aux ax2.2 ax2.1
  rw [qx_r10 H2, qp_rv K2.1]
  refine qe_X2_slotsClosedFrom K2 hi ?_
  refine qe_X2_hasSlot _ (by omega) ⟨qp_bz _, ?_⟩
  have hb : qg_b (c1 i) j = qa_reachB S.1.1 x y := by
    have := (hF i hi j (by omega)).trans (qg_reach P w.1.1 hi hj eA eD)
    rw [ex, ey, ← qa_reachB_iff] at this
    cases z : qa_reachB S.1.1 x y with
    | true => exact this.mpr z
    | false =>
      cases u : qg_b (c1 i) j with
      | false => rfl
      | true =>
        rw [this.mp u] at z
        cases z
  rw [hb]
  exact k.ok H2 ((ax.2.x (by omega)).tr (ax2.2.x (by omega))) (if_pos ⟨qa_has_iff.mpr ⟨A, qs_mem P hi eA, ex⟩, qa_has_iff.mpr ⟨D, qs_mem P hj eD, ey⟩⟩)
/-! ranks by cites -/
theorem qs_cnt (f : Nat → Bool) (p : qa_C → Bool) (h : ∀ i, i < 16 → f i = (Sl i).any p) : ∀ n, n ≤ 16 → (List.range n).countP f = (qs_ls Sl n).countP p
  | 0, _ => rfl
  | n + 1, hn => by
    rw [List.range_succ, List.countP_append, List.countP_singleton, qs_cnt f p h n (by omega), h n hn]
    cases e : Sl n with
    | none =>
      rw [qs_ls_none e]
      rfl
    | some A =>
      rw [qs_ls_some e, List.countP_append, List.countP_singleton]
      rfl
theorem qa_citing_perm {l l2 : List qa_C} (P : l.Perm l2) (A : qa_C) : qa_citing l A = qa_citing l2 A := P.countP_eq _
/-- who stands before whom -/
def qa_bf (l : List qa_C) (D A : qa_C) : Bool := decide (qa_citing l A < qa_citing l D) || (qa_citing l D == qa_citing l A && decide (qa_sec D < qa_sec A))
theorem qa_bf_iff {l : List qa_C} {D A : qa_C} : qa_bf l D A = true ↔ qa_citing l A < qa_citing l D ∨ (qa_citing l D = qa_citing l A ∧ qa_sec D < qa_sec A) := by
  unfold qa_bf
  rw [Bool.or_eq_true, Bool.and_eq_true, decide_eq_true_iff, decide_eq_true_iff, beq_iff_eq]
theorem qa_bf_tr {l : List qa_C} {E D A : qa_C} (h1 : qa_bf l E D = true) (h2 : qa_bf l D A = true) : qa_bf l E A = true := by
  rw [qa_bf_iff] at *
  rcases h1 with z | ⟨z, z2⟩ <;> rcases h2 with y | ⟨y, y2⟩
  · exact Or.inl (by omega)
  · exact Or.inl (by omega)
  · exact Or.inl (by omega)
  · exact Or.inr ⟨by omega, Int32.lt_trans z2 y2⟩
theorem qa_bf_ir {l : List qa_C} {A : qa_C} : ¬ qa_bf l A A = true := fun h => by
  rw [qa_bf_iff] at h
  rcases h with z | z
  · omega
  · exact Int32.lt_irrefl z.2
theorem qa_ahead_lt {l0 : List qa_C} {D A : qa_C} (h : qa_bf l0 D A = true) : ∀ (l : List qa_C), D ∈ l → l.countP (fun E => qa_bf l0 E D) < l.countP (fun E => qa_bf l0 E A)
  | [], hD => absurd hD List.not_mem_nil
  | z :: l, hD => by
    rw [List.countP_cons, List.countP_cons]
    have hle : l.countP (fun E => qa_bf l0 E D) ≤ l.countP (fun E => qa_bf l0 E A) := List.countP_mono_left fun E _ hE => qa_bf_tr hE h
    rcases List.mem_cons.mp hD with e | e
    · subst e
      rw [if_neg qa_bf_ir, if_pos h]
      omega
    · have := qa_ahead_lt h l e
      by_cases e2 : qa_bf l0 z D = true
      · rw [if_pos e2, if_pos (qa_bf_tr e2 h)]
        omega
      · rw [if_neg e2]
        omega
theorem qa_ahead_inj {l : List qa_C} (h : (l.map qa_sec).Nodup) {D : qa_C} (hA : A ∈ l) (hD : D ∈ l) (e : qa_ahead l D = qa_ahead l A) : D = A := by
  have e : l.countP (fun E => qa_bf l E D) = l.countP (fun E => qa_bf l E A) := e
  by_cases z : qa_bf l D A = true
  · have := qa_ahead_lt z l hD
    omega
  by_cases y : qa_bf l A D = true
  · have := qa_ahead_lt y l hA
    omega
  rw [qa_bf_iff] at z y
  have ec : qa_citing l D = qa_citing l A := by omega
  rcases Int.lt_trichotomy (qa_sec D).toInt (qa_sec A).toInt with u | u | u
  · exact absurd (Or.inr ⟨ec, Int32.lt_iff_toInt_lt.mpr u⟩) z
  · exact qa_nd_inj h hD hA (Int32.toInt_inj.mp u)
  · exact absurd (Or.inr ⟨ec.symm, Int32.lt_iff_toInt_lt.mpr u⟩) y
theorem qe_X11_countRankedBefore (H : qx_at σ h b S T) (G : qb_at h (b + 1) B) (RS : qr_S B Sl) {dir cl qu : Nat → Int32} (K : qg_at h (b + 776) dir cl qu) {ct : Nat → Nat} (hct : ∀ j, j < 16 → ∀ {Q : Int32 → ql_H → Prop}, Q (nI (ct j)) h → qw_X2_countCiters (b + 776) (nI j) h Q) (hb : ∀ j, ct j < 100) {i : Nat} (hi : i < 16) (eA : Sl i = some A) {n : Nat} (hn : n < 100) (p : qa_C → Bool) (hp : ∀ j, j < 16 → ∀ D, Sl j = some D → (p D = true ↔ (n < ct j ∨ (ct j = n ∧ qa_sec D < qa_sec A)))) (k : Q (nI ((qs_ls Sl 16).countP p)) h) : qw_X11_countRankedBefore b (some (b + 1 + 3 + 4 * i)) (nI n) h Q := by
  have hC := G.2.2.2 i hi
  have hA := (RS i hi).1 A eA
  have hL : ∀ d j fu, j + d = 16 → d < fu → qw_X11_countRankedBefore_5 b Q fu (some (b + 1 + 3 + 4 * i)) (nI n) (nI ((qs_ls Sl j).countP p)) (nI j) h := by
    intro d
    induction d with
    | zero =>
      intro j fu hj hf
      obtain ⟨fu, rfl⟩ : ∃ z, fu = z + 1 := ⟨fu - 1, by omega⟩
      unfold qw_X11_countRankedBefore_5
      rw [qx_r0 H, qb_r0 G, qb_ln G]
      have e16 : j = 16 := by omega
      subst e16
      exact qp_iT (nI_le (by omega) (by omega)) k
    | succ d ih =>
      intro j fu hj hf
      obtain ⟨fu, rfl⟩ : ∃ z, fu = z + 1 := ⟨fu - 1, by omega⟩
      have hj16 : j < 16 := by omega
      have hD := G.2.2.2 j hj16
      unfold qw_X11_countRankedBefore_5 qw_X11_countRankedBefore_73 qw_X11_countRankedBefore_76
      rw [qx_r0 H, qb_r0 G, qb_ln G]
      refine qp_iF (nI_ge hj16 (by omega)) ?_
      rw [qx_r0 H, qb_r0 G, qb_lC G hj16, qx_r10 H, qp_rv K.1]
      refine hct j hj16 ?_
      rw [qc_f hD 0, nI_1]
      have hn := ih (j + 1) fu (by omega) (by omega)
      have b1 := hb j
      cases eS : Sl j with
      | none =>
        rw [qs_ls_none eS] at hn
        exact qp_iT ((RS j hj16).2 eS) hn
      | some D =>
        have hDr := (RS j hj16).1 D eS
        rw [qs_ls_some eS, List.countP_append, List.countP_singleton] at hn
        have pD := hp j hj16 D eS
        refine qp_iF (by rw [hDr.1.1]; exact qp_1) ?_
        have yes : p D = true → qw_X11_countRankedBefore_5 b Q fu (some (b + 1 + 3 + 4 * i)) (nI n) (nI ((qs_ls Sl j).countP p) + 1) (nI (j + 1)) h := fun z => by
          rw [z, if_pos rfl] at hn
          rw [nI_1]
          exact hn
        have no : ¬ p D = true → qw_X11_countRankedBefore_5 b Q fu (some (b + 1 + 3 + 4 * i)) (nI n) (nI ((qs_ls Sl j).countP p)) (nI (j + 1)) h := fun z => by
          rw [if_neg z] at hn
          exact hn
        refine qp_if (fun z => yes (pD.mpr (Or.inl ((nI_ltI (by omega) (by omega)).mp z)))) fun z => ?_
        have z : ¬ n < ct j := fun q => z (nI_lt q (by omega))
        refine qp_if (fun y => ?_) fun y => no fun q => ?_
        · have y := (nI_eq (by omega) (by omega)).mp y
          rw [qc_f hD 2, qc_f hC 2, hDr.1.2.2.1, hA.1.2.2.1]
          refine qp_if (fun u => no fun q => ?_) fun u => yes (pD.mpr (Or.inr ⟨y, Int32.not_le.mp u⟩))
          rcases pD.mp q with v | v
          · exact z v
          · exact absurd v.2 (Int32.not_lt.mpr u)
        · rcases pD.mp q with v | v
          · exact z v
          · exact y (by rw [v.1])
  unfold qw_X11_countRankedBefore
  exact hL 16 0 ql_FU (Nat.zero_add _) (by unfold ql_FU; omega)
theorem qe_X11_clauseByCites (H : qx_at σ h b S none) (w : qa_w S.1 N) {r : Int32} (k : qx_pq σ b S h qx_n1 (qq_byCites S.1 r) Q X) : qw_X11_clauseByCites b r h Q X := by
  have l16 := H.2.1.1.l16
  obtain ⟨B, G, Sl, RS, P, F⟩ := id H.2.1.1
  obtain ⟨d0, c0, q0, K⟩ := qx_cg H
  unfold qw_X11_clauseByCites
  rw [qx_r10 H, qx_r0 H, qp_rv K.1]
  refine qe_X2_read G RS (qg_u P w.1.1) K (by omega) fun g1 d1 K1 f1 hE => ?_
  have ax := H.2.2.2.1.gr K1 f1
  have H1 := H.aux ax.2 ax.1
  have G1 : qb_at g1 (b + 1) B := G.kept fun q h1 h2 => ax.2.2 q (by omega)
  have fr := ax.2.x (b := b) (by omega)
  have k : qx_pq σ b S g1 qx_n1 (qq_byCites S.1 r) Q X := fun h2 H2 f2 => k h2 H2 (fr.tr f2)
  have cit : ∀ j D, j < 16 → Sl j = some D → (List.range 16).countP (fun i => qg_b (d1 i) j) = qa_citing S.1.1 D := fun j D hj eD => by
    rw [← qa_citing_perm P]
    refine qs_cnt _ _ (fun i hi => ?_) 16 (Nat.le_refl _)
    have := hE i hi j (by omega)
    cases e : Sl i with
    | none =>
      cases u : qg_b (d1 i) j with
      | false => rfl
      | true =>
        obtain ⟨_, A2, D2, q2, _⟩ := this.mp u
        rw [e] at q2
        cases q2
    | some A2 =>
      show qg_b (d1 i) j = decide (qa_id D ∈ qa_ci A2)
      by_cases u : qa_id D ∈ qa_ci A2
      · rw [decide_eq_true u]
        exact this.mpr ⟨hj, A2, D, e, eD, u⟩
      · rw [decide_eq_false u]
        cases v : qg_b (d1 i) j with
        | false => rfl
        | true =>
          obtain ⟨_, A3, D3, q2, q3, q4⟩ := this.mp v
          rw [e] at q2
          rw [eD] at q3
          cases q2
          cases q3
          exact absurd q4 u
  have c16 : ∀ D, qa_citing S.1.1 D ≤ 16 := fun D => Nat.le_trans List.countP_le_length l16
  have ctb : ∀ j, (List.range 16).countP (fun i => qg_b (d1 i) j) < 100 := fun j => by
    have := List.countP_le_length (p := fun i => qg_b (d1 i) j) (l := List.range 16)
    rw [List.length_range] at this
    omega
  have ah16 : ∀ D, qa_ahead S.1.1 D ≤ 16 := fun D => Nat.le_trans List.countP_le_length l16
  have hL : ∀ d i fu, i + d = 16 → d < fu → (∀ j D, j < i → Sl j = some D → nI (qa_ahead S.1.1 D) ≠ r) → qw_X11_clauseByCites_13 b Q X fu r (nI i) g1 := by
    intro d
    induction d with
    | zero =>
      intro i fu hi hf hj
      obtain ⟨fu, rfl⟩ : ∃ z, fu = z + 1 := ⟨fu - 1, by omega⟩
      unfold qw_X11_clauseByCites_13
      rw [qx_r0 H1, qb_r0 G1, qb_ln G1]
      refine qp_iT (nI_le (by omega) (by omega)) (k.no H1 qx_fr.rf (qa_ans_n (qa_find_z fun D hD => ?_)) rfl)
      obtain ⟨j, hj2, ej⟩ := qs_ls_mem.mp (P.mem_iff.mpr hD)
      exact beq_eq_false_iff_ne.mpr (hj j D (by omega) ej)
    | succ d ih =>
      intro i fu hi hf hj
      obtain ⟨fu, rfl⟩ : ∃ z, fu = z + 1 := ⟨fu - 1, by omega⟩
      have hi16 : i < 16 := by omega
      have hC := G1.2.2.2 i hi16
      unfold qw_X11_clauseByCites_13 qw_X11_clauseByCites_64
      rw [qx_r0 H1, qb_r0 G1, qb_ln G1]
      refine qp_iF (nI_ge hi16 (by omega)) ?_
      rw [qx_r0 H1, qb_r0 G1, qb_lC G1 hi16, qc_f hC 0, nI_1]
      have hn := ih (i + 1) fu (by omega) (by omega)
      cases eS : Sl i with
      | none =>
        refine qp_iT ((RS i hi16).2 eS) (hn fun j D h1 h2 => ?_)
        by_cases e2 : j = i
        · subst e2
          rw [eS] at h2
          cases h2
        · exact hj j D (by omega) h2
      | some A =>
        have hA := (RS i hi16).1 A eS
        have mA := qs_mem P hi16 eS
        refine qp_iF (by rw [hA.1.1]; exact qp_1) ?_
        rw [qx_r10 H1, qp_rv K1.1]
        refine qe_X2_countCiters K1 hi16 ?_
        rw [qx_rv H1, cit i A hi16 eS]
        have cA := c16 A
        refine qe_X11_countRankedBefore H1 G1 RS K1 (ct := fun j => (List.range 16).countP fun i => qg_b (d1 i) j) (fun j hj Q k => qe_X2_countCiters K1 hj k) ctb hi16 eS (by omega) (fun D => qa_bf S.1.1 D A) (fun j hj D eD => ?_) ?_
        · rw [qa_bf_iff]
          show _ ↔ (qa_citing S.1.1 A < (List.range 16).countP (fun i => qg_b (d1 i) j) ∨ ((List.range 16).countP (fun i => qg_b (d1 i) j) = qa_citing S.1.1 A ∧ _))
          rw [cit j D hj eD]
        · rw [P.countP_eq]
          have ea : S.1.1.countP (fun D => qa_bf S.1.1 D A) = qa_ahead S.1.1 A := rfl
          rw [ea]
          have aA := ah16 A
          refine qp_if (fun z => ?_) fun z => hn fun j D h1 h2 => ?_
          · rw [qc_f hC 1, hA.1.2.1]
            refine k.ok H1 qx_fr.rf (qa_ans_s (qa_find_u mA (by rw [z]; exact beq_self_eq_true _) fun D hD eD => ?_))
            have eD := eq_of_beq eD
            rw [← z] at eD
            have aD := ah16 D
            exact qa_ahead_inj w.1.2.1.1 mA hD ((nI_eq (by omega) (by omega)).mp eD)
          · by_cases e2 : j = i
            · subst e2
              rw [eS] at h2
              cases h2
              exact z
            · exact hj j D (by omega) h2
  exact hL 16 0 ql_FU (Nat.zero_add _) (by unfold ql_FU; omega) fun j D h _ => absurd h (Nat.not_lt_zero j)
/-! soundness -/
theorem qe_X11_differencesAgree (H : qx_at σ h b S T) (k : ∀ h1, qx_at σ h1 b S T → qx_fr b h h1 → Q 1 h1) : qw_X11_differencesAgree b h Q := by
  obtain ⟨B, G, Sl, RS, P, F⟩ := id H.2.1.1
  have kp : ∀ g, qp_fr (b + 758) (b + 780) h g → qb_at g (b + 1) B := fun g f => G.kept fun q h1 h2 => f.2 q (by omega)
  have hL : ∀ d i fu g, i + d = 16 → d < fu → qp_fr (b + 758) (b + 780) h g → qx_aux g b → qw_X11_differencesAgree_13 b Q fu (some (b + 1 + 1)) (nI 16) (nI i) g := by
    intro d
    induction d with
    | zero =>
      intro i fu g hi hf f K
      obtain ⟨fu, rfl⟩ : ∃ z, fu = z + 1 := ⟨fu - 1, by omega⟩
      unfold qw_X11_differencesAgree_13
      exact qp_iT (nI_le (by omega) (by omega)) ⟨ql_nz1, k g (H.aux f K) (f.x (by omega))⟩
    | succ d ih =>
      intro i fu g hi hf f K
      obtain ⟨fu, rfl⟩ : ∃ z, fu = z + 1 := ⟨fu - 1, by omega⟩
      have hi16 : i < 16 := by omega
      have Gg := kp g f
      have Hg := H.aux f K
      have hC := Gg.2.2.2 i hi16
      unfold qw_X11_differencesAgree_13 qw_X11_differencesAgree_84
      refine qp_iF (nI_ge hi16 (by omega)) ?_
      rw [qb_lC Gg hi16, qc_f hC 0, nI_1]
      cases eS : Sl i with
      | none => exact qp_iT ((RS i hi16).2 eS) (ih (i + 1) fu g (by omega) (by omega) f K)
      | some A =>
        have hA := (RS i hi16).1 A eS
        have tx : ∀ d : Int32, ∃ t, qt_is (qc_on (B.1 i) d (qa_vs A).length) t := fun d => by
          cases e : qa_on A d with
          | none =>
            rw [hA.on_n e]
            exact ⟨[], qt_z⟩
          | some t => exact ⟨t, (hA.on_s e).1⟩
        refine qp_iF (by rw [hA.1.1]; exact qp_1) ?_
        rw [qc_rv hC]
        refine qe_X3_firstDay hC ?_
        rw [qc_rv hC]
        refine qe_X3_textOnDay hC hA.ok ?_
        rw [qx_r0 Hg, qx_day Hg, qc_rv hC]
        refine qe_X3_textOnDay hC hA.ok ?_
        obtain ⟨t1, I1⟩ := tx ((B.1 i).2.1 0)
        obtain ⟨t2, I2⟩ := tx (S.1.2.1 2)
        obtain ⟨W, D⟩ := qx_dif Hg
        rw [qx_r8 Hg, qp_rv D.1]
        refine qe_X5_byBeginnings D I1 I2 fun g1 W1 D1 f1 => ?_
        have ax := K.diff D1 f1
        have Hg1 := H.aux (f.tr ax.2) ax.1
        rw [qx_r8 Hg1, qp_rv D1.1]
        refine qe_X5_byEnds D1 I1 I2 fun g2 W2 D2 f2 => ?_
        have ax2 := ax.1.diff D2 f2
        exact qp_iT rfl (ih (i + 1) fu g2 (by omega) (by omega) (f.tr (ax.2.tr ax2.2)) ax2.1)
  unfold qw_X11_differencesAgree
  rw [qx_r0 H, qb_r0 G, qb_ln G]
  exact hL 16 0 ql_FU h (Nat.zero_add _) (by unfold ql_FU; omega) qp_fr.rf H.2.2.2.1
theorem qe_X11_indirectCitesAgree (H : qx_at σ h b S T) (w : qa_w S.1 N) (k : ∀ h1, qx_at σ h1 b S T → qx_fr b h h1 → Q 1 h1) : qw_X11_indirectCitesAgree b h Q := by
  obtain ⟨B, G, Sl, RS, P, F⟩ := id H.2.1.1
  obtain ⟨d0, c0, q0, K⟩ := qx_cg H
  unfold qw_X11_indirectCitesAgree
  rw [qx_r10 H, qx_r0 H, qp_rv K.1]
  refine qe_X2_read G RS (qg_u P w.1.1) K (by omega) fun g1 d1 K1 f1 hE => ?_
  have ax := H.2.2.2.1.gr K1 f1
  have H1 := H.aux ax.2 ax.1
  rw [qx_r10 H1, qp_rv K1.1]
  refine qe_X2_close K1 hE qg_E16 fun g2 c1 K2 f2 hF => ?_
  have ax2 := ax.1.gr K2 f2
  have hL : ∀ d i fu g q1, i + d = 16 → d < fu → qp_fr (b + 758) (b + 780) h g → qx_aux g b → qg_at g (b + 776) d1 c1 q1 → qw_X11_indirectCitesAgree_20 b Q fu (nI i) g := by
    intro d
    induction d with
    | zero =>
      intro i fu g q1 hi hf f K Kg
      obtain ⟨fu, rfl⟩ : ∃ z, fu = z + 1 := ⟨fu - 1, by omega⟩
      unfold qw_X11_indirectCitesAgree_20
      exact qp_iT (nI_le (a := 16) (by omega) (by omega)) ⟨ql_nz1, k g (H.aux f K) (f.x (by omega))⟩
    | succ d ih =>
      intro i fu g q1 hi hf f K Kg
      obtain ⟨fu, rfl⟩ : ∃ z, fu = z + 1 := ⟨fu - 1, by omega⟩
      have hi16 : i < 16 := by omega
      unfold qw_X11_indirectCitesAgree_20
      refine qp_iF (nI_ge (b := 16) hi16 (by omega)) ?_
      rw [qx_r10 (H.aux f K), qp_rv Kg.1]
      refine qe_X2_slotsFoundFrom Kg hE qg_E16 hi16 fun Fd g2 q2 K2 f2 hFd => ?_
      have ax2 := K.gr K2 f2
      rw [qx_r10 (H.aux (f.tr ax2.2) ax2.1), qp_rv K2.1]
      refine qe_X2_slotsClosedFrom K2 hi16 ?_
      have e : Fd = c1 i := qg_ext fun j hj => by
        have a := hFd j hj
        have c := hF i hi16 j hj
        cases u : qg_b (c1 i) j with
        | true => exact a.mpr (c.mp u)
        | false =>
          cases v : qg_b Fd j with
          | false => rfl
          | true =>
            rw [c.mpr (a.mp v)] at u
            cases u
      refine qp_iT e ?_
      rw [nI_1]
      exact ih (i + 1) fu g2 q2 (by omega) (by omega) (f.tr ax2.2) ax2.1 K2
  exact hL 16 0 ql_FU g2 _ (Nat.zero_add _) (by unfold ql_FU; omega) (ax.2.tr ax2.2) ax2.1 K2
theorem qe_X11_isConsistent (H : qx_at σ h b S none) (w : qa_w S.1 N) (k : ∀ h1, qx_at σ h1 b S none → qx_fr b h h1 → Q (qp_b (qa_sound S.1)) h1) : qw_X11_isConsistent b h Q := by
  unfold qw_X11_isConsistent
  rw [qx_rv H]
  refine qe_X11_differencesAgree H fun h1 H1 f1 => qp_iF qp_1 ?_
  rw [qx_rv H1]
  refine qe_X11_duplicatePairs H1 fun h2 H2 f2 => ?_
  rw [qx_rv H2]
  refine qe_X11_duplicatePairsByComparing H2 w (qp_iT rfl ?_)
  rw [qx_rv H2]
  refine qe_X11_indirectCitesAgree H2 w fun h3 H3 f3 => qp_iF qp_1 ?_
  obtain ⟨B, G, Sl, RS, P, F⟩ := id H3.2.1.1
  rw [qx_r0 H3, qb_rv G]
  refine qe_X1_countClauses G RS ?_
  rw [P.length_eq, qx_r0 H3, qb_f G 3, qx_r0 H3, qb_f G 5, qx_r0 H3, qb_f G 6, F.1.2 3 (by omega) (by omega), F.1.2 5 (by omega) (by omega), F.1.2 6 (by omega) (by omega)]
  have k := k h3 H3 (f1.tr (f2.tr f3))
  unfold qa_sound at k
  refine qp_if (fun z => ⟨ql_nz1, ?_⟩) fun z => ⟨ql_nz0, ?_⟩
  · rw [decide_eq_true z] at k
    exact k
  · rw [decide_eq_false z] at k
    exact k
end QCB
