/-! Texts counted in a table of thirty-two places. -/
section QHT
variable {h h1 : ql_H} {a : Nat} {c : Nat → Int32} {x : Nat → Int64} {ts : List Int64} {T : Int64}
def qh_at (h : ql_H) (a : Nat) (c : Nat → Int32) (x : Nat → Int64) : Prop := h.2 a = some (.inr (11, [.ref (a + 1), .ref (a + 2)])) ∧ h.2 (a + 1) = some (.inl (1, 32, .inr (.inl x))) ∧ h.2 (a + 2) = some (.inl (0, 32, .inl c))
theorem qh_at.kept (H : qh_at h a c x) (e : ∀ q, a ≤ q → q < a + 3 → h1.2 q = h.2 q) : qh_at h1 a c x :=
  ⟨(e _ (by omega) (by omega)).trans H.1, (e _ (by omega) (by omega)).trans H.2.1, (e _ (by omega) (by omega)).trans H.2.2⟩
theorem qh_r0 (H : qh_at h a c x) {K : Option Nat → Prop} : ql_gR h (some a) 11 0 K = K (some (a + 1)) := qp_gR H.1 rfl
theorem qh_r1 (H : qh_at h a c x) {K : Option Nat → Prop} : ql_gR h (some a) 11 1 K = K (some (a + 2)) := qp_gR H.1 rfl
theorem qh_lJ (H : qh_at h a c x) {i : Nat} {K : Int64 → Prop} (hi : i < 32) : ql_lJ h (some (a + 1)) (nI i) K = K (x i) := qp_lJ H.2.1 hi (by decide)
theorem qh_lI (H : qh_at h a c x) {i : Nat} {K : Int32 → Prop} (hi : i < 32) : ql_lI h (some (a + 2)) 0 (nI i) K = K (c i) := qp_lI H.2.2 hi (by decide)
theorem qh_sJ (H : qh_at h a c x) {i : Nat} {v : Int64} {K : ql_H → Prop} (hi : i < 32) (k : ∀ h1, qh_at h1 a c (vp_updL x i v) → qp_fr a (a + 3) h h1 → K h1) : ql_sJ h (some (a + 1)) (nI i) v K := by
  rw [qp_sJ H.2.1 hi (by decide)]
  exact k _ ⟨(qp_up_n (by omega)).trans H.1, qp_up_s, (qp_up_n (by omega)).trans H.2.2⟩ (qp_fr.up (by omega) (by omega))
theorem qh_sI (H : qh_at h a c x) {i : Nat} {v : Int32} {K : ql_H → Prop} (hi : i < 32) (k : ∀ h1, qh_at h1 a (upd c i v) x → qp_fr a (a + 3) h h1 → K h1) : ql_sI h (some (a + 2)) 0 (nI i) v K := by
  rw [qp_sI H.2.2 hi (by decide)]
  exact k _ ⟨(qp_up_n (by omega)).trans H.1, (qp_up_n (by omega)).trans H.2.1, qp_up_s⟩ (qp_fr.up (by omega) (by omega))
theorem qe_X10_clear (H : qh_at h a c x) {Q : ql_H → Prop} (k : ∀ h1 c1, qh_at h1 a c1 x → (∀ i, i < 32 → c1 i = 0) → qp_fr a (a + 3) h h1 → Q h1) : qw_X10_clear a h Q := by
  have hL : ∀ m i g cg, i ≤ 32 → 32 - i < m → qh_at g a cg x → (∀ j, j < i → cg j = 0) → qp_fr a (a + 3) h g → qw_X10_clear_2 a Q m (nI i) g := by
    intro m
    induction m with
    | zero => intro i _ _ _ h; omega
    | succ m ih =>
      intro i g cg hi hm G h0 f
      unfold qw_X10_clear_2
      by_cases e : i = 32
      · subst e
        exact qp_iT (nI_le (a := 32) (Nat.le_refl _) (by omega)) (k g cg G h0 f)
      · refine qp_iF (nI_ge (a := i) (b := 32) (by omega) (by omega)) ?_
        rw [qh_r1 G]
        refine qh_sI G (by omega) fun h1 H1 f1 => ?_
        rw [nI_1]
        refine ih (i + 1) h1 _ (by omega) (by omega) H1 (fun j hj => ?_) (f.tr f1)
        by_cases e2 : j = i
        · rw [e2, pk_us]
        · rw [pk_un e2]
          exact h0 j (by omega)
  exact hL ql_FU 0 h c (by omega) (by unfold ql_FU; omega) H (fun j hj => absurd hj (Nat.not_lt_zero j)) qp_fr.rf
def qh_home (T : Int64) : Nat := (T * (-7046029254386353131 : Int64)).toUInt64.toNat / 2 ^ 59
theorem qh_home_lt (T : Int64) : qh_home T < 32 := by
  have := (T * (-7046029254386353131 : Int64)).toUInt64.toNat_lt
  unfold qh_home
  omega
theorem qh_homeE (T : Int64) : ((T * (-7046029254386353131 : Int64)).toUInt64 >>> ((59 : Int32).toInt64.toUInt64 &&& Int64.toUInt64 63)).toInt64.toInt32 = nI (qh_home T) := by
  have hl := qh_home_lt T
  have hs : ((59 : Int32).toInt64.toUInt64 &&& Int64.toUInt64 63).toNat % 64 = 59 := by decide +kernel
  refine Int32.toBitVec_inj.mp (BitVec.eq_of_toNat_eq ?_)
  rw [Int64.toBitVec_toInt32, BitVec.signExtend_eq_setWidth_of_le _ (by decide), BitVec.toNat_setWidth, pk_tn (by omega)]
  have e : ((T * (-7046029254386353131 : Int64)).toUInt64 >>> ((59 : Int32).toInt64.toUInt64 &&& Int64.toUInt64 63)).toInt64.toBitVec.toNat = qh_home T := by
    show ((T * (-7046029254386353131 : Int64)).toUInt64 >>> ((59 : Int32).toInt64.toUInt64 &&& Int64.toUInt64 63)).toNat = qh_home T
    rw [UInt64.toNat_shiftRight, hs, Nat.shiftRight_eq_div_pow]
    rfl
  rw [e, Nat.mod_eq_of_lt (by omega)]
def qh_ct (ts : List Int64) (T : Int64) : Nat := ts.countP fun S => decide (S = T)
theorem qh_ct_app (ts : List Int64) (T S : Int64) : qh_ct (ts ++ [S]) T = qh_ct ts T + (if S = T then 1 else 0) := by
  unfold qh_ct
  rw [List.countP_append, List.countP_singleton]
  congr 1
  by_cases e : S = T
  · rw [if_pos e, if_pos (decide_eq_true e)]
  · rw [if_neg e, if_neg (by rw [decide_eq_false e]; decide)]
theorem qh_ct_pos {ts : List Int64} {T : Int64} (h : T ∈ ts) : 0 < qh_ct ts T := List.countP_pos_iff.mpr ⟨T, h, decide_eq_true rfl⟩
theorem qh_ct_zero {ts : List Int64} {T : Int64} (h : T ∉ ts) : qh_ct ts T = 0 := List.countP_eq_zero.mpr fun S hS => by
  rw [decide_eq_true_eq]
  intro e
  exact h (e ▸ hS)
def qh_ok (c : Nat → Int32) (x : Nat → Int64) (ts : List Int64) : Prop :=
  (∀ i, i < 32 → c i ≠ 0 → c i = nI (qh_ct ts (x i)) ∧ x i ∈ ts) ∧
  (∀ S, S ∈ ts → ∃ k, k < 32 ∧ (c ((qh_home S + k) % 32) ≠ 0 ∧ x ((qh_home S + k) % 32) = S) ∧ ∀ m, m < k → c ((qh_home S + m) % 32) ≠ 0 ∧ x ((qh_home S + m) % 32) ≠ S) ∧
  (List.range 32).countP (fun i => c i != 0) ≤ ts.length ∧
  ∀ i j, i < 32 → j < 32 → c i ≠ 0 → c j ≠ 0 → x i = x j → i = j
theorem qh_ok0 {c : Nat → Int32} {x : Nat → Int64} (h : ∀ i, i < 32 → c i = 0) : qh_ok c x [] := by
  refine ⟨fun i hi h2 => absurd (h i hi) h2, fun S hS => absurd hS List.not_mem_nil, ?_, fun i j hi _ h2 => absurd (h i hi) h2⟩
  rw [List.countP_eq_zero.mpr fun i hi => by rw [h i (List.mem_range.mp hi)]; decide]
  exact Nat.le_refl _
theorem qh_cP (c : Nat → Int32) (i : Nat) (v : Int32) : ∀ n, (List.range n).countP (fun j => upd c i v j != 0) ≤ (List.range n).countP (fun j => c j != 0) + (if i < n then 1 else 0)
  | 0 => Nat.zero_le _
  | n + 1 => by
    have ih := qh_cP c i v n
    rw [List.range_succ, List.countP_append, List.countP_append, List.countP_singleton, List.countP_singleton]
    by_cases e : n = i
    · subst e
      rw [if_neg (Nat.lt_irrefl n)] at ih
      rw [if_pos (Nat.lt_succ_self n)]
      split <;> split <;> omega
    · rw [pk_un e]
      by_cases e2 : i < n
      · rw [if_pos e2] at ih
        rw [if_pos (Nat.lt_succ_of_lt e2)]
        omega
      · rw [if_neg e2] at ih
        rw [if_neg (show ¬ i < n + 1 by omega)]
        omega
theorem qe_X10_countBeforeAdding (H : qh_at h a c x) (ok : qh_ok c x ts) (hn : ts.length < 32) {Q : Int32 → ql_H → Prop} (k : ∀ h1 c1 x1, qh_at h1 a c1 x1 → qh_ok c1 x1 (ts ++ [T]) → qp_fr a (a + 3) h h1 → Q (nI (qh_ct ts T)) h1) : qw_X10_countBeforeAdding a T h Q := by
  have hh := qh_home_lt T
  have hct : ∀ S, qh_ct ts S < 2 ^ 20 := fun S => by
    have : qh_ct ts S ≤ ts.length := List.countP_le_length
    omega
  have hL : ∀ m s, s ≤ 32 → 32 - s < m → (∀ j, j < s → c ((qh_home T + j) % 32) ≠ 0 ∧ x ((qh_home T + j) % 32) ≠ T) → qw_X10_countBeforeAdding_13 a Q m T (nI (qh_home T)) (nI s) h := by
    intro m
    induction m with
    | zero => intro s _ h; omega
    | succ m ih =>
      intro s hs hm hp
      unfold qw_X10_countBeforeAdding_13
      by_cases e : s = 32
      · exfalso
        subst e
        have hall : ∀ i, i < 32 → c i ≠ 0 := fun i hi => by
          have := (hp ((i + 32 - qh_home T) % 32) (Nat.mod_lt _ (by omega))).1
          rwa [show (qh_home T + (i + 32 - qh_home T) % 32) % 32 = i by omega] at this
        have h3 := ok.2.2.1
        have h4 : (List.range 32).countP (fun i => c i != 0) = (List.range 32).length := List.countP_eq_length.mpr fun i hi => by
          have := hall i (List.mem_range.mp hi)
          simpa using this
        rw [List.length_range] at h4
        omega
      · refine qp_iF (nI_ge (a := s) (b := 32) (by omega) (by omega)) ?_
        have hi : (qh_home T + s) % 32 < 32 := Nat.mod_lt _ (by omega)
        rw [nI_add, pk_andN (by omega) 5 rfl, show 2 ^ 5 = 32 from rfl]
        generalize hI : (qh_home T + s) % 32 = i at *
        rw [qh_r1 H, qh_lI H hi]
        unfold qw_X10_countBeforeAdding_47
        by_cases e0 : c i = 0
        · refine qp_iT e0 ?_
          have hT : T ∉ ts := fun hT => by
            obtain ⟨k2, h1, ⟨h2, h3⟩, h4⟩ := ok.2.1 T hT
            rcases Nat.lt_trichotomy k2 s with z | z | z
            · exact (hp k2 z).2 h3
            · rw [z, hI] at h2
              exact h2 e0
            · have := (h4 s z).1
              rw [hI] at this
              exact this e0
          rw [qh_r0 H]
          refine qh_sJ H hi fun h1 H1 f1 => ?_
          rw [qh_r0 H1, qh_lJ H1 hi, pk_uLs]
          refine qp_iT ((lg_cmp_eq _ _).mpr rfl) ?_
          rw [qh_r1 H1, qh_lI H1 hi]
          refine qh_sI H1 hi fun h2 H2 f2 => ?_
          rw [qh_r1 H2, qh_lI H2 hi, pk_us, e0]
          have hx : ∀ j, j < 32 → c j ≠ 0 → j ≠ i ∧ x j ≠ T := fun j hj hc => ⟨fun z => hc (z ▸ e0), fun z => hT (z ▸ (ok.1 j hj hc).2)⟩
          have := k h2 _ _ H2 ?_ (f1.tr f2)
          · rw [qh_ct_zero hT] at this
            exact this
          · rw [e0]
            refine ⟨fun j hj hc => ?_, fun S hS => ?_, ?_, fun j1 j2 hj1 hj2 hc1 hc2 hxx => ?_⟩
            · by_cases ej : j = i
              · subst ej
                rw [pk_us, pk_uLs, qh_ct_app, if_pos rfl, qh_ct_zero hT]
                exact ⟨rfl, List.mem_append_right _ (List.mem_singleton.mpr rfl)⟩
              · rw [pk_un ej] at hc ⊢
                rw [pk_uLn ej, qh_ct_app, if_neg (fun z => (hx j hj hc).2 z.symm)]
                exact ⟨(ok.1 j hj hc).1, List.mem_append_left _ (ok.1 j hj hc).2⟩
            · rcases List.mem_append.mp hS with hS | hS
              · obtain ⟨k2, g1, ⟨g2, g3⟩, g4⟩ := ok.2.1 S hS
                refine ⟨k2, g1, ?_, fun m hm => ?_⟩
                · have := (hx _ (Nat.mod_lt _ (by omega)) g2).1
                  rw [pk_un this, pk_uLn this]
                  exact ⟨g2, g3⟩
                · have := (hx _ (Nat.mod_lt _ (by omega)) (g4 m hm).1).1
                  rw [pk_un this, pk_uLn this]
                  exact g4 m hm
              · rw [List.mem_singleton.mp hS]
                refine ⟨s, by omega, ?_, fun m hm => ?_⟩
                · rw [hI, pk_us, pk_uLs]
                  exact ⟨by decide, rfl⟩
                · have := (hx _ (Nat.mod_lt _ (by omega)) (hp m hm).1).1
                  rw [pk_un this, pk_uLn this]
                  exact hp m hm
            · have h3 := qh_cP c i (0 + 1) 32
              rw [if_pos hi] at h3
              rw [List.length_append]
              exact Nat.le_trans h3 (Nat.succ_le_succ ok.2.2.1)
            · by_cases e1 : j1 = i
              · by_cases e2 : j2 = i
                · rw [e1, e2]
                · exfalso
                  rw [pk_un e2] at hc2
                  rw [e1, pk_uLs, pk_uLn e2] at hxx
                  exact (hx j2 hj2 hc2).2 hxx.symm
              · rw [pk_un e1] at hc1
                by_cases e2 : j2 = i
                · exfalso
                  rw [e2, pk_uLs, pk_uLn e1] at hxx
                  exact (hx j1 hj1 hc1).2 hxx
                · rw [pk_un e2] at hc2
                  rw [pk_uLn e1, pk_uLn e2] at hxx
                  exact ok.2.2.2 j1 j2 hj1 hj2 hc1 hc2 hxx
        · refine qp_iF e0 ?_
          rw [qh_r0 H, qh_lJ H hi]
          by_cases eT : x i = T
          · refine qp_iT ((lg_cmp_eq _ _).mpr eT) ?_
            rw [qh_r1 H, qh_lI H hi]
            refine qh_sI H hi fun h2 H2 f2 => ?_
            have hc := (ok.1 i hi e0).1
            rw [eT] at hc
            have hm2 := (ok.1 i hi e0).2
            rw [eT] at hm2
            rw [qh_r1 H2, qh_lI H2 hi, pk_us, hc, nI_1, nI_pred]
            refine k h2 _ _ H2 ?_ f2
            rw [hc, nI_1]
            have hnz : nI (qh_ct ts T + 1) ≠ 0 := nI_ne0 (by omega) (by have := hct T; omega)
            have hcz : ∀ j, upd c i (nI (qh_ct ts T + 1)) j ≠ 0 ↔ c j ≠ 0 := fun j => by
              by_cases ej : j = i
              · rw [ej, pk_us]
                exact ⟨fun _ => e0, fun _ => hnz⟩
              · rw [pk_un ej]
            refine ⟨fun j hj hc2 => ?_, fun S hS => ?_, ?_, fun j1 j2 hj1 hj2 hc1 hc2 hxx => ok.2.2.2 j1 j2 hj1 hj2 ((hcz j1).mp hc1) ((hcz j2).mp hc2) hxx⟩
            · have hc3 := (hcz j).mp hc2
              by_cases ej : j = i
              · subst ej
                rw [pk_us, eT, qh_ct_app, if_pos rfl]
                exact ⟨rfl, List.mem_append_left _ hm2⟩
              · have hne : x j ≠ T := fun z => ej (ok.2.2.2 j i hj hi hc3 e0 (by rw [z, eT]))
                rw [pk_un ej, qh_ct_app, if_neg (fun z => hne z.symm)]
                exact ⟨(ok.1 j hj hc3).1, List.mem_append_left _ (ok.1 j hj hc3).2⟩
            · have hS2 : S ∈ ts := by
                rcases List.mem_append.mp hS with hS | hS
                · exact hS
                · rw [List.mem_singleton.mp hS]
                  exact hm2
              obtain ⟨k2, g1, ⟨g2, g3⟩, g4⟩ := ok.2.1 S hS2
              exact ⟨k2, g1, ⟨(hcz _).mpr g2, g3⟩, fun m hm => ⟨(hcz _).mpr (g4 m hm).1, (g4 m hm).2⟩⟩
            · rw [List.length_append, show (List.range 32).countP (fun j => upd c i (nI (qh_ct ts T + 1)) j != 0) = (List.range 32).countP (fun j => c j != 0) from List.countP_congr fun j _ => by
                rw [bne_iff_ne, bne_iff_ne]
                exact hcz j]
              exact Nat.le_trans ok.2.2.1 (Nat.le_add_right _ _)
          · refine qp_iF (fun z => eT ((lg_cmp_eq _ _).mp z)) ?_
            rw [nI_1]
            refine ih (s + 1) (by omega) (by omega) fun j hj => ?_
            by_cases ej : j = s
            · rw [ej, hI]
              exact ⟨e0, eT⟩
            · exact hp j (by omega)
  unfold qw_X10_countBeforeAdding
  rw [qh_homeE]
  exact hL ql_FU 0 (by omega) (by unfold ql_FU; omega) fun j hj => absurd hj (Nat.not_lt_zero j)
end QHT
