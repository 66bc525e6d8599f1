/-! The class's StringBuilders: letters below 128, in a byte row that grows from 16 to 34 to 70. -/
section QSB
variable {h h1 h2 : ql_H} {u a a1 cap : Nat} {l : List Nat} {σ : Nat → Nat}
theorem qp_nw {o : ql_O} {K : Option Nat → ql_H → Prop} : ql_nw h o K = K (some h.1) (ql_mk h o) := rfl
theorem qp_cpI {x y kd L0 L1 n : Nat} {ty : FieldType} {f g : Nat → Int32} {K : ql_H → Prop} (h0 : h.2 x = some (.inl (kd, L0, .inl f))) (h1 : h.2 y = some (.inl (kd, L1, .inl g))) (n0 : n ≤ L0) (n1 : n ≤ L1) (n31 : n < 2 ^ 31) (hf : ∀ i, i < n → fits ty (.int (f i)) = true) (k : K (ql_up h y (.inl (kd, L1, .inl (va_cpy f g 0 0 n))))) : ql_cpI h (some x) 0 (some y) 0 (nI n) kd ty K := by
  simp only [ql_cpI, ql_ar, h0, h1, true_and, nI_clamp n31, sb_cl0]
  exact ⟨⟨by decide, by decide, nI_pos n31, by omega, by omega, fun i hi => by rw [Nat.zero_add]; exact hf i hi⟩, k⟩
theorem qp_cpJ {x y L0 L1 n : Nat} {f g : Nat → Int64} {K : ql_H → Prop} (h0 : h.2 x = some (.inl (1, L0, .inr (.inl f)))) (h1 : h.2 y = some (.inl (1, L1, .inr (.inl g)))) (n0 : n ≤ L0) (n1 : n ≤ L1) (n31 : n < 2 ^ 31) (k : K (ql_up h y (.inl (1, L1, .inr (.inl (va_cpy f g 0 0 n)))))) : ql_cpJ h (some x) 0 (some y) 0 (nI n) K := by
  simp only [ql_cpJ, ql_ar, h0, h1, true_and, nI_clamp n31, sb_cl0]
  exact ⟨⟨by decide, by decide, nI_pos n31, by omega, by omega⟩, k⟩
theorem qu_b8 : ∀ c, c < 128 → (nI c).toInt8.toInt32 = nI c := by decide +kernel
theorem qu_c8 : ∀ c, c < 128 → ((nI c &&& (255 : Int32)).toUInt32 % 65536).toInt32 = nI c := by decide +kernel
theorem qu_nb {c : Nat} (h : c < 128) : vp_nar .byte (nI c) = nI c := by
  have := pk_vb (nI c)
  rw [qu_b8 c h] at this
  exact this
theorem qu_fb {c : Nat} (h : c < 128) : fits .byte (.int (nI c)) = true := by
  have := pk_fb (nI c)
  rw [qu_b8 c h] at this
  exact this
def qu_at (h : ql_H) (u a cap : Nat) (l : List Nat) : Prop := ∃ y f, h.2 u = some (.inr (1, [.ref a, .int 0, .int y, .int (nI l.length)])) ∧ h.2 a = some (.inl (3, cap, .inl f)) ∧ (∀ j (hj : j < l.length), f j = nI l[j]) ∧ u ≠ a ∧ l.length ≤ cap ∧ (cap = 16 ∨ cap = 34 ∨ cap = 70) ∧ (∀ c ∈ l, c < 128) ∧ sb_Fit f
theorem qu_at.kept (H : qu_at h u a cap l) (e1 : h1.2 u = h.2 u) (e2 : h1.2 a = h.2 a) : qu_at h1 u a cap l := by
  obtain ⟨y, f, h1, h2, r⟩ := H
  exact ⟨y, f, e1.trans h1, e2.trans h2, r⟩
theorem qu_rv (H : qu_at h u a cap l) {K : Nat → Prop} : ql_rv h (some u) 1 K = K u := by
  obtain ⟨y, f, h1, h2, r⟩ := H
  exact qp_rv h1
/-- but for u, the row a, and what is made -/
def qu_fr (u a a1 : Nat) (h h1 : ql_H) : Prop := h.1 ≤ h1.1 ∧ (∀ q, q < h.1 → q ≠ u → q ≠ a → h1.2 q = h.2 q) ∧ (a1 = a ∨ h.1 ≤ a1) ∧ (a < h.1 → a1 < h1.1)
theorem qu_fr.tr {a2 : Nat} (f : qu_fr u a a1 h h1) (g : qu_fr u a1 a2 h1 h2) (ha : a < h.1) : qu_fr u a a2 h h2 := by
  obtain ⟨f1, f2, f3, f4⟩ := f
  obtain ⟨g1, g2, g3, g4⟩ := g
  refine ⟨Nat.le_trans f1 g1, fun q hq hu hqa => ?_, ?_, fun _ => g4 (f4 ha)⟩
  · rw [g2 q (by omega) hu (by rcases f3 with z | z <;> omega)]
    exact f2 q hq hu hqa
  · rcases g3 with z | z <;> rcases f3 with y | y <;> omega
theorem qu_fr.rf : qu_fr u a a h h := ⟨Nat.le_refl _, fun _ _ _ _ => rfl, Or.inl rfl, fun z => z⟩
theorem qu_fr.up {o : ql_O} (hu : a1 = u ∨ a1 = a) : qu_fr u a a h (ql_up h a1 o) := ⟨Nat.le_refl _, fun q _ h1 h2 => qp_up_n (by rcases hu with z | z <;> omega), Or.inl rfl, fun z => z⟩
theorem qe_J4_len (H : qu_at h u a cap l) {Q : Int32 → ql_H → Prop} (k : Q (nI l.length) h) : qw_J4_length_8abf5 u h Q := by
  obtain ⟨y, f, h1, h2, r⟩ := id H
  unfold qw_J4_length_8abf5
  rw [qp_rv h1]
  unfold qw_J5_length_8abf5
  rw [qp_gI (k := 3) h1 rfl]
  exact k
theorem qe_J4_chr (H : qu_at h u a cap l) {j : Nat} (hj : j < l.length) {Q : Int32 → ql_H → Prop} (k : Q (nI l[j]) h) : qw_J4_charAt_5068e u (nI j) h Q := by
  obtain ⟨y, f, h1, h2, h3, h4, h5, h6, h7, h8⟩ := id H
  have hc := h7 _ (List.getElem_mem hj)
  unfold qw_J4_charAt_5068e
  rw [qp_rv h1]
  unfold qw_J5_charAt_5068e
  rw [qp_gI (k := 1) h1 rfl, qp_gR (k := 0) h1 rfl, qp_gI (k := 3) h1 rfl, qp_len h2, sc_shr0 (by omega)]
  refine qp_min (by omega) (by omega) ?_
  unfold qw_J0_checkIndex_df160
  intro r1
  unfold qw_J3_checkIndex_8e157
  rw [Nat.min_eq_left h5]
  refine qp_iF (nI_pos (by omega)) (qp_iT (nI_lt hj (by omega)) (qp_iT rfl ?_))
  rw [qp_lI h2 (by omega) (by omega), h3 j hj, qu_c8 _ hc]
  exact ⟨(pk_charN (by omega)).1, (pk_charN (by omega)).1, k⟩
/-- room for n letters -/
theorem qe_J5_ensure (H : qu_at h u a cap l) (ha : u < h.1 ∧ a < h.1) {n : Nat} (h10 : n ≤ cap + 10) (h70 : n ≤ 70) {Q : ql_H → Prop} (k : ∀ h1 a1 cap1, qu_at h1 u a1 cap1 l → n ≤ cap1 → qu_fr u a a1 h h1 → Q h1) : qw_J5_ensureCapacityInternal_d00df u (nI n) h Q := by
  obtain ⟨y, f, h1, h2, h3, h4, h5, h6, h7, h8⟩ := id H
  have c70 : cap ≤ 70 := by omega
  unfold qw_J5_ensureCapacityInternal_d00df
  rw [qp_gR (k := 0) h1 rfl, qp_len h2, qp_gI (k := 1) h1 rfl, sc_shr0 (by omega)]
  by_cases z : n ≤ cap
  · refine qp_iT ?_ (k h a cap H z qu_fr.rf)
    rcases Nat.lt_or_ge n cap with y | y
    · exact Int32.le_of_lt (pk_sneg (by omega) y)
    · rw [pk_sub y, show n - cap = 0 by omega]
      decide
  · have zc : cap < n := by omega
    rw [pk_sub (by omega)]
    refine qp_iF (nI_nle (by omega) (by omega)) ?_
    rw [qp_gR (k := 0) h1 rfl, qp_rv h1]
    unfold qw_J5_newCapacity_0f7a4
    rw [qp_gR (k := 0) h1 rfl, qp_len h2, qp_gI (k := 1) h1 rfl, qp_gI (k := 1) h1 rfl]
    have e1 : (nI n <<< ((0 : Int32) &&& 31)) - nI cap = nI (n - cap) := by
      rw [sb_shl0, pk_sub (by omega)]
    have e2 : nI cap + ((2 : Int32) <<< ((0 : Int32) &&& 31)) = nI (cap + 2) := by
      rw [sb_shl0]
      exact nI_add cap 2
    rw [e1, e2]
    unfold qw_J8_newLength_cabcc
    refine qp_max (by omega) (by omega) ?_
    rw [Nat.max_eq_right (by omega), nI_add]
    have e3 : cap + (cap + 2) = 34 ∨ cap + (cap + 2) = 70 := by omega
    have e4 : ¬ nI (cap + (cap + 2)) ≤ (0 : Int32) := nI_nle (by omega) (by omega)
    refine qp_iF e4 (qp_iF (nI_nlt (a := 2147483639) (b := cap + (cap + 2)) (by omega) (by omega)) ?_)
    refine qp_iF (fun q => absurd ((nI_eq (a := cap + (cap + 2)) (b := 2147483647) (by omega) (by omega)).mp q) (by omega)) ?_
    rw [qp_gI (k := 1) h1 rfl, sc_shr0 (by omega)]
    dsimp only
    rw [qp_gI (k := 1) h1 rfl, sb_shl0]
    generalize hc2 : cap + (cap + 2) = cap2 at e3
    unfold qw_J7_copyOf_9075b
    rw [qp_len h2]
    refine qp_iF (fun q => absurd ((nI_eq (by omega) (by omega)).mp q) (by omega)) ⟨⟨nI_pos (by omega), by rw [nI_clamp (by omega)]; omega⟩, ?_⟩
    rw [nI_clamp (by omega)]
    have n1 : u ≠ h.1 := by omega
    have n2 : a ≠ h.1 := by omega
    have m1 : (ql_mk h (.inl (3, cap2, .inl fun _ => 0))).2 u = some (.inr (1, [.ref a, .int 0, .int y, .int (nI l.length)])) := (qp_mk_n n1).trans h1
    have m2 : (ql_mk h (.inl (3, cap2, .inl fun _ => 0))).2 a = some (.inl (3, cap, .inl f)) := (qp_mk_n n2).trans h2
    have m3 : (ql_mk h (.inl (3, cap2, .inl fun _ => 0))).2 h.1 = some (.inl (3, cap2, .inl fun _ => 0)) := qp_mk_s
    rw [qp_nw, qp_len m2]
    refine qp_min (by omega) (by omega) ?_
    rw [Nat.min_eq_left (by omega)]
    refine qp_cpI m2 m3 (Nat.le_refl _) (by omega) (by omega) (fun i _ => h8 i) ?_
    have m4 : (ql_up (ql_mk h (.inl (3, cap2, .inl fun _ => 0))) h.1 (.inl (3, cap2, .inl (va_cpy f (fun _ => 0) 0 0 cap)))).2 u = some (.inr (1, [.ref a, .int 0, .int y, .int (nI l.length)])) := (qp_up_n n1).trans m1
    dsimp only
    rw [qp_pV m4 (by show 0 < 4; omega)]
    refine k _ h.1 cap2 ⟨y, _, qp_up_s, (qp_up_n (fun q => n1 q.symm)).trans qp_up_s, fun j hj => ?_, n1, by omega, by omega, h7, sb_fitC h8 sb_fit0⟩ (by omega) ⟨Nat.le_succ _, fun q hq h1 h2 => ?_, Or.inr (Nat.le_refl _), fun _ => Nat.lt_succ_self _⟩
    · exact (sb_cpy0 (by omega)).trans (h3 j hj)
    · exact (qp_up_n h1).trans ((qp_up_n (by omega)).trans (qp_mk_n (by omega)))
theorem qe_J5_lat (H : qu_at h u a cap l) {Q : Int32 → ql_H → Prop} (k : Q 1 h) : qw_J5_isLatin1_aae02 u h Q := by
  obtain ⟨y, f, h1, h2, r⟩ := id H
  unfold qw_J5_isLatin1_aae02
  refine qp_iF qp_1 ?_
  rw [qp_gI (k := 1) h1 rfl]
  exact qp_iT rfl ⟨ql_nz1, k⟩
/-- a letter more -/
theorem qe_J4_app (H : qu_at h u a cap l) (ha : u < h.1 ∧ a < h.1) {c : Nat} (hc : c < 128) (h70 : l.length < 70) {Q : Option Nat → ql_H → Prop} (k : ∀ h1 a1 cap1, qu_at h1 u a1 cap1 (l ++ [c]) → qu_fr u a a1 h h1 → Q (some u) h1) : qw_J4_append_cf468 u (nI c) h Q := by
  obtain ⟨y, f, h1, h2, h3, h4, h5, h6, h7, h8⟩ := id H
  unfold qw_J4_append_cf468
  rw [qp_rv h1]
  unfold qw_J5_append_3fe6f
  rw [qp_gI (k := 3) h1 rfl, qp_rv h1, nI_1]
  refine qe_J5_ensure H ha (by omega) (by omega) fun g ag capg G le fg => ?_
  rw [qu_rv G]
  refine qe_J5_lat G (qp_iF qp_1 ?_)
  unfold qw_J1_canEncode_fc78d
  refine qp_iF (nI_nlt (a := 255) (b := c) (by omega) (by omega)) ⟨ql_nz1, qp_iF qp_1 ?_⟩
  obtain ⟨y2, f2, g1, g2, g3, g4, g5, g6, g7, g8⟩ := id G
  rw [qp_gR (k := 0) g1 rfl, qp_gI (k := 3) g1 rfl, nI_1, qp_pV g1 (by show 3 < 4; omega)]
  have s2 : (ql_up g u (.inr (1, [.ref ag, .int 0, .int y2, .int (nI (l.length + 1))]))).2 ag = some (.inl (3, capg, .inl f2)) := (qp_up_n (fun q => g4 q.symm)).trans g2
  have sI := qp_sI (j := l.length) (v := vp_nar .byte (nI c).toInt8.toInt32) (K := fun h => Q (some u) h) s2 (by omega) (by omega)
  refine Eq.mpr sI ?_
  rw [pk_vb, qu_b8 c hc]
  refine k _ ag capg ⟨y2, _, (qp_up_n g4).trans (qp_up_s.trans ?_), qp_up_s, fun j hj => ?_, g4, ?_, g6, fun x hx => ?_, sb_fitU g8 (qu_fb hc)⟩ (fg.tr (qu_fr.tr (qu_fr.up (Or.inl rfl)) (qu_fr.up (Or.inr rfl)) (fg.2.2.2 ha.2)) ha.2)
  · rw [List.length_append]
    rfl
  · by_cases e : j = l.length
    · subst e
      rw [pk_us, qt_g1 (l := l ++ [c]) rfl hj rfl]
    · have hj2 : j < l.length := by
        rw [List.length_append] at hj
        have : j < l.length + 1 := hj
        omega
      rw [pk_un e, qt_gl (l := l ++ [c]) rfl hj hj2]
      exact g3 j hj2
  · rw [List.length_append]
    exact le
  · rcases List.mem_append.mp hx with z | z
    · exact h7 x z
    · obtain rfl := List.mem_singleton.mp z
      exact hc
/-- emptied -/
theorem qe_J4_set0 (H : qu_at h u a cap l) {Q : ql_H → Prop} (k : ∀ h1, qu_at h1 u a cap [] → qu_fr u a a h h1 → Q h1) : qw_J4_setLength_d00df u 0 h Q := by
  obtain ⟨y, f, h1, h2, h3, h4, h5, h6, h7, h8⟩ := id H
  unfold qw_J4_setLength_d00df
  rw [qp_rv h1]
  unfold qw_J5_setLength_d00df
  refine qp_iT (by decide) ?_
  rw [qp_rv h1]
  unfold qw_J5_ensureCapacityInternal_d00df
  rw [qp_gR (k := 0) h1 rfl, qp_len h2, qp_gI (k := 1) h1 rfl, sc_shr0 (by omega)]
  refine qp_iT (by rcases h6 with z | z | z <;> rw [z] <;> decide) ?_
  dsimp only
  rw [qp_gI (k := 3) h1 rfl]
  refine qp_iT (nI_le (a := 0) (Nat.zero_le _) (by omega)) ?_
  rw [qp_gI (k := 3) h1 rfl]
  have fin : ∀ g y2, g.2 u = some (.inr (1, [.ref a, .int 0, .int y2, .int (nI l.length)])) → g.2 a = some (.inl (3, cap, .inl f)) → qu_fr u a a h g → qw_J5_setLength_d00df_76 u Q 0 g := fun g y2 g1 g2 fg => by
    unfold qw_J5_setLength_d00df_76
    rw [qp_pV g1 (by show 3 < 4; omega)]
    refine k _ ⟨y2, f, qp_up_s, (qp_up_n (fun q => h4 q.symm)).trans g2, fun j hj => absurd hj (Nat.not_lt_zero j), h4, Nat.zero_le _, h6, fun c hc => absurd hc List.not_mem_nil, h8⟩ ⟨fg.1, fun q hq q1 q2 => (qp_up_n q1).trans (fg.2.1 q hq q1 q2), Or.inl rfl, fun z => fg.2.2.2 z⟩
  refine qp_if (fun _ => fin h y h1 h2 qu_fr.rf) fun _ => ?_
  rw [qp_pV h1 (by show 2 < 4; omega)]
  exact fin _ 1 qp_up_s ((qp_up_n (fun q => h4 q.symm)).trans h2) (qu_fr.up (Or.inl rfl))
/-! numbers -/
theorem qu_sz (f : Nat) (Q : Int32 → ql_H → Prop) (x d p i : Int32) : qw_J6_stringSize_0f7a4_16 Q (f + 1) x d p i h = (if (10 : Int32) ≤ i then (Q ((10 : Int32) + d) h) else (if x ≤ p then (qw_J6_stringSize_0f7a4_16 Q f x d ((10 : Int32) * p) (i + (1 : Int32)) h) else (Q (i + d) h))) := rfl
theorem qe_J6_size {v : Nat} (hv : v < 2 ^ 31) {Q : Int32 → ql_H → Prop} (k : Q (nI (sb_dg v)) h) : qw_J6_stringSize_0f7a4 (nI v) h Q := by
  unfold qw_J6_stringSize_0f7a4
  refine qp_iF (nI_pos hv) ?_
  unfold qw_J6_stringSize_0f7a4_11
  rw [show ql_FU = 999990 + 10 from rfl]
  rw [show 999990 + 10 = (999990 + 9) + 1 from rfl, qu_sz]
  refine qp_iF (by decide) ?_
  by_cases z1 : v < 10
  · refine qp_iF (fun q => absurd ((sb_nle (a := v) (b := 10) hv (by omega)).mp q) (by omega)) ?_
    have e : sb_dg v = 1 := by
      unfold sb_dg
      rw [if_pos z1]
    rw [e] at k
    exact k
  refine qp_iT ((sb_nle (a := v) (b := 10) hv (by omega)).mpr (by omega)) ?_
  rw [show (10 : Int32) * (-10 : Int32) = (-100 : Int32) from by decide, show (1 : Int32) + (1 : Int32) = (2 : Int32) from by decide]
  rw [show 999990 + 9 = (999990 + 8) + 1 from rfl, qu_sz]
  refine qp_iF (by decide) ?_
  by_cases z2 : v < 100
  · refine qp_iF (fun q => absurd ((sb_nle (a := v) (b := 100) hv (by omega)).mp q) (by omega)) ?_
    have e : sb_dg v = 2 := by
      unfold sb_dg
      rw [if_neg z1, if_pos z2]
    rw [e] at k
    exact k
  refine qp_iT ((sb_nle (a := v) (b := 100) hv (by omega)).mpr (by omega)) ?_
  rw [show (10 : Int32) * (-100 : Int32) = (-1000 : Int32) from by decide, show (2 : Int32) + (1 : Int32) = (3 : Int32) from by decide]
  rw [show 999990 + 8 = (999990 + 7) + 1 from rfl, qu_sz]
  refine qp_iF (by decide) ?_
  by_cases z3 : v < 1000
  · refine qp_iF (fun q => absurd ((sb_nle (a := v) (b := 1000) hv (by omega)).mp q) (by omega)) ?_
    have e : sb_dg v = 3 := by
      unfold sb_dg
      rw [if_neg z1, if_neg z2, if_pos z3]
    rw [e] at k
    exact k
  refine qp_iT ((sb_nle (a := v) (b := 1000) hv (by omega)).mpr (by omega)) ?_
  rw [show (10 : Int32) * (-1000 : Int32) = (-10000 : Int32) from by decide, show (3 : Int32) + (1 : Int32) = (4 : Int32) from by decide]
  rw [show 999990 + 7 = (999990 + 6) + 1 from rfl, qu_sz]
  refine qp_iF (by decide) ?_
  by_cases z4 : v < 10000
  · refine qp_iF (fun q => absurd ((sb_nle (a := v) (b := 10000) hv (by omega)).mp q) (by omega)) ?_
    have e : sb_dg v = 4 := by
      unfold sb_dg
      rw [if_neg z1, if_neg z2, if_neg z3, if_pos z4]
    rw [e] at k
    exact k
  refine qp_iT ((sb_nle (a := v) (b := 10000) hv (by omega)).mpr (by omega)) ?_
  rw [show (10 : Int32) * (-10000 : Int32) = (-100000 : Int32) from by decide, show (4 : Int32) + (1 : Int32) = (5 : Int32) from by decide]
  rw [show 999990 + 6 = (999990 + 5) + 1 from rfl, qu_sz]
  refine qp_iF (by decide) ?_
  by_cases z5 : v < 100000
  · refine qp_iF (fun q => absurd ((sb_nle (a := v) (b := 100000) hv (by omega)).mp q) (by omega)) ?_
    have e : sb_dg v = 5 := by
      unfold sb_dg
      rw [if_neg z1, if_neg z2, if_neg z3, if_neg z4, if_pos z5]
    rw [e] at k
    exact k
  refine qp_iT ((sb_nle (a := v) (b := 100000) hv (by omega)).mpr (by omega)) ?_
  rw [show (10 : Int32) * (-100000 : Int32) = (-1000000 : Int32) from by decide, show (5 : Int32) + (1 : Int32) = (6 : Int32) from by decide]
  rw [show 999990 + 5 = (999990 + 4) + 1 from rfl, qu_sz]
  refine qp_iF (by decide) ?_
  by_cases z6 : v < 1000000
  · refine qp_iF (fun q => absurd ((sb_nle (a := v) (b := 1000000) hv (by omega)).mp q) (by omega)) ?_
    have e : sb_dg v = 6 := by
      unfold sb_dg
      rw [if_neg z1, if_neg z2, if_neg z3, if_neg z4, if_neg z5, if_pos z6]
    rw [e] at k
    exact k
  refine qp_iT ((sb_nle (a := v) (b := 1000000) hv (by omega)).mpr (by omega)) ?_
  rw [show (10 : Int32) * (-1000000 : Int32) = (-10000000 : Int32) from by decide, show (6 : Int32) + (1 : Int32) = (7 : Int32) from by decide]
  rw [show 999990 + 4 = (999990 + 3) + 1 from rfl, qu_sz]
  refine qp_iF (by decide) ?_
  by_cases z7 : v < 10000000
  · refine qp_iF (fun q => absurd ((sb_nle (a := v) (b := 10000000) hv (by omega)).mp q) (by omega)) ?_
    have e : sb_dg v = 7 := by
      unfold sb_dg
      rw [if_neg z1, if_neg z2, if_neg z3, if_neg z4, if_neg z5, if_neg z6, if_pos z7]
    rw [e] at k
    exact k
  refine qp_iT ((sb_nle (a := v) (b := 10000000) hv (by omega)).mpr (by omega)) ?_
  rw [show (10 : Int32) * (-10000000 : Int32) = (-100000000 : Int32) from by decide, show (7 : Int32) + (1 : Int32) = (8 : Int32) from by decide]
  rw [show 999990 + 3 = (999990 + 2) + 1 from rfl, qu_sz]
  refine qp_iF (by decide) ?_
  by_cases z8 : v < 100000000
  · refine qp_iF (fun q => absurd ((sb_nle (a := v) (b := 100000000) hv (by omega)).mp q) (by omega)) ?_
    have e : sb_dg v = 8 := by
      unfold sb_dg
      rw [if_neg z1, if_neg z2, if_neg z3, if_neg z4, if_neg z5, if_neg z6, if_neg z7, if_pos z8]
    rw [e] at k
    exact k
  refine qp_iT ((sb_nle (a := v) (b := 100000000) hv (by omega)).mpr (by omega)) ?_
  rw [show (10 : Int32) * (-100000000 : Int32) = (-1000000000 : Int32) from by decide, show (8 : Int32) + (1 : Int32) = (9 : Int32) from by decide]
  rw [show 999990 + 2 = (999990 + 1) + 1 from rfl, qu_sz]
  refine qp_iF (by decide) ?_
  by_cases z9 : v < 1000000000
  · refine qp_iF (fun q => absurd ((sb_nle (a := v) (b := 1000000000) hv (by omega)).mp q) (by omega)) ?_
    have e : sb_dg v = 9 := by
      unfold sb_dg
      rw [if_neg z1, if_neg z2, if_neg z3, if_neg z4, if_neg z5, if_neg z6, if_neg z7, if_neg z8, if_pos z9]
    rw [e] at k
    exact k
  refine qp_iT ((sb_nle (a := v) (b := 1000000000) hv (by omega)).mpr (by omega)) ?_
  rw [show (9 : Int32) + (1 : Int32) = (10 : Int32) from by decide]
  rw [show 999990 + 1 = 999990 + 1 from rfl, qu_sz]
  refine qp_iT (by decide) ?_
  have e : sb_dg v = 10 := by
    unfold sb_dg
    rw [if_neg z1, if_neg z2, if_neg z3, if_neg z4, if_neg z5, if_neg z6, if_neg z7, if_neg z8, if_neg z9]
  rw [e] at k
  exact k
theorem qu_dec100 {w : Nat} (h : 100 ≤ w) (hw : w < 2 ^ 31) : (∀ i, i < sb_dg (w / 100) → sb_dec w i = sb_dec (w / 100) i) ∧ sb_dec w (sb_dg (w / 100)) = 48 + w % 100 / 10 ∧ sb_dec w (sb_dg (w / 100) + 1) = 48 + w % 100 % 10 := by
  have e := sb_dg100 h hw
  refine ⟨fun i hi => ?_, ?_, ?_⟩
  · show 48 + w / 10 ^ (sb_dg w - 1 - i) % 10 = 48 + w / 100 / 10 ^ (sb_dg (w / 100) - 1 - i) % 10
    rw [e, Nat.div_div_eq_div_mul, show sb_dg (w / 100) + 2 - 1 - i = sb_dg (w / 100) - 1 - i + 2 by omega, Nat.pow_add, Nat.mul_comm]
  · show 48 + w / 10 ^ (sb_dg w - 1 - sb_dg (w / 100)) % 10 = _
    rw [e, show sb_dg (w / 100) + 2 - 1 - sb_dg (w / 100) = 1 by omega, Nat.pow_one]
    omega
  · show 48 + w / 10 ^ (sb_dg w - 1 - (sb_dg (w / 100) + 1)) % 10 = _
    rw [e, show sb_dg (w / 100) + 2 - 1 - (sb_dg (w / 100) + 1) = 0 by omega, Nat.pow_zero, Nat.div_one]
    omega
theorem qu_ones {w : Nat} : vp_nar .byte (ql_ones w) = nI (48 + w % 10) := qu_nb (by omega)
theorem qu_tens {w : Nat} (h : w < 100) : vp_nar .byte (ql_tens w) = nI (48 + w / 10) := qu_nb (by omega)
theorem qe_J6_get : ∀ (w : Nat), w < 2 ^ 31 → ∀ (fu : Nat) (f : Nat → Int32) (g : ql_H) (n0 : Nat) (Q : Int32 → ql_H → Prop), sb_dg w < 2 * fu + 1 → g.2 a = some (.inl (3, cap, .inl f)) → n0 + sb_dg w ≤ cap → cap ≤ 256 → sb_Fit f → (∀ g1 f1, g1.2 a = some (.inl (3, cap, .inl f1)) → g1.1 = g.1 → (∀ q, q ≠ a → g1.2 q = g.2 q) → sb_Fit f1 → (∀ j, j < n0 ∨ n0 + sb_dg w ≤ j → f1 j = f j) → (∀ i, i < sb_dg w → f1 (n0 + i) = nI (sb_dec w i)) → ∀ x, Q x g1) → qw_J6_getChars_ba4f3_22 σ Q fu (-nI w) (some a) (nI (n0 + sb_dg w)) 0 g := by
  intro w
  induction w using Nat.strongRecOn with
  | ind w ih =>
    intro hw fu f g n0 Q hf hg hc h256 hF k
    have d1 := sb_dg_in w
    obtain ⟨fu, rfl⟩ : ∃ z, fu = z + 1 := ⟨fu - 1, by omega⟩
    unfold qw_J6_getChars_ba4f3_22
    rw [Int32.neg_neg]
    by_cases z : w < 100
    · refine qp_iT ((sb_nlt (a := 100) (b := w) (by omega) hw).mpr z) ⟨vp_in_nI z (by omega), ?_⟩
      rw [sb_m1 (by omega), nI_clamp hw, qu_ones, qp_sI hg (by omega) (by omega)]
      by_cases y : w < 10
      · have e1 : sb_dg w = 1 := if_pos y
        refine qp_iT ((sb_nle (a := 9) (b := w) (by omega) hw).mpr (by omega)) ?_
        unfold qw_J6_getChars_ba4f3_104
        refine qp_iT rfl (k _ _ qp_up_s rfl (fun q hq => qp_up_n hq) (sb_fitU hF (qu_fb (by omega))) (fun j hj => ?_) (fun i hi => ?_) _)
        · exact pk_un (by omega)
        · have : i = 0 := by omega
          subst this
          rw [e1]
          show upd f (n0 + 1 - 1) (nI (48 + w % 10)) (n0 + 0) = _
          rw [show n0 + 1 - 1 = n0 + 0 by omega, pk_us]
          show _ = nI (48 + w / 10 ^ (sb_dg w - 1 - 0) % 10)
          rw [e1, Nat.pow_zero, Nat.div_one]
      · have e2 : sb_dg w = 2 := by
          unfold sb_dg
          rw [if_neg y, if_pos z]
        refine qp_iF (fun q => absurd ((sb_nle (a := 9) (b := w) (by omega) hw).mp q) (by omega)) ⟨vp_in_nI z (by omega), ?_⟩
        rw [sb_m1 (by omega), qu_tens z, qp_sI qp_up_s (by omega) (by omega)]
        unfold qw_J6_getChars_ba4f3_104
        refine qp_iT rfl ?_
        refine k _ (upd (upd f (n0 + sb_dg w - 1) (nI (48 + w % 10))) (n0 + sb_dg w - 1 - 1) (nI (48 + w / 10))) qp_up_s (by rfl) (fun q hq => (qp_up_n hq).trans (qp_up_n hq)) (sb_fitU (sb_fitU hF (qu_fb (by omega))) (qu_fb (by omega))) (fun j hj => ?_) (fun i hi => ?_) _
        · exact (pk_un (by omega)).trans (pk_un (by omega))
        · rw [e2]
          show upd (upd f (n0 + 2 - 1) (nI (48 + w % 10))) (n0 + 2 - 1 - 1) (nI (48 + w / 10)) (n0 + i) = nI (48 + w / 10 ^ (sb_dg w - 1 - i) % 10)
          rcases (show i = 0 ∨ i = 1 by omega) with e | e
          · subst e
            rw [show n0 + 2 - 1 - 1 = n0 + 0 by omega, pk_us, e2, Nat.pow_one]
            congr 2
            omega
          · subst e
            rw [pk_un (by omega), show n0 + 2 - 1 = n0 + 1 by omega, pk_us, e2, Nat.pow_zero, Nat.div_one]
    · have dg := sb_dg100 (w := w) (by omega) hw
      have dec := qu_dec100 (w := w) (by omega) hw
      have d3 := sb_dg_in (w / 100)
      refine qp_iF (fun q => absurd ((sb_nlt (a := 100) (b := w) (by omega) hw).mp q) (by omega)) ⟨by decide, ?_⟩
      rw [sb_ndiv hw, sb_nrem hw]
      have r100 : w % 100 < 100 := Nat.mod_lt _ (by decide)
      refine ⟨vp_in_nI r100 (by omega), ?_⟩
      rw [sb_m1 (by omega), nI_clamp (by omega), qu_ones, qp_sI hg (by omega) (by omega)]
      refine ⟨vp_in_nI r100 (by omega), ?_⟩
      rw [sb_m1 (by omega), qu_tens r100, qp_sI qp_up_s (by omega) (by omega)]
      rw [show n0 + sb_dg w - 1 - 1 = n0 + sb_dg (w / 100) by omega]
      refine ih (w / 100) (by omega) (by omega) fu _ _ n0 Q (by omega) qp_up_s (by omega) h256 (sb_fitU (sb_fitU hF (qu_fb (by omega))) (qu_fb (by omega))) fun g1 f1 a1 a2 a3 a4 a5 a6 x => ?_
      refine k g1 f1 a1 a2 (fun q hq => (a3 q hq).trans ((qp_up_n hq).trans (qp_up_n hq))) a4 (fun j hj => ?_) (fun i hi => ?_) x
      · exact (a5 j (by omega)).trans ((pk_un (by omega)).trans (pk_un (by omega)))
      · by_cases e0 : i < sb_dg (w / 100)
        · rw [a6 i e0, dec.1 i e0]
        · rcases (show i = sb_dg (w / 100) ∨ i = sb_dg (w / 100) + 1 by omega) with e | e
          · subst e
            rw [a5 _ (Or.inr (Nat.le_refl _)), pk_us, dec.2.1]
          · subst e
            rw [a5 _ (Or.inr (by omega)), pk_un (by omega), show n0 + (sb_dg (w / 100) + 1) = n0 + sb_dg w - 1 by omega, pk_us, dec.2.2]
/-- a number more -/
theorem qe_J4_appN (H : qu_at h u a cap l) (ha : u < h.1 ∧ a < h.1) {v : Nat} (hv : v < 2 ^ 31) (h60 : l.length ≤ 60) {Q : Option Nat → ql_H → Prop} (k : ∀ h1 a1 cap1, qu_at h1 u a1 cap1 (l ++ qn_l v) → qu_fr u a a1 h h1 → Q (some u) h1) : qw_J4_append_bf812 σ u (nI v) h Q := by
  obtain ⟨y, f, h1, h2, h3, h4, h5, h6, h7, h8⟩ := id H
  have d1 := sb_dg_in v
  unfold qw_J4_append_bf812
  rw [qp_rv h1]
  unfold qw_J5_append_c97b9
  rw [qp_gI (k := 3) h1 rfl]
  refine qe_J6_size hv ?_
  rw [qp_rv h1, nI_add]
  refine qe_J5_ensure H ha (by omega) (by omega) fun g ag capg G le fg => ?_
  rw [qu_rv G]
  refine qe_J5_lat G (qp_iF qp_1 ?_)
  obtain ⟨y2, f2, g1, g2, g3, g4, g5, g6, g7, g8⟩ := id G
  rw [qp_gR (k := 0) g1 rfl]
  unfold qw_J6_getChars_ba4f3
  refine qp_iT (nI_le (a := 0) (Nat.zero_le _) hv) ?_
  unfold qw_J6_getChars_ba4f3_12
  refine qp_iT rfl ?_
  refine qe_J6_get v hv ql_FU f2 g l.length _ (by unfold ql_FU; omega) g2 le (by omega) g8 fun gg fx x1 x2 x3 x4 x5 x6 x => ?_
  have xu : gg.2 u = some (.inr (1, [.ref ag, .int 0, .int y2, .int (nI l.length)])) := (x3 u g4).trans g1
  rw [qp_pV xu (by show 3 < 4; omega)]
  have len : (l ++ qn_l v).length = l.length + sb_dg v := by rw [List.length_append, qn_len]
  refine k _ ag capg ⟨y2, fx, ?_, (qp_up_n (fun q => g4 q.symm)).trans x1, fun j hj => ?_, g4, by omega, g6, fun c hc => ?_, x4⟩ (fg.tr ⟨Nat.le_of_eq x2.symm, fun q hq q1 q2 => (qp_up_n q1).trans (x3 q q2), Or.inl rfl, fun z => by show ag < gg.1; omega⟩ ha.2)
  · rw [len]
    exact qp_up_s
  · rcases Nat.lt_or_ge j l.length with z | z
    · rw [qt_gl (l := l ++ qn_l v) rfl hj z, x5 j (Or.inl z)]
      exact g3 j z
    · have ej : j = l.length + (j - l.length) := by omega
      have hj2 : j - l.length < sb_dg v := by omega
      have e1 : (l ++ qn_l v)[j] = sb_dec v (j - l.length) := by
        rw [List.getElem_append_right z]
        unfold qn_l
        rw [List.getElem_map, List.getElem_range]
      rw [e1]
      have := x6 (j - l.length) hj2
      rw [← ej] at this
      exact this
  · rcases List.mem_append.mp hc with z | z
    · exact h7 c z
    · have := qn_ch c z
      omega
end QSB
