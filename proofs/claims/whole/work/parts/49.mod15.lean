/-! Constant Strings; the reference's reading: a character, a word, a number, a note. -/
section QKP
variable {h h1 : ql_H} {m : Nat} {M M1 : qk_T} {l : List Nat} {σ : Nat → Nat} {p : Nat}
/-- the constant Strings' characters -/
def qz_sw : List (List Nat) := [[100, 100], [117, 116], [110, 115, 101, 116], [101, 116], [116], [105, 116, 101], [110, 99, 105, 116, 101], [101, 112, 101, 97, 108], [100, 105, 116], [97, 105, 116], [97, 100, 100, 32], [49, 32, 110], [112, 117, 116, 32], [49, 32, 50, 110], [115, 101, 116, 32], [99, 117, 116, 32], [49, 32, 50], [115, 117, 110, 115, 101, 116, 32], [99, 105, 116, 101, 32], [117, 110, 99, 105, 116, 101, 32], [114, 101, 112, 101, 97, 108, 32], [49], [101, 100, 105, 116], [], [119, 97, 105, 116, 32]]
def qz_s (k : Nat) : List Nat := qz_sw.getD k []
theorem qz_s_len : ∀ k, k < 25 → ql_sl k = (qz_s k).length := by decide +kernel
theorem qz_s_ch : ∀ k, k < 25 → ∀ j, j < (qz_s k).length → (((ql_sb k j) &&& (255 : Int32)).toUInt32 % 65536).toInt32 = nI ((qz_s k).getD j 0) ∧ (qz_s k).getD j 0 < 256 := by decide +kernel
theorem qz_s_sh : ∀ k, k < 25 → (nI (ql_sl k)) >>> ((0 : Int32) &&& 31) = nI (ql_sl k) ∧ (qz_s k).length < 8 := by decide +kernel
theorem qe_J0_length {k : Nat} (hk : k < 25) {Q : Int32 → ql_H → Prop} (K : Q (nI (qz_s k).length) h) : qw_J0_length_8abf5 σ (σ (200 + k)) h Q := by
  unfold qw_J0_length_8abf5
  refine ⟨k, hk, rfl, k, hk, rfl, k, hk, rfl, ?_⟩
  unfold qw_J0_coder_7d493
  refine qp_iF qp_1 ⟨k, hk, rfl, rfl, ?_⟩
  show Q (nI (ql_sl k) >>> ((0 : Int32) &&& 31)) h
  rw [(qz_s_sh k hk).1, qz_s_len k hk]
  exact K
theorem qe_J0_charAt {k j : Nat} (hk : k < 25) (hj : j < (qz_s k).length) {Q : Int32 → ql_H → Prop} (K : Q (nI ((qz_s k).getD j 0)) h) : qw_J0_charAt_5068e σ (σ (200 + k)) (nI j) h Q := by
  have h8 := (qz_s_sh k hk).2
  unfold qw_J0_charAt_5068e
  refine ⟨k, hk, rfl, ?_⟩
  unfold qw_J0_isLatin1_aae02
  refine qp_iF qp_1 ⟨k, hk, rfl, qp_iT rfl ⟨ql_nz1, qp_iF qp_1 ⟨k, hk, rfl, ?_⟩⟩⟩
  unfold qw_J1_charAt_3b067 qw_J0_checkIndex_df160
  refine ⟨k, hk, rfl, fun r1 => ?_⟩
  unfold qw_J3_checkIndex_8e157
  refine qp_iF (fun z => absurd z (Int32.not_lt.mpr (nI_le (a := 0) (Nat.zero_le _) (by omega)))) (qp_iT ((nI_ltI (by omega) (by rw [qz_s_len k hk]; omega)).mpr (by rw [qz_s_len k hk]; exact hj)) ?_)
  refine ⟨k, hk, rfl, vp_in_nI (by rw [qz_s_len k hk]; exact hj) (by rw [qz_s_len k hk]; omega), ?_⟩
  rw [nI_clamp (by omega), (qz_s_ch k hk j hj).1]
  exact ⟨(pk_charN (by have := (qz_s_ch k hk j hj).2; omega)).1, (pk_charN (by have := (qz_s_ch k hk j hj).2; omega)).1, K⟩
/-- what is typed -/
def qk_ty (M : qk_T) (l : List Nat) : Prop := l.length ≤ 60 ∧ M.1 9 = nI l.length ∧ qk_arr (M.2 8) l ∧ ∀ c ∈ l, c < 65536
/-- but for the place and the words told -/
def qk_pz (M M1 : qk_T) (q : Nat) : Prop := M1.1 16 = nI q ∧ (∀ i, i ≠ 16 → M1.1 i = M.1 i) ∧ ∀ k, k ≠ 17 → M1.2 k = M.2 k
theorem qk_ty.of (T : qk_ty M l) {q : Nat} (e : qk_pz M M1 q) : qk_ty M1 l :=
  ⟨T.1, (e.2.1 9 (by decide)).trans T.2.1, by rw [e.2.2 8 (by decide)]; exact T.2.2.1, T.2.2.2⟩
theorem qk_pz.tr {M2 : qk_T} {q r : Nat} (a : qk_pz M M1 q) (b : qk_pz M1 M2 r) : qk_pz M M2 r :=
  ⟨b.1, fun i hi => (b.2.1 i hi).trans (a.2.1 i hi), fun k hk => (b.2.2 k hk).trans (a.2.2 k hk)⟩
theorem qk_pz.rf (e : M.1 16 = nI p) : qk_pz M M p := ⟨e, fun _ _ => rfl, fun _ _ => rfl⟩
theorem qk_pz.at (q : Nat) : qk_pz M (qk_sI M 16 (nI q)) q := ⟨qk_sI_s, fun _ hi => qk_sI_n hi, fun _ _ => rfl⟩
theorem qk_pz.tell (e : M.1 16 = nI p) {j : Nat} {x : Int32} : qk_pz M (qk_sA M 17 j x) p := ⟨e, fun _ _ => rfl, fun _ hk => qk_sAn hk⟩
theorem qe_X12_here (H : qk_at h m M) (T : qk_ty M l) (e : M.1 16 = nI p) (hp : p ≤ l.length) {Q : Int32 → ql_H → Prop} (k0 : p = l.length → Q (-1) h) (k : ∀ hl : p < l.length, Q (nI l[p]) h) : qw_X12_here m h Q := by
  have t1 := T.1
  unfold qw_X12_here
  rw [qk_f H 16, qk_f H 9, e, T.2.1]
  by_cases z : p = l.length
  · exact qp_iT (nI_le (by omega) (by omega)) (k0 z)
  · refine qp_iF (nI_ge (by omega) (by omega)) ?_
    rw [qk_ri H, qk_f H 16, e, qk_li H (by omega), T.2.2.1 p (by omega)]
    exact k (by omega)
theorem qz_is_some (hl : p < l.length) {c : Nat} : qz_is l p c = decide (l[p] = c) := by
  unfold qz_is
  rw [List.getElem?_eq_getElem hl]
  exact decide_eq_decide.mpr ⟨Option.some.inj, fun e => by rw [e]⟩
theorem qz_is_end {c : Nat} : qz_is l l.length c = false := by
  unfold qz_is
  rw [List.getElem?_eq_none (Nat.le_refl _)]
  rfl
theorem qz_in_some (hl : p < l.length) {a b : Nat} : qz_in l p a b = (decide (a ≤ l[p]) && decide (l[p] ≤ b)) := by
  unfold qz_in
  rw [List.getElem?_eq_getElem hl]
theorem qz_in_end {a b : Nat} : qz_in l l.length a b = false := by
  unfold qz_in
  rw [List.getElem?_eq_none (Nat.le_refl _)]
theorem qk_neg1 (c : Nat) (hc : c < 65536) : ¬ (-1 : Int32) = nI c := fun e => by
  have : nI c < 0 := by
    rw [← e]
    decide
  exact absurd this (Int32.not_lt.mpr (nI_le (a := 0) (Nat.zero_le _) (by omega)))
theorem qe_X12_skips (H : qk_at h m M) (T : qk_ty M l) (e : M.1 16 = nI p) (hp : p ≤ l.length) {c : Nat} (hc : c < 65536) {Q : Int32 → ql_H → Prop} (k0 : qz_is l p c = false → Q 0 h) (k : qz_is l p c = true → ∀ h1, qk_at h1 m (qk_sI M 16 (nI (p + 1))) → qp_fr m (m + 10) h h1 → Q 1 h1) : qw_X12_skips m (nI c) h Q := by
  have t1 := T.1
  unfold qw_X12_skips
  rw [qk_rv H]
  refine qe_X12_here H T e hp (fun z => ?_) fun hl => ?_
  · refine qp_iF (qk_neg1 c hc) ⟨ql_nz0, k0 ?_⟩
    rw [z]
    exact qz_is_end
  · have hcl := T.2.2.2 _ (List.getElem_mem hl)
    refine qp_if (fun z => ?_) fun z => ⟨ql_nz0, k0 ?_⟩
    · rw [qk_f H 16, e, nI_1 p]
      exact qk_p H 16 fun h1 H1 f1 => ⟨ql_nz1, k (by rw [qz_is_some hl, decide_eq_true ((nI_eq (by omega) (by omega)).mp z)]) h1 H1 f1⟩
    · rw [qz_is_some hl, decide_eq_false fun y => z (by rw [y])]
theorem nI_subN {a b : Nat} (hb : b ≤ a) : nI a - nI b = nI (a - b) := by
  have : nI a = nI (a - b) + nI b := by rw [nI_add, Nat.sub_add_cancel hb]
  rw [this, Int32.add_sub_cancel]
/-- a word, told first -/
theorem qe_X12_isWord (H : qk_at h m M) (T : qk_ty M l) (e : M.1 16 = nI p) (hp : p ≤ l.length) {n wh k : Nat} (hn : M.1 18 = nI n) (hn2 : n ≤ 12) (hk : k < 25) {Q : Int32 → ql_H → Prop} (K : ∀ h1 M1, qk_at h1 m M1 → qp_fr m (m + 10) h h1 → qk_pz M M1 (p + qz_cs l p (qz_s k)) → M1.2 17 = upd (M.2 17) (4 * n) (nI wh) → Q (qp_b (decide (qz_cs l p (qz_s k) = (qz_s k).length))) h1) : qw_X12_isWord σ m (nI wh) (some (σ (200 + k))) h Q := by
  have h8 := (qz_s_sh k hk).2
  unfold qw_X12_isWord
  rw [qk_rt H, qk_f H 18, hn, show (4 : Int32) = nI 4 from rfl, pk_mul]
  refine qk_st H (by omega) fun h1 H1 f1 => ?_
  have hL : ∀ f j hh MM, j ≤ (qz_s k).length → (qz_s k).length - j < f → qk_at hh m MM → qp_fr m (m + 10) h hh → qk_pz M MM (p + j) → MM.2 17 = upd (M.2 17) (4 * n) (nI wh) → p + j ≤ l.length → qz_cs l p (qz_s k) = j + qz_cs l (p + j) ((qz_s k).drop j) → qw_X12_isWord_14 σ m Q f (some (σ (200 + k))) (nI j) hh := by
    intro f
    induction f with
    | zero => intro j _ _ _ h; omega
    | succ f ih =>
      intro j hh MM hj hf HH ff P P17 pj ej
      unfold qw_X12_isWord_14
      refine ⟨k, hk, rfl, qe_J0_length hk ?_⟩
      by_cases z : j = (qz_s k).length
      · refine qp_iT (nI_le (by omega) (by omega)) ⟨ql_nz1, ?_⟩
        have e1 : qz_cs l p (qz_s k) = j := by
          rw [ej, List.drop_of_length_le (by omega)]
          rfl
        have := K hh MM HH ff (by rw [e1]; exact P) P17
        rw [decide_eq_true (by rw [e1]; exact z)] at this
        exact this
      · have hj2 : j < (qz_s k).length := by omega
        refine qp_iF (nI_ge hj2 (by omega)) ⟨k, hk, rfl, qe_J0_charAt hk hj2 ?_⟩
        rw [qk_rv HH]
        have e2 : (qz_s k).drop j = (qz_s k).getD j 0 :: (qz_s k).drop (j + 1) := by
          rw [List.getD_eq_getElem?_getD, List.getElem?_eq_getElem hj2]
          exact List.drop_eq_getElem_cons hj2
        refine qe_X12_skips HH (T.of P) P.1 pj (by have := (qz_s_ch k hk j hj2).2; omega) (fun y => qp_iT rfl ⟨ql_nz0, ?_⟩) fun y h2 H2 f2 => qp_iF qp_1 ?_
        · have e1 : qz_cs l p (qz_s k) = j := by
            rw [ej, e2, qz_cs_no y]
            rfl
          have := K hh MM HH ff (by rw [e1]; exact P) P17
          rw [decide_eq_false (by rw [e1]; omega)] at this
          exact this
        · rw [nI_1 j]
          refine ih (j + 1) h2 _ hj2 (by omega) H2 (ff.tr f2) (P.tr (qk_pz.at _)) P17 (qz_is_lt y) ?_
          rw [ej, e2, qz_cs_yes y, show p + j + 1 = p + (j + 1) by omega]
          omega
  exact hL ql_FU 0 h1 _ (Nat.zero_le _) (by unfold ql_FU; omega) H1 f1 (qk_pz.tell e) qk_sAs hp (by rw [Nat.zero_add]; rfl)
theorem qe_X12_inT (T : qk_ty M l) {c a b : Nat} (ha : a < 65536) (hb : b < 65536) (hc : c < 65536) {Q : Int32 → ql_H → Prop} (k : Q (qp_b (decide (a ≤ c) && decide (c ≤ b))) h) : qw_X12_in (nI c) (nI a) (nI b) h Q := by
  refine qe_X12_in ?_
  rw [decide_eq_decide.mpr (nI_leI (a := a) (b := c) (by omega) (by omega)), decide_eq_decide.mpr (nI_leI (a := c) (b := b) (by omega) (by omega))]
  exact k
theorem qe_X12_inE {a b : Nat} (ha : a < 65536) {Q : Int32 → ql_H → Prop} (k : Q 0 h) : qw_X12_in (-1) (nI a) (nI b) h Q := by
  refine qe_X12_in ?_
  have : ¬ nI a ≤ (-1 : Int32) := fun z => by
    have := Int32.le_trans (nI_le (a := 0) (Nat.zero_le a) (by omega)) z
    revert this
    decide
  rw [decide_eq_false this]
  exact k
theorem qe_X12_noteHere (H : qk_at h m M) (T : qk_ty M l) (e : M.1 16 = nI p) (hp : p ≤ l.length) {j : Nat} (hj : j < 124) {Q : Int32 → ql_H → Prop} (k0 : qz_in l p 97 103 = false → Q 0 h) (k : qz_in l p 97 103 = true → ∀ h1 M1, qk_at h1 m M1 → qp_fr m (m + 10) h h1 → qk_pz M M1 (p + 1) → M1.2 17 = upd (M.2 17) j (nI (l.getD p 0)) → Q 1 h1) : qw_X12_noteHere m (nI j) h Q := by
  have t1 := T.1
  unfold qw_X12_noteHere
  rw [qk_rv H]
  refine qe_X12_here H T e hp (fun z => ?_) fun hl => ?_
  · unfold qw_X12_isNote
    refine qe_X12_inE (a := 97) (b := 103) (by omega) ⟨ql_nz0, qp_iT rfl ⟨ql_nz0, k0 ?_⟩⟩
    rw [z]
    exact qz_in_end
  · have hcl := T.2.2.2 _ (List.getElem_mem hl)
    unfold qw_X12_isNote
    refine qe_X12_inT T (a := 97) (b := 103) (by omega) (by omega) hcl ⟨qp_bz _, ?_⟩
    rw [← qz_in_some hl]
    cases z : qz_in l p 97 103 with
    | false => exact qp_iT rfl ⟨ql_nz0, k0 z⟩
    | true =>
      refine qp_iF qp_1 ?_
      rw [qk_rt H, qk_rv H]
      refine qe_X12_here H T e hp (fun y => absurd y (by omega)) fun _ => ?_
      refine qk_st H hj fun h1 H1 f1 => ?_
      rw [qk_f H1 16, show (qk_sA M 17 j (nI l[p])).1 16 = nI p from e, nI_1 p]
      refine qk_p H1 16 fun h2 H2 f2 => ⟨ql_nz1, k z h2 _ H2 (f1.tr f2) ((qk_pz.tell e).tr (qk_pz.at _)) ?_⟩
      rw [List.getD_eq_getElem?_getD, List.getElem?_eq_getElem hl]
      exact qk_sAs (M := M) (k := 17) (i := j) (x := nI l[p])
theorem qe_X12_figures (H : qk_at h m M) (T : qk_ty M l) (e : M.1 16 = nI p) (hp : p ≤ l.length) {j : Nat} (hj : j < 124) {Q : Int32 → ql_H → Prop} (k0 : qz_is l p 32 = false → Q 0 h) (k : qz_is l p 32 = true → ∀ h1 M1, qk_at h1 m M1 → qp_fr m (m + 10) h h1 → qk_pz M M1 (qz_nm l 3 (p + 1) none).2 → (∀ i, i ≠ j → M1.2 17 i = M.2 17 i) → ((qz_nm l 3 (p + 1) none).1.isSome = true → M1.2 17 j = nI ((qz_nm l 3 (p + 1) none).1.getD 0)) → Q (qp_b (qz_nm l 3 (p + 1) none).1.isSome) h1) : qw_X12_figures m (nI j) h Q := by
  have t1 := T.1
  unfold qw_X12_figures
  rw [qk_rv H]
  refine qe_X12_skips H T e hp (c := 32) (by omega) (fun z => qp_iT rfl ⟨ql_nz0, k0 z⟩) fun z h1 H1 f1 => qp_iF qp_1 ?_
  have hp1 := qz_is_lt z
  have T1 : qk_ty (qk_sI M 16 (nI (p + 1))) l := T.of (qk_pz.at _)
  have nmS : ∀ d q (x : Option Nat), x.isSome = true → (qz_nm l d q x).1.isSome = true := by
    intro d
    induction d with
    | zero => exact fun q x hx => hx
    | succ d ih =>
      intro q x hx
      unfold qz_nm
      split
      · exact ih _ _ rfl
      · exact hx
  have hL : ∀ f d q v hh MM, d ≤ 3 → d < f → qk_at hh m MM → qp_fr m (m + 10) h hh → qk_pz M MM q → q ≤ l.length → (∀ i, i ≠ j → MM.2 17 i = M.2 17 i) → MM.2 17 j = nI v → (d = 3 → qz_in l q 48 57 = true ∧ v = 0) → (qz_nm l 3 (p + 1) none = qz_nm l d q (if d = 3 then none else some v)) → qw_X12_figures_34 m Q f (nI j) (nI (3 - d)) hh := by
    intro f
    induction f with
    | zero => intro d q v _ _ _ h; omega
    | succ f ih =>
      intro d q v hh MM hd hf HH ff P hq o17 v17 d3 en
      have fin : (d = 3 → False) → (qz_nm l d q (some v) = (some v, q)) → Q 1 hh := fun d3 y => by
        have en2 := en
        rw [if_neg (fun z => d3 z), y] at en2
        have := k z hh MM HH ff (by rw [en2]; exact P) o17 (fun _ => by rw [en2]; exact v17)
        rw [en2] at this
        exact this
      unfold qw_X12_figures_34
      by_cases y : d = 0
      · subst y
        exact qp_iT (nI_le (a := 3) (by omega) (by omega)) ⟨ql_nz1, fin (by omega) rfl⟩
      · refine qp_iF (nI_ge (a := 3 - d) (b := 3) (by omega) (by omega)) ?_
        obtain ⟨d, rfl⟩ : ∃ t, d = t + 1 := ⟨d - 1, by omega⟩
        rw [qk_rv HH]
        have TT := T.of P
        refine qe_X12_here HH TT P.1 hq (fun z2 => ?_) fun hl => ?_
        · refine qe_X12_inE (a := 48) (b := 57) (by omega) (qp_iT rfl ⟨ql_nz1, fin (fun w => ?_) ?_⟩)
          · have := (d3 w).1
            rw [z2, qz_in_end] at this
            cases this
          · unfold qz_nm
            rw [z2, qz_in_end]
            rfl
        · have hcl := T.2.2.2 _ (List.getElem_mem hl)
          refine qe_X12_inT T (a := 48) (b := 57) (by omega) (by omega) hcl ?_
          rw [← qz_in_some hl]
          cases w : qz_in l q 48 57 with
          | false =>
            refine qp_iT rfl ⟨ql_nz1, fin (fun w3 => ?_) ?_⟩
            · have := (d3 w3).1
              rw [w] at this
              cases this
            · unfold qz_nm
              rw [w]
              rfl
          | true =>
            refine qp_iF qp_1 ?_
            rw [qk_rt HH, qk_rt HH, qk_lt HH hj, qk_rv HH]
            refine qe_X12_here HH TT P.1 hq (fun y => absurd y (by omega)) fun _ => ?_
            have ge : 48 ≤ l[q] := by
              rw [qz_in_some hl] at w
              exact of_decide_eq_true (Bool.and_eq_true_iff.mp w).1
            have ev : (((10 : Int32) * MM.2 17 j) + nI l[q]) - (48 : Int32) = nI (10 * v + l[q] - 48) := by
              rw [v17, show (10 : Int32) = nI 10 from rfl, pk_mul, nI_add, show (48 : Int32) = nI 48 from rfl]
              exact nI_subN (by omega)
            rw [ev]
            refine qk_st HH hj fun h2 H2 f2 => ?_
            rw [qk_f H2 16, show (qk_sA MM 17 j (nI (10 * v + l[q] - 48))).1 16 = nI q from P.1, nI_1 q]
            refine qk_p H2 16 fun h3 H3 f3 => ?_
            rw [nI_1, show 3 - (d + 1) + 1 = 3 - d by omega]
            refine ih d (q + 1) (10 * v + l[q] - 48) h3 _ (by omega) (by omega) H3 (ff.tr (f2.tr f3)) (P.tr ((qk_pz.tell P.1).tr (qk_pz.at _))) hl (fun i hi => ?_) ?_ (fun w3 => by omega) ?_
            · show (qk_sA MM 17 j (nI (10 * v + l[q] - 48))).2 17 i = _
              rw [qk_sAs, pk_un hi]
              exact o17 i hi
            · show (qk_sA MM 17 j (nI (10 * v + l[q] - 48))).2 17 j = _
              rw [qk_sAs, pk_us]
            · rw [en, if_neg (show ¬ d = 3 by omega)]
              show (if qz_in l q 48 57 then qz_nm l d (q + 1) (some (10 * (if d + 1 = 3 then none else some v).getD 0 + l.getD q 0 - 48)) else _) = _
              rw [w, if_pos rfl, List.getD_eq_getElem?_getD, List.getElem?_eq_getElem hl]
              by_cases w3 : d + 1 = 3
              · rw [if_pos w3, (d3 w3).2]
                rfl
              · rw [if_neg w3]
                rfl
  rw [qk_rv H1]
  have no : qz_in l (p + 1) 48 57 = false → Q 0 h1 := fun w => by
    have en : qz_nm l 3 (p + 1) none = (none, p + 1) := by
      unfold qz_nm
      rw [w]
      rfl
    have := k z h1 _ H1 f1 (by rw [en]; exact qk_pz.at _) (fun i _ => rfl) (fun y => by rw [en] at y; cases y)
    rw [en] at this
    exact this
  refine qe_X12_here H1 T1 qk_sI_s hp1 (fun z2 => ?_) fun hl => ?_
  · refine qe_X12_inE (a := 48) (b := 57) (by omega) (qp_iT rfl ⟨ql_nz0, no ?_⟩)
    rw [z2]
    exact qz_in_end
  · have hcl := T.2.2.2 _ (List.getElem_mem hl)
    refine qe_X12_inT T (a := 48) (b := 57) (by omega) (by omega) hcl ?_
    rw [← qz_in_some hl]
    cases w : qz_in l (p + 1) 48 57 with
    | false => exact qp_iT rfl ⟨ql_nz0, no w⟩
    | true =>
      refine qp_iF qp_1 ?_
      rw [qk_rt H1]
      refine qk_st H1 hj fun h2 H2 f2 => ?_
      refine hL ql_FU 3 (p + 1) 0 h2 _ (Nat.le_refl _) (by unfold ql_FU; omega) H2 (f1.tr f2) ((qk_pz.at (p + 1)).tr (qk_pz.tell qk_sI_s)) hp1 (fun i hi => ?_) ?_ (fun _ => ⟨w, rfl⟩) rfl
      · rw [qk_sAs, pk_un hi]
        rfl
      · rw [qk_sAs, pk_us]
        rfl
end QKP
