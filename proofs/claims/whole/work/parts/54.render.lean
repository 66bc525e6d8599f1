/-! Decimal numbers; the reference's description of a clause. -/
section QKW
variable {h hh h1 : ql_H} {m N : Nat} {M MM M1 : qk_T} {out : List Nat} {L : qa_L} {S : qa_S}
theorem sb_dg10 {v : Nat} (h : 10 ≤ v) (hv : v < 2 ^ 31) : sb_dg v = sb_dg (v / 10) + 1 := by
  rw [sb_dg, sb_dg, if_neg (show ¬ v < 10 by omega)]
  by_cases h2 : v < 100
  · rw [if_pos h2, if_pos (show v / 10 < 10 by omega)]
  rw [if_neg h2, if_neg (show ¬ v / 10 < 10 by omega)]
  by_cases h3 : v < 1000
  · rw [if_pos h3, if_pos (show v / 10 < 100 by omega)]
  rw [if_neg h3, if_neg (show ¬ v / 10 < 100 by omega)]
  by_cases h4 : v < 10000
  · rw [if_pos h4, if_pos (show v / 10 < 1000 by omega)]
  rw [if_neg h4, if_neg (show ¬ v / 10 < 1000 by omega)]
  by_cases h5 : v < 100000
  · rw [if_pos h5, if_pos (show v / 10 < 10000 by omega)]
  rw [if_neg h5, if_neg (show ¬ v / 10 < 10000 by omega)]
  by_cases h6 : v < 1000000
  · rw [if_pos h6, if_pos (show v / 10 < 100000 by omega)]
  rw [if_neg h6, if_neg (show ¬ v / 10 < 100000 by omega)]
  by_cases h7 : v < 10000000
  · rw [if_pos h7, if_pos (show v / 10 < 1000000 by omega)]
  rw [if_neg h7, if_neg (show ¬ v / 10 < 1000000 by omega)]
  by_cases h8 : v < 100000000
  · rw [if_pos h8, if_pos (show v / 10 < 10000000 by omega)]
  rw [if_neg h8, if_neg (show ¬ v / 10 < 10000000 by omega)]
  by_cases h9 : v < 1000000000
  · rw [if_pos h9, if_pos (show v / 10 < 100000000 by omega)]
  rw [if_neg h9, if_neg (show ¬ v / 10 < 100000000 by omega)]
  rw [if_pos (show v / 10 < 1000000000 by omega)]
/-- v's decimal digits -/
def qn_l (v : Nat) : List Nat := (List.range (sb_dg v)).map (sb_dec v)
theorem qn_len (v : Nat) : (qn_l v).length = sb_dg v := by
  unfold qn_l
  rw [List.length_map, List.length_range]
theorem qn_1 {v : Nat} (h : v < 10) : qn_l v = [48 + v % 10] := by
  have e : sb_dg v = 1 := if_pos h
  unfold qn_l sb_dec
  rw [e]
  show [48 + v / 10 ^ 0 % 10] = _
  rw [Nat.pow_zero, Nat.div_one]
theorem qn_step {v : Nat} (h : 10 ≤ v) (hv : v < 2 ^ 31) : qn_l v = qn_l (v / 10) ++ [48 + v % 10] := by
  have e := sb_dg10 h hv
  unfold qn_l
  rw [e, List.range_succ, List.map_append]
  have a : (List.range (sb_dg (v / 10))).map (sb_dec v) = (List.range (sb_dg (v / 10))).map (sb_dec (v / 10)) := by
    refine List.map_congr_left fun i hi => ?_
    have hi := List.mem_range.mp hi
    show 48 + v / 10 ^ (sb_dg v - 1 - i) % 10 = 48 + v / 10 / 10 ^ (sb_dg (v / 10) - 1 - i) % 10
    rw [e, Nat.div_div_eq_div_mul, show sb_dg (v / 10) + 1 - 1 - i = sb_dg (v / 10) - 1 - i + 1 by omega, Nat.pow_succ, Nat.mul_comm]
  have b : [sb_dg (v / 10)].map (sb_dec v) = [48 + v % 10] := by
    show [48 + v / 10 ^ (sb_dg v - 1 - sb_dg (v / 10)) % 10] = _
    rw [e, Nat.add_sub_cancel, Nat.sub_self, Nat.pow_zero, Nat.div_one]
  rw [a, b]
theorem qn_ch {v : Nat} : ∀ c ∈ qn_l v, 48 ≤ c ∧ c < 58 := fun c hc => by
  obtain ⟨i, _, rfl⟩ := List.mem_map.mp hc
  have : v / 10 ^ (sb_dg v - 1 - i) % 10 < 10 := Nat.mod_lt _ (by decide)
  exact ⟨Nat.le_add_right 48 _, by show 48 + _ < 58; omega⟩
theorem qn_e {v : Nat} (h : v < 2 ^ 31) : (48 : Int32) + (nI v - nI v / (10 : Int32) * (10 : Int32)) = nI (48 + v % 10) := by
  have e := pk_rem (a := v) (d := 10) h (by decide) (by decide)
  show nI 48 + (nI v - nI v / nI 10 * nI 10) = _
  rw [e, nI_add]
/-- under way: written so far -/
def qk_wr (M M1 : qk_T) (out : List Nat) : Prop := (∀ i, i ≠ 13 → M1.1 i = M.1 i) ∧ (∀ j, j ≠ 12 → M1.2 j = M.2 j) ∧ M1.1 13 = nI out.length ∧ qk_arr (M1.2 12) out
theorem qe_X12_writes (H : qk_at h m MM) (W : qk_wr M MM out) (hl : out.length < 40) {c : Nat} (hc : c < 65536) {Q : ql_H → Prop} (k : ∀ h1 M1, qk_at h1 m M1 → qp_fr m (m + 10) h h1 → qk_wr M M1 (out ++ [c]) → Q h1) : qw_X12_writes m (nI c) h Q := by
  unfold qw_X12_writes
  rw [qk_rc H, qk_f H 13, W.2.2.1, pk_vc, pk_ch16 hc]
  refine qk_sc H hl fun h1 H1 f1 => ?_
  rw [qk_f H1 13, show (qk_sA MM 12 out.length (nI c)).1 13 = nI out.length from W.2.2.1, nI_1]
  refine qk_p H1 13 fun h2 H2 f2 => k h2 _ H2 (f1.tr f2) ⟨fun i hi => (qk_sI_n hi).trans (W.1 i hi), fun j hj => (show (qk_sA MM 12 out.length (nI c)).2 j = MM.2 j from qk_sAn hj).trans (W.2.1 j hj), ?_, ?_⟩
  · rw [qk_sI_s, List.length_append]
    rfl
  · show qk_arr ((qk_sA MM 12 out.length (nI c)).2 12) (out ++ [c])
    rw [qk_sAs]
    exact W.2.2.2.app c
theorem qe_X12_writesNumber_d0 {v : Nat} (H : qk_at h m MM) (W : qk_wr M MM out) (hv : v < 10 ^ 1) (h31 : v < 2 ^ 31) (hl : out.length + sb_dg v ≤ 40) {Q : ql_H → Prop} (k : ∀ h1 M1, qk_at h1 m M1 → qp_fr m (m + 10) h h1 → qk_wr M M1 (out ++ qn_l v) → Q h1) : qw_X12_writesNumber_d0 m (nI v) h Q := by
  unfold qw_X12_writesNumber_d0
  by_cases z : v < 10
  · refine qp_iT (nI_le (b := 9) (by omega) (by omega)) ?_
    unfold qw_X12_writesNumber_d0_14
    rw [qn_e h31, qk_rv H]
    have h1 := sb_dg_in v
    refine ⟨by decide, qe_X12_writes H W (by omega) (by omega) ?_⟩
    rw [qn_1 z] at k
    exact k
  · exact absurd hv (by omega)
theorem qe_X12_writesNumber_d1 {v : Nat} (H : qk_at h m MM) (W : qk_wr M MM out) (hv : v < 10 ^ 2) (h31 : v < 2 ^ 31) (hl : out.length + sb_dg v ≤ 40) {Q : ql_H → Prop} (k : ∀ h1 M1, qk_at h1 m M1 → qp_fr m (m + 10) h h1 → qk_wr M M1 (out ++ qn_l v) → Q h1) : qw_X12_writesNumber_d1 m (nI v) h Q := by
  unfold qw_X12_writesNumber_d1
  by_cases z : v < 10
  · refine qp_iT (nI_le (b := 9) (by omega) (by omega)) ?_
    unfold qw_X12_writesNumber_d1_14
    rw [qn_e h31, qk_rv H]
    have h1 := sb_dg_in v
    refine ⟨by decide, qe_X12_writes H W (by omega) (by omega) ?_⟩
    rw [qn_1 z] at k
    exact k
  · refine qp_iF (nI_ge (b := v) (a := 9) (by omega) h31) ⟨by decide, ?_⟩
    have e10 : nI v / (10 : Int32) = nI (v / 10) := pk_div (d := 10) h31 (by decide) (by decide)
    rw [e10, qk_rv H]
    have e11 := sb_dg10 (v := v) (by omega) h31
    refine qe_X12_writesNumber_d0 H W (Nat.div_lt_of_lt_mul (by omega)) (by omega) (by omega) fun h1 M1 H1 f1 W1 => ?_
    unfold qw_X12_writesNumber_d1_14
    rw [qn_e h31, qk_rv H1]
    refine ⟨by decide, qe_X12_writes H1 W1 (by rw [List.length_append, qn_len]; omega) (by omega) fun h2 M2 H2 f2 W2 => k h2 M2 H2 (f1.tr f2) ?_⟩
    rw [qn_step (by omega) h31, ← List.append_assoc]
    exact W2
theorem qe_X12_writesNumber_d2 {v : Nat} (H : qk_at h m MM) (W : qk_wr M MM out) (hv : v < 10 ^ 3) (h31 : v < 2 ^ 31) (hl : out.length + sb_dg v ≤ 40) {Q : ql_H → Prop} (k : ∀ h1 M1, qk_at h1 m M1 → qp_fr m (m + 10) h h1 → qk_wr M M1 (out ++ qn_l v) → Q h1) : qw_X12_writesNumber_d2 m (nI v) h Q := by
  unfold qw_X12_writesNumber_d2
  by_cases z : v < 10
  · refine qp_iT (nI_le (b := 9) (by omega) (by omega)) ?_
    unfold qw_X12_writesNumber_d2_14
    rw [qn_e h31, qk_rv H]
    have h1 := sb_dg_in v
    refine ⟨by decide, qe_X12_writes H W (by omega) (by omega) ?_⟩
    rw [qn_1 z] at k
    exact k
  · refine qp_iF (nI_ge (b := v) (a := 9) (by omega) h31) ⟨by decide, ?_⟩
    have e10 : nI v / (10 : Int32) = nI (v / 10) := pk_div (d := 10) h31 (by decide) (by decide)
    rw [e10, qk_rv H]
    have e11 := sb_dg10 (v := v) (by omega) h31
    refine qe_X12_writesNumber_d1 H W (Nat.div_lt_of_lt_mul (by omega)) (by omega) (by omega) fun h1 M1 H1 f1 W1 => ?_
    unfold qw_X12_writesNumber_d2_14
    rw [qn_e h31, qk_rv H1]
    refine ⟨by decide, qe_X12_writes H1 W1 (by rw [List.length_append, qn_len]; omega) (by omega) fun h2 M2 H2 f2 W2 => k h2 M2 H2 (f1.tr f2) ?_⟩
    rw [qn_step (by omega) h31, ← List.append_assoc]
    exact W2
theorem qe_X12_writesNumber_d3 {v : Nat} (H : qk_at h m MM) (W : qk_wr M MM out) (hv : v < 10 ^ 4) (h31 : v < 2 ^ 31) (hl : out.length + sb_dg v ≤ 40) {Q : ql_H → Prop} (k : ∀ h1 M1, qk_at h1 m M1 → qp_fr m (m + 10) h h1 → qk_wr M M1 (out ++ qn_l v) → Q h1) : qw_X12_writesNumber_d3 m (nI v) h Q := by
  unfold qw_X12_writesNumber_d3
  by_cases z : v < 10
  · refine qp_iT (nI_le (b := 9) (by omega) (by omega)) ?_
    unfold qw_X12_writesNumber_d3_14
    rw [qn_e h31, qk_rv H]
    have h1 := sb_dg_in v
    refine ⟨by decide, qe_X12_writes H W (by omega) (by omega) ?_⟩
    rw [qn_1 z] at k
    exact k
  · refine qp_iF (nI_ge (b := v) (a := 9) (by omega) h31) ⟨by decide, ?_⟩
    have e10 : nI v / (10 : Int32) = nI (v / 10) := pk_div (d := 10) h31 (by decide) (by decide)
    rw [e10, qk_rv H]
    have e11 := sb_dg10 (v := v) (by omega) h31
    refine qe_X12_writesNumber_d2 H W (Nat.div_lt_of_lt_mul (by omega)) (by omega) (by omega) fun h1 M1 H1 f1 W1 => ?_
    unfold qw_X12_writesNumber_d3_14
    rw [qn_e h31, qk_rv H1]
    refine ⟨by decide, qe_X12_writes H1 W1 (by rw [List.length_append, qn_len]; omega) (by omega) fun h2 M2 H2 f2 W2 => k h2 M2 H2 (f1.tr f2) ?_⟩
    rw [qn_step (by omega) h31, ← List.append_assoc]
    exact W2
theorem qe_X12_writesNumber_d4 {v : Nat} (H : qk_at h m MM) (W : qk_wr M MM out) (hv : v < 10 ^ 5) (h31 : v < 2 ^ 31) (hl : out.length + sb_dg v ≤ 40) {Q : ql_H → Prop} (k : ∀ h1 M1, qk_at h1 m M1 → qp_fr m (m + 10) h h1 → qk_wr M M1 (out ++ qn_l v) → Q h1) : qw_X12_writesNumber_d4 m (nI v) h Q := by
  unfold qw_X12_writesNumber_d4
  by_cases z : v < 10
  · refine qp_iT (nI_le (b := 9) (by omega) (by omega)) ?_
    unfold qw_X12_writesNumber_d4_14
    rw [qn_e h31, qk_rv H]
    have h1 := sb_dg_in v
    refine ⟨by decide, qe_X12_writes H W (by omega) (by omega) ?_⟩
    rw [qn_1 z] at k
    exact k
  · refine qp_iF (nI_ge (b := v) (a := 9) (by omega) h31) ⟨by decide, ?_⟩
    have e10 : nI v / (10 : Int32) = nI (v / 10) := pk_div (d := 10) h31 (by decide) (by decide)
    rw [e10, qk_rv H]
    have e11 := sb_dg10 (v := v) (by omega) h31
    refine qe_X12_writesNumber_d3 H W (Nat.div_lt_of_lt_mul (by omega)) (by omega) (by omega) fun h1 M1 H1 f1 W1 => ?_
    unfold qw_X12_writesNumber_d4_14
    rw [qn_e h31, qk_rv H1]
    refine ⟨by decide, qe_X12_writes H1 W1 (by rw [List.length_append, qn_len]; omega) (by omega) fun h2 M2 H2 f2 W2 => k h2 M2 H2 (f1.tr f2) ?_⟩
    rw [qn_step (by omega) h31, ← List.append_assoc]
    exact W2
theorem qe_X12_writesNumber_d5 {v : Nat} (H : qk_at h m MM) (W : qk_wr M MM out) (hv : v < 10 ^ 6) (h31 : v < 2 ^ 31) (hl : out.length + sb_dg v ≤ 40) {Q : ql_H → Prop} (k : ∀ h1 M1, qk_at h1 m M1 → qp_fr m (m + 10) h h1 → qk_wr M M1 (out ++ qn_l v) → Q h1) : qw_X12_writesNumber_d5 m (nI v) h Q := by
  unfold qw_X12_writesNumber_d5
  by_cases z : v < 10
  · refine qp_iT (nI_le (b := 9) (by omega) (by omega)) ?_
    unfold qw_X12_writesNumber_d5_14
    rw [qn_e h31, qk_rv H]
    have h1 := sb_dg_in v
    refine ⟨by decide, qe_X12_writes H W (by omega) (by omega) ?_⟩
    rw [qn_1 z] at k
    exact k
  · refine qp_iF (nI_ge (b := v) (a := 9) (by omega) h31) ⟨by decide, ?_⟩
    have e10 : nI v / (10 : Int32) = nI (v / 10) := pk_div (d := 10) h31 (by decide) (by decide)
    rw [e10, qk_rv H]
    have e11 := sb_dg10 (v := v) (by omega) h31
    refine qe_X12_writesNumber_d4 H W (Nat.div_lt_of_lt_mul (by omega)) (by omega) (by omega) fun h1 M1 H1 f1 W1 => ?_
    unfold qw_X12_writesNumber_d5_14
    rw [qn_e h31, qk_rv H1]
    refine ⟨by decide, qe_X12_writes H1 W1 (by rw [List.length_append, qn_len]; omega) (by omega) fun h2 M2 H2 f2 W2 => k h2 M2 H2 (f1.tr f2) ?_⟩
    rw [qn_step (by omega) h31, ← List.append_assoc]
    exact W2
theorem qe_X12_writesNumber_d6 {v : Nat} (H : qk_at h m MM) (W : qk_wr M MM out) (hv : v < 10 ^ 7) (h31 : v < 2 ^ 31) (hl : out.length + sb_dg v ≤ 40) {Q : ql_H → Prop} (k : ∀ h1 M1, qk_at h1 m M1 → qp_fr m (m + 10) h h1 → qk_wr M M1 (out ++ qn_l v) → Q h1) : qw_X12_writesNumber_d6 m (nI v) h Q := by
  unfold qw_X12_writesNumber_d6
  by_cases z : v < 10
  · refine qp_iT (nI_le (b := 9) (by omega) (by omega)) ?_
    unfold qw_X12_writesNumber_d6_14
    rw [qn_e h31, qk_rv H]
    have h1 := sb_dg_in v
    refine ⟨by decide, qe_X12_writes H W (by omega) (by omega) ?_⟩
    rw [qn_1 z] at k
    exact k
  · refine qp_iF (nI_ge (b := v) (a := 9) (by omega) h31) ⟨by decide, ?_⟩
    have e10 : nI v / (10 : Int32) = nI (v / 10) := pk_div (d := 10) h31 (by decide) (by decide)
    rw [e10, qk_rv H]
    have e11 := sb_dg10 (v := v) (by omega) h31
    refine qe_X12_writesNumber_d5 H W (Nat.div_lt_of_lt_mul (by omega)) (by omega) (by omega) fun h1 M1 H1 f1 W1 => ?_
    unfold qw_X12_writesNumber_d6_14
    rw [qn_e h31, qk_rv H1]
    refine ⟨by decide, qe_X12_writes H1 W1 (by rw [List.length_append, qn_len]; omega) (by omega) fun h2 M2 H2 f2 W2 => k h2 M2 H2 (f1.tr f2) ?_⟩
    rw [qn_step (by omega) h31, ← List.append_assoc]
    exact W2
theorem qe_X12_writesNumber_d7 {v : Nat} (H : qk_at h m MM) (W : qk_wr M MM out) (hv : v < 10 ^ 8) (h31 : v < 2 ^ 31) (hl : out.length + sb_dg v ≤ 40) {Q : ql_H → Prop} (k : ∀ h1 M1, qk_at h1 m M1 → qp_fr m (m + 10) h h1 → qk_wr M M1 (out ++ qn_l v) → Q h1) : qw_X12_writesNumber_d7 m (nI v) h Q := by
  unfold qw_X12_writesNumber_d7
  by_cases z : v < 10
  · refine qp_iT (nI_le (b := 9) (by omega) (by omega)) ?_
    unfold qw_X12_writesNumber_d7_14
    rw [qn_e h31, qk_rv H]
    have h1 := sb_dg_in v
    refine ⟨by decide, qe_X12_writes H W (by omega) (by omega) ?_⟩
    rw [qn_1 z] at k
    exact k
  · refine qp_iF (nI_ge (b := v) (a := 9) (by omega) h31) ⟨by decide, ?_⟩
    have e10 : nI v / (10 : Int32) = nI (v / 10) := pk_div (d := 10) h31 (by decide) (by decide)
    rw [e10, qk_rv H]
    have e11 := sb_dg10 (v := v) (by omega) h31
    refine qe_X12_writesNumber_d6 H W (Nat.div_lt_of_lt_mul (by omega)) (by omega) (by omega) fun h1 M1 H1 f1 W1 => ?_
    unfold qw_X12_writesNumber_d7_14
    rw [qn_e h31, qk_rv H1]
    refine ⟨by decide, qe_X12_writes H1 W1 (by rw [List.length_append, qn_len]; omega) (by omega) fun h2 M2 H2 f2 W2 => k h2 M2 H2 (f1.tr f2) ?_⟩
    rw [qn_step (by omega) h31, ← List.append_assoc]
    exact W2
theorem qe_X12_writesNumber_d8 {v : Nat} (H : qk_at h m MM) (W : qk_wr M MM out) (hv : v < 10 ^ 9) (h31 : v < 2 ^ 31) (hl : out.length + sb_dg v ≤ 40) {Q : ql_H → Prop} (k : ∀ h1 M1, qk_at h1 m M1 → qp_fr m (m + 10) h h1 → qk_wr M M1 (out ++ qn_l v) → Q h1) : qw_X12_writesNumber_d8 m (nI v) h Q := by
  unfold qw_X12_writesNumber_d8
  by_cases z : v < 10
  · refine qp_iT (nI_le (b := 9) (by omega) (by omega)) ?_
    unfold qw_X12_writesNumber_d8_14
    rw [qn_e h31, qk_rv H]
    have h1 := sb_dg_in v
    refine ⟨by decide, qe_X12_writes H W (by omega) (by omega) ?_⟩
    rw [qn_1 z] at k
    exact k
  · refine qp_iF (nI_ge (b := v) (a := 9) (by omega) h31) ⟨by decide, ?_⟩
    have e10 : nI v / (10 : Int32) = nI (v / 10) := pk_div (d := 10) h31 (by decide) (by decide)
    rw [e10, qk_rv H]
    have e11 := sb_dg10 (v := v) (by omega) h31
    refine qe_X12_writesNumber_d7 H W (Nat.div_lt_of_lt_mul (by omega)) (by omega) (by omega) fun h1 M1 H1 f1 W1 => ?_
    unfold qw_X12_writesNumber_d8_14
    rw [qn_e h31, qk_rv H1]
    refine ⟨by decide, qe_X12_writes H1 W1 (by rw [List.length_append, qn_len]; omega) (by omega) fun h2 M2 H2 f2 W2 => k h2 M2 H2 (f1.tr f2) ?_⟩
    rw [qn_step (by omega) h31, ← List.append_assoc]
    exact W2
theorem qe_X12_writesNumber_d9 {v : Nat} (H : qk_at h m MM) (W : qk_wr M MM out) (hv : v < 10 ^ 10) (h31 : v < 2 ^ 31) (hl : out.length + sb_dg v ≤ 40) {Q : ql_H → Prop} (k : ∀ h1 M1, qk_at h1 m M1 → qp_fr m (m + 10) h h1 → qk_wr M M1 (out ++ qn_l v) → Q h1) : qw_X12_writesNumber_d9 m (nI v) h Q := by
  unfold qw_X12_writesNumber_d9
  by_cases z : v < 10
  · refine qp_iT (nI_le (b := 9) (by omega) (by omega)) ?_
    unfold qw_X12_writesNumber_d9_14
    rw [qn_e h31, qk_rv H]
    have h1 := sb_dg_in v
    refine ⟨by decide, qe_X12_writes H W (by omega) (by omega) ?_⟩
    rw [qn_1 z] at k
    exact k
  · refine qp_iF (nI_ge (b := v) (a := 9) (by omega) h31) ⟨by decide, ?_⟩
    have e10 : nI v / (10 : Int32) = nI (v / 10) := pk_div (d := 10) h31 (by decide) (by decide)
    rw [e10, qk_rv H]
    have e11 := sb_dg10 (v := v) (by omega) h31
    refine qe_X12_writesNumber_d8 H W (Nat.div_lt_of_lt_mul (by omega)) (by omega) (by omega) fun h1 M1 H1 f1 W1 => ?_
    unfold qw_X12_writesNumber_d9_14
    rw [qn_e h31, qk_rv H1]
    refine ⟨by decide, qe_X12_writes H1 W1 (by rw [List.length_append, qn_len]; omega) (by omega) fun h2 M2 H2 f2 W2 => k h2 M2 H2 (f1.tr f2) ?_⟩
    rw [qn_step (by omega) h31, ← List.append_assoc]
    exact W2
/-- a clause described -/
def qm_pre (A : qa_C) : List Nat := qn_l (qa_sec A).toNatClampNeg ++ [58]
def qm_notes (t : List Nat) : List Nat := t.map fun a => 97 + a
def qm_end (A : qa_C) : List Nat := if qa_sun A = -1 then [] else 126 :: qn_l (qa_sun A).toNatClampNeg
def qm_text (L : qa_L) (A : qa_C) : List Nat := qm_pre A ++ qm_notes (qa_txt A) ++ qm_end A ++ (if qa_hold A (L.2.1 2) = true then [] else [33])
def qm_render (S : qa_S) (c : Int32) : Nat × Int32 × qa_S := match qa_find S.1.1 c with
  | none => (1, 0, S)
  | some A => (0, nI (qm_text S.1 A).length, S.1, S.2.1, S.2.2.1, S.2.2.2.1, S.2.2.2.2.1, S.2.2.2.2.2.1, qm_text S.1 A)
theorem qm_pre_len (A : qa_C) : (qm_pre A).length ≤ 11 := by
  have := sb_dg_in (qa_sec A).toNatClampNeg
  unfold qm_pre
  rw [List.length_append, qn_len]
  show _ + 1 ≤ 11
  omega
theorem qm_end_len (A : qa_C) : (qm_end A).length ≤ 11 := by
  have := sb_dg_in (qa_sun A).toNatClampNeg
  unfold qm_end
  split
  · exact Nat.zero_le _
  · rw [List.length_cons, qn_len]
    omega
theorem qm_text_len (L : qa_L) {A : qa_C} (h : (qa_txt A).length ≤ 12) : (qm_text L A).length ≤ 35 := by
  have a := qm_pre_len A
  have b := qm_end_len A
  unfold qm_text qm_notes
  rw [List.length_append, List.length_append, List.length_append, List.length_map]
  split
  · show _ + 0 ≤ 35
    omega
  · show _ + 1 ≤ 35
    omega
theorem qm_text_ch (L : qa_L) {A : qa_C} (h : ∀ a ∈ qa_txt A, a < 7) : ∀ c ∈ qm_text L A, c < 128 := fun c hc => by
  unfold qm_text qm_pre qm_notes qm_end at hc
  rcases List.mem_append.mp hc with hc | hc
  · rcases List.mem_append.mp hc with hc | hc
    · rcases List.mem_append.mp hc with hc | hc
      · rcases List.mem_append.mp hc with hc | hc
        · have := qn_ch c hc
          omega
        · obtain rfl := List.mem_singleton.mp hc
          decide
      · obtain ⟨a, ha, rfl⟩ := List.mem_map.mp hc
        have := h a ha
        show 97 + a < 128
        omega
    · split at hc
      · exact absurd hc List.not_mem_nil
      · rcases List.mem_cons.mp hc with hc | hc
        · omega
        · have := qn_ch c hc
          omega
  · split at hc
    · exact absurd hc List.not_mem_nil
    · obtain rfl := List.mem_singleton.mp hc
      decide
theorem qe_X12_renderClause (H : qk_at h m M) (A : qk_all M S) (w : qa_w S.1 N) (hN : N < 2 ^ 20) {c : Int32} {Q : Int32 → ql_H → Prop} (k : ∀ h1 M1 x, qk_at h1 m M1 → qp_fr m (m + 10) h h1 → qk_pm M1 (qm_render S c) x → Q x h1) : qw_X12_renderClause m c h Q := by
  obtain ⟨⟨a1, a2, a3, a4⟩, b, cc, d⟩ := id A
  have n16 := a1.1.1
  unfold qw_X12_renderClause
  rw [qk_rv H]
  refine qe_X12_isNone H a1 (fun h1 H1 f1 i hi ei fi => qp_iT rfl ?_) fun h1 H1 f1 e => qp_iF qp_1 (k h1 _ _ H1 f1 ?_)
  rotate_left
  · have eq : qm_render S c = (1, 0, S) := by
      unfold qm_render
      rw [e]
    rw [eq]
    exact ⟨qk_sI_s, fun q => (by cases q), A.code _⟩
  rw [qk_rv H1]
  have a1' : qk_G ((qk_sI M 7 0).2 0) S.1 := a1
  refine qe_X12_placeOf H1 a1' (fun i2 hi2 ei2 fi2 => ?_) fun e => (by rw [e] at fi; cases fi)
  have fi3 := fi2
  generalize hA : S.1.1[i2] = D at fi3 ei2
  have hD : D ∈ S.1.1 := hA ▸ List.getElem_mem hi2
  obtain ⟨s, s1, s99, es⟩ := w.1.2.1.2 D hD
  have sok := w.sunok hN D hD
  have t12 : (qa_txt D).length ≤ 12 := qk_t12 a1 D hD
  have eq : qm_render S c = (0, nI (qm_text S.1 D).length, S.1, S.2.1, S.2.2.1, S.2.2.2.1, S.2.2.2.2.1, S.2.2.2.2.2.1, qm_text S.1 D) := by
    unfold qm_render
    rw [fi3]
  rw [eq] at k
  have eL : (qm_text S.1 D).length ≤ 35 := qm_text_len S.1 t12
  have eP := qm_pre_len D
  have eE := qm_end_len D
  refine qk_p H1 13 fun h2 H2 f2 => ?_
  have base : qk_wr (qk_sI (qk_sI M 7 0) 13 0) (qk_sI (qk_sI M 7 0) 13 0) [] := ⟨fun _ _ => rfl, fun _ _ => rfl, rfl, fun j hj => absurd hj (Nat.not_lt_zero j)⟩
  generalize hMB : qk_sI (qk_sI M 7 0) 13 0 = MB at base H2
  have b0 : ∀ j, MB.2 j = M.2 j := fun j => by rw [← hMB]; rfl
  have b1 : ∀ i, i ≠ 7 → i ≠ 13 → MB.1 i = M.1 i := fun i i7 i13 => by rw [← hMB]; exact (qk_sI_n i13).trans (qk_sI_n i7)
  have b7 : MB.1 7 = 0 := by rw [← hMB]; rfl
  rw [qk_rv H2]
  have hcl := qk_cl (M := MB) (L := S.1) (by rw [b0]; exact a1) hi2
  rw [hA] at hcl
  refine qe_X12_of H2 (w := 1) (by omega) (by omega) ?_
  rw [show MB.2 0 (13 + 42 * i2 + 1) = nI s from hcl.1.2.1.trans es, qk_rv H2]
  have dgs := sb_dg_in s
  have epre : qm_pre D = qn_l s ++ [58] := by
    unfold qm_pre
    rw [es, nI_clamp (by omega)]
  refine qe_X12_writesNumber_d9 H2 base (by omega) (by omega) (by show 0 + sb_dg s ≤ 40; omega) fun h3 M3 H3 f3 W3 => ?_
  rw [qk_rv H3]
  refine qe_X12_writes H3 W3 (c := 58) (by rw [List.nil_append, qn_len]; omega) (by omega) fun h4 M4 H4 f4 W4 => ?_
  rw [List.nil_append, ← epre] at W4
  have fr4 := f1.tr (f2.tr (f3.tr f4))
  /- the end -/
  have fin : ∀ hh MM, qk_at hh m MM → qp_fr m (m + 10) h hh → qk_wr MB MM (qm_pre D ++ qm_notes (qa_txt D) ++ qm_end D) → qw_X12_renderClause_94 m Q (nI i2) hh := by
    intro hh MM HH ff W
    have G : qk_G (MM.2 0) S.1 := by
      rw [W.2.1 0 (by decide), b0]
      exact a1
    have last : ∀ hx MX, qk_at hx m MX → qp_fr m (m + 10) h hx → qk_wr MB MX (qm_text S.1 D) → qw_X12_renderClause_114 m Q hx := by
      intro hx MX HX fx WX
      unfold qw_X12_renderClause_114
      rw [qk_f HX 13, WX.2.2.1]
      have n1 : ∀ i, i ≠ 7 → i ≠ 13 → MX.1 i = M.1 i := fun i i7 i13 => (WX.1 i i13).trans (b1 i i7 i13)
      have n2 : ∀ j, j ≠ 12 → MX.2 j = M.2 j := fun j hj => (WX.2.1 j hj).trans (b0 j)
      refine k hx MX _ HX fx ⟨(WX.1 7 (by decide)).trans b7, fun _ => rfl, ⟨by rw [n2 0 (by decide)]; exact a1, a2.eq (n1 5 (by decide) (by decide)) (n2 1 (by decide)), a3.eq (n1 4 (by decide) (by decide)) (n2 2 (by decide)), (n1 6 (by decide) (by decide)).trans a4⟩, ⟨b.1, (n1 9 (by decide) (by decide)).trans b.2.1, by rw [n2 8 (by decide)]; exact b.2.2⟩, ⟨(n1 10 (by decide) (by decide)).trans cc.1, (n1 11 (by decide) (by decide)).trans cc.2⟩, ?_, WX.2.2.1, WX.2.2.2⟩
      show (qm_text S.1 D).length ≤ 40
      omega
    unfold qw_X12_renderClause_94
    rw [qk_rg HH, qk_lgx HH 2 2, show MM.2 0 2 = S.1.2.1 2 from G.1.2.2.2.1, qk_rv HH]
    refine qe_X12_isValid HH G hi2 (by rw [hA]; exact sok) ?_
    rw [hA]
    by_cases y : qa_hold D (S.1.2.1 2) = true
    · rw [y]
      refine qp_iF qp_1 (last hh MM HH ff ?_)
      unfold qm_text
      rw [if_pos y, List.append_nil]
      exact W
    · rw [Bool.eq_false_iff.mpr y]
      refine qp_iT rfl ?_
      rw [qk_rv HH]
      refine qe_X12_writes HH W (c := 33) ?_ (by omega) fun hx MX HX fx WX => last hx MX HX (ff.tr fx) ?_
      · unfold qm_text at eL
        rw [if_neg y, List.length_append] at eL
        have : ([33] : List Nat).length = 1 := rfl
        omega
      · unfold qm_text
        rw [if_neg y]
        exact WX
  obtain ⟨v, hv, v8, tok, tne⟩ := qk_vs1 hcl
  have etx := qa_txt_get (A := D) hv
  have hL : ∀ cn j fu hh MM, j + cn = (qa_txt D).length → cn < fu → qk_at hh m MM → qp_fr m (m + 10) h hh → qk_wr MB MM (qm_pre D ++ qm_notes ((qa_txt D).take j)) → qw_X12_renderClause_39 m Q fu (nI i2) (nI j) hh := by
    intro cn
    induction cn with
    | zero =>
      intro j fu hh MM hj hf HH ff W
      obtain ⟨fu, rfl⟩ : ∃ z, fu = z + 1 := ⟨fu - 1, by omega⟩
      have G : qk_G (MM.2 0) S.1 := by
        rw [W.2.1 0 (by decide), b0]
        exact a1
      rw [List.take_of_length_le (by omega)] at W
      unfold qw_X12_renderClause_39
      rw [qk_rv HH]
      refine qe_X12_long0 HH G hi2 ?_
      rw [hA]
      refine qp_iT (nI_le (by omega) (by omega)) ?_
      rw [qk_rv HH]
      refine qe_X12_of HH (w := 3) (by omega) (by omega) ?_
      have es3 : MM.2 0 (13 + 42 * i2 + 3) = qa_sun D := by
        rw [W.2.1 0 (by decide)]
        exact hcl.1.2.2.2
      rw [es3]
      rcases (w.1.2.2 D hD).1.2 with y | ⟨u, hu, y⟩
      · refine qp_iT (by rw [y]; decide) (fin hh MM HH ff ?_)
        unfold qm_end
        rw [if_pos y, List.append_nil]
        exact W
      · have y1 : qa_sun D ≠ -1 := by
          rw [y]
          exact qp_nI_m1 (by omega)
        refine qp_iF (by rw [y]; exact nI_pos (by omega)) ?_
        have eend : qm_end D = 126 :: qn_l u := by
          unfold qm_end
          rw [if_neg y1, y, nI_clamp (by omega)]
        have dgu := sb_dg_in u
        rw [qk_rv HH]
        refine qe_X12_writes HH W (c := 126) ?_ (by omega) fun h5 M5 H5 f5 W5 => ?_
        · unfold qm_notes
          rw [List.length_append, List.length_map]
          omega
        rw [qk_rv H5]
        refine qe_X12_of H5 (w := 3) (by omega) (by omega) ?_
        have es5 : M5.2 0 (13 + 42 * i2 + 3) = nI u := by
          rw [W5.2.1 0 (by decide)]
          exact hcl.1.2.2.2.trans y
        rw [es5, qk_rv H5]
        refine qe_X12_writesNumber_d9 H5 W5 (by omega) (by omega) ?_ fun h6 M6 H6 f6 W6 => fin h6 M6 H6 (ff.tr (f5.tr f6)) ?_
        · unfold qm_notes
          rw [List.length_append, List.length_append, List.length_map]
          have : ([126] : List Nat).length = 1 := rfl
          omega
        · rw [eend]
          rw [List.append_assoc] at W6
          exact W6
    | succ cn ih =>
      intro j fu hh MM hj hf HH ff W
      obtain ⟨fu, rfl⟩ : ∃ z, fu = z + 1 := ⟨fu - 1, by omega⟩
      have G : qk_G (MM.2 0) S.1 := by
        rw [W.2.1 0 (by decide), b0]
        exact a1
      have hj2 : j < (qa_txt D).length := by omega
      unfold qw_X12_renderClause_39
      rw [qk_rv HH]
      refine qe_X12_long0 HH G hi2 ?_
      rw [hA]
      refine qp_iF (nI_ge hj2 (by omega)) ?_
      rw [qk_rv HH]
      have hcl2 := qk_cl G hi2
      rw [hA] at hcl2
      refine qe_X12_lastVersion HH (v := v) (by omega) (by rw [← hv]; exact hcl2.2.1.1) ?_
      rw [qk_rv HH]
      have hvl : v < (qa_vs S.1.1[i2]).length := by
        rw [hA]
        omega
      have a7 : (qa_txt D)[j] < 7 := tok.1 _ (List.getElem_mem hj2)
      refine qe_X12_note HH (by omega) (by omega) (by omega) (a := (qa_txt D)[j]) ?_ ?_
      · have hj3 : j < ((qa_vs S.1.1[i2])[v]).2.length := by
          have := hj2
          rw [etx] at this
          simpa only [hA] using this
        have := qk_vn G hi2 hvl hj3
        rw [this]
        congr 1
        simp only [hA, etx]
      rw [qk_rv HH]
      refine qe_X12_writes HH W ?_ (by omega) fun h5 M5 H5 f5 W5 => ?_
      · unfold qm_notes
        rw [List.length_append, List.length_map, List.length_take]
        omega
      rw [nI_1]
      refine ih (j + 1) fu h5 M5 (by omega) (by omega) H5 (ff.tr f5) ?_
      rw [List.append_assoc] at W5
      have e5 : qm_notes ((qa_txt D).take (j + 1)) = qm_notes ((qa_txt D).take j) ++ [97 + (qa_txt D)[j]] := by
        unfold qm_notes
        rw [List.take_succ_eq_append_getElem hj2, List.map_append]
        rfl
      rw [e5]
      exact W5
  refine hL (qa_txt D).length 0 ql_FU h4 M4 (Nat.zero_add _) (by unfold ql_FU; omega) H4 fr4 ?_
  rw [List.take_zero]
  show qk_wr MB M4 (qm_pre D ++ [])
  rw [List.append_nil]
  exact W4
end QKW
