/-! What the reference answers when asked. -/
section QKA
variable {h h1 : ql_H} {m : Nat} {M : qk_T} {L : qa_L}
def qk_pq (M M1 : qk_T) (a : Nat × Int32) (x : Int32) : Prop := M1.1 7 = nI a.1 ∧ (∀ j, j ≠ 7 → M1.1 j = M.1 j) ∧ (∀ j, j ≠ 15 → M1.2 j = M.2 j) ∧ (a.1 = 0 → x = a.2)
theorem qk_pq.mk {a : Nat × Int32} {n : Nat} {x : Int32} (hn : a.1 = n) (h : a.1 = 0 → x = a.2) : qk_pq M (qk_sI M 7 (nI n)) a x :=
  ⟨by rw [hn]; exact qk_sI_s, fun j hj => qk_sI_n hj, fun _ _ => rfl, h⟩
theorem qe_np (H : qk_at h m M) (R : qk_G (M.2 0) L) {c : Int32} {B : Int32 → ql_H → Prop} {E : ql_H → Prop} (k : ∀ h1, qk_at h1 m (qk_sI M 7 0) → qp_fr m (m + 10) h h1 → ∀ i (hi : i < L.1.length), qa_find L.1 c = some L.1[i] → B (nI i) h1) (k0 : ∀ h1, qk_at h1 m (qk_sI M 7 1) → qp_fr m (m + 10) h h1 → qa_find L.1 c = none → E h1) : ql_rv h (some m) 13 fun b1 => qw_X12_isNone b1 c h (fun x1 h => if x1 = 0 then (ql_rv h (some m) 13 fun b3 => qw_X12_placeOf b3 c h B) else E h) := by
  rw [qk_rv H]
  refine qe_X12_isNone H R (fun h1 H1 f1 i hi e f => ?_) (fun h1 H1 f1 e => ?_)
  · refine qp_iT rfl ?_
    rw [qk_rv H1]
    exact qe_X12_placeOf H1 (L := L) R (fun i2 hi2 e2 f2 => k h1 H1 f1 i2 hi2 f2) (fun e2 => by rw [f] at e2; cases e2)
  · exact qp_iF qp_1 (k0 h1 H1 f1 e)
theorem qe_X12_section (H : qk_at h m M) (R : qk_G (M.2 0) L) {c : Int32} {Q : Int32 → ql_H → Prop} (k : ∀ h1 M1 x, qk_at h1 m M1 → qp_fr m (m + 10) h h1 → qk_pq M M1 (qq_of L c qa_sec) x → Q x h1) : qw_X12_section m c h Q := by
  have n16 := R.1.1
  unfold qw_X12_section
  refine qe_np H R (fun h1 H1 f1 i hi f => ?_) (fun h1 H1 f1 f => ?_)
  · rw [qk_rv H1]
    refine qe_X12_of H1 (w := 1) (by omega) (by omega) (k h1 _ _ H1 f1 ?_)
    unfold qq_of
    rw [qa_ans_s f]
    exact qk_pq.mk rfl fun _ => (qk_cl R hi).1.2.1
  · refine k h1 _ _ H1 f1 ?_
    unfold qq_of
    rw [qa_ans_n f]
    exact qk_pq.mk rfl fun z => by cases z
theorem qe_X12_enactedOn (H : qk_at h m M) (R : qk_G (M.2 0) L) {c : Int32} {Q : Int32 → ql_H → Prop} (k : ∀ h1 M1 x, qk_at h1 m M1 → qp_fr m (m + 10) h h1 → qk_pq M M1 (qq_of L c qa_beg) x → Q x h1) : qw_X12_enactedOn m c h Q := by
  have n16 := R.1.1
  unfold qw_X12_enactedOn
  refine qe_np H R (fun h1 H1 f1 i hi f => ?_) (fun h1 H1 f1 f => ?_)
  · rw [qk_rv H1]
    refine qe_X12_of H1 (w := 2) (by omega) (by omega) (k h1 _ _ H1 f1 ?_)
    unfold qq_of
    rw [qa_ans_s f]
    exact qk_pq.mk rfl fun _ => (qk_cl R hi).1.2.2.1
  · refine k h1 _ _ H1 f1 ?_
    unfold qq_of
    rw [qa_ans_n f]
    exact qk_pq.mk rfl fun z => by cases z
theorem qe_X12_length (H : qk_at h m M) (R : qk_G (M.2 0) L) {c : Int32} {Q : Int32 → ql_H → Prop} (k : ∀ h1 M1 x, qk_at h1 m M1 → qp_fr m (m + 10) h h1 → qk_pq M M1 (qq_of L c fun A => nI (qa_txt A).length) x → Q x h1) : qw_X12_length m c h Q := by
  have n16 := R.1.1
  unfold qw_X12_length
  refine qe_np H R (fun h1 H1 f1 i hi f => ?_) (fun h1 H1 f1 f => ?_)
  · rw [qk_rv H1]
    refine qe_X12_long0 H1 (L := L) R hi (k h1 _ _ H1 f1 ?_)
    unfold qq_of
    rw [qa_ans_s f]
    exact qk_pq.mk rfl fun _ => rfl
  · refine k h1 _ _ H1 f1 ?_
    unfold qq_of
    rw [qa_ans_n f]
    exact qk_pq.mk rfl fun z => by cases z
theorem qe_X12_versionCount (H : qk_at h m M) (R : qk_G (M.2 0) L) {c : Int32} {Q : Int32 → ql_H → Prop} (k : ∀ h1 M1 x, qk_at h1 m M1 → qp_fr m (m + 10) h h1 → qk_pq M M1 (qq_of L c fun A => nI (qa_vs A).length) x → Q x h1) : qw_X12_versionCount m c h Q := by
  have n16 := R.1.1
  unfold qw_X12_versionCount
  refine qe_np H R (fun h1 H1 f1 i hi f => ?_) (fun h1 H1 f1 f => ?_)
  · rw [qk_rv H1]
    refine qe_X12_of H1 (w := 4) (by omega) (by omega) (k h1 _ _ H1 f1 ?_)
    unfold qq_of
    rw [qa_ans_s f]
    exact qk_pq.mk rfl fun _ => (qk_cl R hi).2.1.1
  · refine k h1 _ _ H1 f1 ?_
    unfold qq_of
    rw [qa_ans_n f]
    exact qk_pq.mk rfl fun z => by cases z
theorem qe_X12_citeCount (H : qk_at h m M) (R : qk_G (M.2 0) L) {c : Int32} {Q : Int32 → ql_H → Prop} (k : ∀ h1 M1 x, qk_at h1 m M1 → qp_fr m (m + 10) h h1 → qk_pq M M1 (qq_of L c fun A => nI (qa_ci A).length) x → Q x h1) : qw_X12_citeCount m c h Q := by
  have n16 := R.1.1
  unfold qw_X12_citeCount
  refine qe_np H R (fun h1 H1 f1 i hi f => ?_) (fun h1 H1 f1 f => ?_)
  · rw [qk_rv H1]
    refine qe_X12_of H1 (w := 37) (by omega) (by omega) (k h1 _ _ H1 f1 ?_)
    unfold qq_of
    rw [qa_ans_s f]
    exact qk_pq.mk rfl fun _ => (qk_cl R hi).2.2.1.1
  · refine k h1 _ _ H1 f1 ?_
    unfold qq_of
    rw [qa_ans_n f]
    exact qk_pq.mk rfl fun z => by cases z
theorem qe_X12_isInForce (H : qk_at h m M) (R : qk_G (M.2 0) L) (hs : ∀ A ∈ L.1, qa_sunok A) {c d : Int32} {Q : Int32 → ql_H → Prop} (k : ∀ h1 M1 x, qk_at h1 m M1 → qp_fr m (m + 10) h h1 → qk_pq M M1 (qq_of L c fun A => qp_b (qa_hold A d)) x → Q x h1) : qw_X12_isInForce m c d h Q := by
  have n16 := R.1.1
  unfold qw_X12_isInForce
  refine qe_np H R (E := fun h => ql_nz .boolean (0 : Int32) ∧ Q (0 : Int32) h) (fun h1 H1 f1 i hi f => ?_) (fun h1 H1 f1 f => ⟨ql_nz0, ?_⟩)
  · rw [qk_rv H1]
    refine qe_X12_isValid H1 (L := L) R hi (hs _ (List.getElem_mem hi)) ?_
    have hk : ∀ x, x = qp_b (qa_hold L.1[i] d) → Q x h1 := fun x hx => k h1 _ _ H1 f1 (by
      unfold qq_of
      rw [qa_ans_s f]
      exact qk_pq.mk rfl fun _ => hx)
    cases e : qa_hold L.1[i] d with
    | true => exact qp_iF qp_1 ⟨ql_nz1, hk 1 (by rw [e]; rfl)⟩
    | false => exact qp_iT rfl ⟨ql_nz0, hk 0 (by rw [e]; rfl)⟩
  · refine k h1 _ _ H1 f1 ?_
    unfold qq_of
    rw [qa_ans_n f]
    exact qk_pq.mk rfl fun z => by cases z
theorem qe_X12_hasLapsed (H : qk_at h m M) (R : qk_G (M.2 0) L) (hs : ∀ A ∈ L.1, qa_sunok A) {c : Int32} {Q : Int32 → ql_H → Prop} (k : ∀ h1 M1 x, qk_at h1 m M1 → qp_fr m (m + 10) h h1 → qk_pq M M1 (qq_of L c fun A => qp_b (qa_laps A (L.2.1 2))) x → Q x h1) : qw_X12_hasLapsed m c h Q := by
  have n16 := R.1.1
  unfold qw_X12_hasLapsed
  refine qe_np H R (E := fun h => ql_nz .boolean (0 : Int32) ∧ Q (0 : Int32) h) (fun h1 H1 f1 i hi f => ?_) (fun h1 H1 f1 f => ⟨ql_nz0, ?_⟩)
  · rw [qk_rv H1]
    refine qe_X12_isOver H1 (L := L) R hi (hs _ (List.getElem_mem hi)) ?_
    have hk : ∀ x, x = qp_b (qa_laps L.1[i] (L.2.1 2)) → Q x h1 := fun x hx => k h1 _ _ H1 f1 (by
      unfold qq_of
      rw [qa_ans_s f]
      exact qk_pq.mk rfl fun _ => hx)
    cases e : qa_laps L.1[i] (L.2.1 2) with
    | true => exact qp_iF qp_1 ⟨ql_nz1, hk 1 (by rw [e]; rfl)⟩
    | false => exact qp_iT rfl ⟨ql_nz0, hk 0 (by rw [e]; rfl)⟩
  · refine k h1 _ _ H1 f1 ?_
    unfold qq_of
    rw [qa_ans_n f]
    exact qk_pq.mk rfl fun z => by cases z
/-- a sunset there is, or none -/
theorem qe_X12_isEndless (H : qk_at h m M) (R : qk_G (M.2 0) L) (hs : ∀ A ∈ L.1, qa_sunok A) {c : Int32} {Q : Int32 → ql_H → Prop} (k : ∀ h1, qk_at h1 m (qk_sI M 7 0) → qp_fr m (m + 10) h h1 → ∀ A, qa_fsun L c = some A → Q 0 h1) (k0 : ∀ h1, qk_at h1 m (qk_sI M 7 1) → qp_fr m (m + 10) h h1 → qa_fsun L c = none → Q 1 h1) : qw_X12_isEndless m c h Q := by
  have n16 := R.1.1
  unfold qw_X12_isEndless qw_X12_isEndless_22 qw_X12_isEndless_27
  have none_ : qa_fsun L c = none → ql_rv h (some m) 13 fun b1 => qw_X12_fails b1 (1 : Int32) h (fun x1 h => ql_nz .boolean x1 ∧ Q x1 h) := fun e => by
    rw [qk_rv H]
    exact qe_X12_fails H (n := 1) (by omega) fun h1 H1 f1 => ⟨ql_nz1, k0 h1 H1 f1 e⟩
  rw [qk_rv H]
  refine qe_X12_placeOf H R (fun i hi e f => ?_) (fun e => qp_iT (by decide) (none_ (by unfold qa_fsun; rw [e]; rfl)))
  refine qp_iF (nI_pos (by omega)) ?_
  rw [qk_rv H]
  refine qe_X12_placeOf H R (fun i2 hi2 e2 f2 => ?_) (fun e2 => by rw [f] at e2; cases e2)
  rw [qk_rv H]
  refine qe_X12_of H (w := 3) (by omega) (by omega) ?_
  rw [show M.2 0 (13 + 42 * i2 + 3) = qa_sun L.1[i2] from (qk_cl R hi2).1.2.2.2]
  have hsi := hs _ (List.getElem_mem hi2)
  have ef : qa_fsun L c = if qa_sun L.1[i2] = -1 then none else some L.1[i2] := by
    unfold qa_fsun
    rw [f2]
    rfl
  by_cases z : qa_sun L.1[i2] = -1
  · refine qp_iF (by rw [z]; decide) (none_ (by rw [ef, if_pos z]))
  · refine qp_iT (Int32.not_lt.mp fun q => z ((qa_sun_lt hsi).mp q)) ?_
    rw [qk_rv H]
    exact qe_X12_fails H (n := 0) (by omega) fun h1 H1 f1 => ⟨ql_nz0, k h1 H1 f1 _ (by rw [ef, if_neg z])⟩
theorem qa_fsun_find {c : Int32} {A : qa_C} (h : qa_fsun L c = some A) : qa_find L.1 c = some A ∧ qa_sun A ≠ -1 := by
  unfold qa_fsun at h
  cases e : qa_find L.1 c with
  | none => rw [e] at h; cases h
  | some B =>
    rw [e] at h
    have h2 : (if qa_sun B = -1 then none else some B) = some A := h
    by_cases z : qa_sun B = -1
    · rw [if_pos z] at h2
      cases h2
    · rw [if_neg z] at h2
      cases h2
      exact ⟨rfl, z⟩
theorem qe_X12_sunset (H : qk_at h m M) (R : qk_G (M.2 0) L) (hs : ∀ A ∈ L.1, qa_sunok A) {c : Int32} {Q : Int32 → ql_H → Prop} (k : ∀ h1 M1 x, qk_at h1 m M1 → qp_fr m (m + 10) h h1 → qk_pq M M1 (qq_sunset L c) x → Q x h1) : qw_X12_sunset m c h Q := by
  have n16 := R.1.1
  unfold qw_X12_sunset
  rw [qk_rv H]
  refine qe_X12_isEndless H R hs (fun h1 H1 f1 A e => ?_) (fun h1 H1 f1 e => qp_iF qp_1 ?_)
  · refine qp_iT rfl ?_
    rw [qk_rv H1]
    have hf := (qa_fsun_find e).1
    refine qe_X12_placeOf H1 (L := L) R (fun i hi e2 f2 => ?_) (fun e2 => by rw [hf] at e2; cases e2)
    rw [qk_rv H1]
    refine qe_X12_of H1 (w := 3) (by omega) (by omega) (k h1 _ _ H1 f1 ?_)
    unfold qq_sunset
    rw [qa_ans_s e]
    rw [hf] at f2
    cases f2
    exact qk_pq.mk rfl fun _ => (qk_cl R hi).1.2.2.2
  · refine k h1 _ _ H1 f1 ?_
    unfold qq_sunset
    rw [qa_ans_n e]
    exact qk_pq.mk rfl fun z => by cases z
theorem qe_X12_most {a b : Int32} {Q : Int32 → ql_H → Prop} (k : Q (if a ≤ b then b else a) h) : qw_X12_most a b h Q := by
  unfold qw_X12_most
  refine qp_if (fun e => ?_) (fun e => ?_)
  · rwa [if_pos e] at k
  · rwa [if_neg e] at k
theorem qe_X12_daysUntilLapsed (H : qk_at h m M) (R : qk_G (M.2 0) L) (hs : ∀ A ∈ L.1, qa_sunok A) (hd : ∃ t, t < 2 ^ 30 ∧ L.2.1 2 = nI t) (hu : ∀ A ∈ L.1, qa_sun A = -1 ∨ ∃ u, u < 2 ^ 30 ∧ qa_sun A = nI u) {c : Int32} {Q : Int32 → ql_H → Prop} (k : ∀ h1 M1 x, qk_at h1 m M1 → qp_fr m (m + 10) h h1 → qk_pq M M1 (qq_days L c) x → Q x h1) : qw_X12_daysUntilLapsed m c h Q := by
  have n16 := R.1.1
  unfold qw_X12_daysUntilLapsed
  rw [qk_rv H]
  refine qe_X12_isEndless H R hs (fun h1 H1 f1 A e => ?_) (fun h1 H1 f1 e => qp_iF qp_1 ?_)
  · refine qp_iT rfl ?_
    rw [qk_rv H1]
    have hf := (qa_fsun_find e).1
    have hn := (qa_fsun_find e).2
    refine qe_X12_placeOf H1 (L := L) R (fun i hi e2 f2 => ?_) (fun e2 => by rw [hf] at e2; cases e2)
    rw [qk_rv H1]
    refine qe_X12_of H1 (w := 3) (by omega) (by omega) ?_
    rw [hf] at f2
    cases f2
    rw [show (qk_sI M 7 0).2 0 (13 + 42 * i + 3) = qa_sun L.1[i] from (qk_cl R hi).1.2.2.2, qk_rg H1, qk_lgx H1 2 2, show (qk_sI M 7 0).2 0 2 = L.2.1 2 from R.1.2.2.2.1]
    refine qe_X12_most (k h1 _ _ H1 f1 ?_)
    unfold qq_days
    rw [qa_ans_s e]
    refine qk_pq.mk rfl fun _ => ?_
    obtain ⟨t, t1, t2⟩ := hd
    obtain ⟨u, u1, u2⟩ := (hu _ (List.getElem_mem hi)).resolve_left hn
    have el : qa_laps L.1[i] (L.2.1 2) = decide (u < t) := by
      unfold qa_laps
      rw [show (qa_sun L.1[i] != -1) = true from bne_iff_ne.mpr hn, Bool.true_and, u2, t2]
      exact decide_eq_decide.mpr (nI_ltI (by omega) (by omega))
    show (if (0 : Int32) ≤ (qa_sun L.1[i] - L.2.1 2) + 1 then (qa_sun L.1[i] - L.2.1 2) + 1 else 0) = if qa_laps L.1[i] (L.2.1 2) = true then 0 else (qa_sun L.1[i] - L.2.1 2) + 1
    rw [el, u2, t2]
    by_cases z : u < t
    · rw [decide_eq_true z, if_pos rfl]
      have hlt : nI u - nI t < 0 := pk_sneg (by omega) z
      have h2 := pk_sub_toInt (a := u) (b := t) (by omega) (by omega)
      have h3 : (nI u - nI t + 1).toInt = (u : Int) - t + 1 := by
        rw [Int32.toInt_add, h2]
        show ((u : Int) - t + 1).bmod (2 ^ 32) = _
        exact Int.bmod_eq_of_le (by omega) (by omega)
      by_cases z2 : (0 : Int32) ≤ nI u - nI t + 1
      · rw [if_pos z2]
        refine Int32.toInt_inj.mp ?_
        rw [Int32.le_iff_toInt_le, h3, Int32.toInt_zero] at z2
        rw [h3, Int32.toInt_zero]
        omega
      · rw [if_neg z2]
    · rw [decide_eq_false z, pk_sub (by omega), nI_1, if_pos (nI_pos' (by omega)), if_neg (show ¬ false = true from fun q => by cases q)]
  · refine k h1 _ _ H1 f1 ?_
    unfold qq_days
    rw [qa_ans_n e]
    exact qk_pq.mk rfl fun z => by cases z
end QKA
