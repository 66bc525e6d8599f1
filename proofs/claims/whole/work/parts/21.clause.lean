/-! What a clause's methods and the texts' methods answer and do. -/
section QCM
theorem qp_iT {p A B : Prop} [Decidable p] (h : p) (a : A) : if p then A else B := by
  rw [if_pos h]
  exact a
theorem qp_iF {p A B : Prop} [Decidable p] (h : ¬ p) (b : B) : if p then A else B := by
  rw [if_neg h]
  exact b
theorem qp_if {p A B : Prop} [Decidable p] (f : p → A) (g : ¬ p → B) : if p then A else B := by
  by_cases h : p
  · exact qp_iT h (f h)
  · exact qp_iF h (g h)
variable {h : ql_H} {c v n : Nat} {C : qc_T} {T : Int64}
/-- v versions, n cites -/
def qc_ok (C : qc_T) (v n : Nat) : Prop := (v ≤ 8 ∧ (∀ j, j < v → C.2.2.1 j ≠ 0) ∧ ∀ j, v ≤ j → j < 8 → C.2.2.1 j = 0) ∧ n ≤ 4 ∧ (∀ j, j < n → C.2.2.2 j ≠ -1) ∧ ∀ j, n ≤ j → j < 4 → C.2.2.2 j = -1
theorem qe_X3_countVersions (H : qc_at h c C) (ok : qc_ok C v n) {Q : Int32 → ql_H → Prop} (k : Q (nI v) h) : qw_X3_countVersions c h Q := by
  have hL : ∀ m i, i ≤ v → v - i < m → qw_X3_countVersions_2 c Q m (nI i) h := by
    intro m
    induction m with
    | zero => intro i _ h; omega
    | succ m ih =>
      intro i hi hm
      unfold qw_X3_countVersions_2
      rw [qc_rt H, qc_lnT H]
      by_cases e8 : 8 ≤ i
      · have h8 := ok.1.1
        have e : i = v := by omega
        subst e
        exact qp_iT (nI_le e8 (by omega)) k
      · refine qp_iF (nI_ge (a := i) (b := 8) (by omega) (by omega)) ?_
        rw [qc_rt H, qc_lT H (by omega)]
        by_cases e : i = v
        · subst e
          exact qp_iT ((lg_cmp_eq _ _).mpr (ok.1.2.2 _ (Nat.le_refl _) (by omega))) k
        · refine qp_iF (fun z => ok.1.2.1 i (by omega) ((lg_cmp_eq _ _).mp z)) ?_
          rw [nI_1]
          exact ih _ (by omega) (by omega)
  exact hL ql_FU 0 (Nat.zero_le _) (by have := ok.1.1; unfold ql_FU; omega)
theorem qe_X3_latestText (H : qc_at h c C) (ok : qc_ok C (v + 1) n) {Q : Int64 → ql_H → Prop} (k : Q (C.2.2.1 v) h) : qw_X3_latestText c h Q := by
  have hv := ok.1.1
  unfold qw_X3_latestText
  rw [qc_rv H]
  refine qe_X3_countVersions H ok ?_
  refine qp_iT (nI_le (a := 1) (by omega) (by omega)) ?_
  rw [qc_rt H, nI_pred, qc_lT H (by omega)]
  exact k
theorem qe_X3_hasSunset (H : qc_at h c C) {Q : Int32 → ql_H → Prop} (k : Q (qp_b (C.1 4 != -1)) h) : qw_X3_hasSunset c h Q := by
  unfold qw_X3_hasSunset
  rw [qc_f H 4]
  refine qp_if (fun e => ⟨ql_nz0, ?_⟩) (fun e => ⟨ql_nz1, ?_⟩)
  · rw [e] at k
    exact k
  · have e2 : (C.1 4 != -1) = true := by simpa using e
    rw [e2] at k
    exact k
/-- it is in force at a day; it has lapsed by a day -/
def qc_hold (C : qc_T) (d : Int32) : Bool := decide (C.1 3 ≤ d) && (C.1 4 == -1 || decide (d ≤ C.1 4))
def qc_laps (C : qc_T) (d : Int32) : Bool := C.1 4 != -1 && decide (C.1 4 < d)
theorem qe_X3_holdsOn (H : qc_at h c C) {d : Int32} {Q : Int32 → ql_H → Prop} (k : Q (qp_b (qc_hold C d)) h) : qw_X3_holdsOn c d h Q := by
  unfold qw_X3_holdsOn qw_X3_holdsOn_23
  rw [qc_f H 3]
  refine qp_if (fun e => ⟨ql_nz0, ?_⟩) (fun e => ?_)
  · have e2 : qc_hold C d = false := by simp [qc_hold, Int32.not_le.mpr e]
    rw [e2] at k
    exact k
  · have e1 : C.1 3 ≤ d := Int32.not_lt.mp e
    rw [qc_rv H]
    refine qe_X3_hasSunset H ?_
    refine qp_if (fun e2 => ⟨ql_nz1, ?_⟩) (fun e2 => ?_)
    · have e3 : C.1 4 = -1 := by simpa using qp_b0.mp e2
      have e4 : qc_hold C d = true := by simp [qc_hold, e1, e3]
      rw [e4] at k
      exact k
    · have e3 : C.1 4 ≠ -1 := fun z => e2 (by rw [z]; rfl)
      rw [qc_f H 4]
      refine qp_if (fun e5 => ⟨ql_nz0, ?_⟩) (fun e5 => ⟨ql_nz1, ?_⟩)
      · have e4 : qc_hold C d = false := by simp [qc_hold, e3, Int32.not_le.mpr e5]
        rw [e4] at k
        exact k
      · have e4 : qc_hold C d = true := by simp [qc_hold, e1, Int32.not_lt.mp e5]
        rw [e4] at k
        exact k
theorem qe_X3_lapsedBy (H : qc_at h c C) {d : Int32} {Q : Int32 → ql_H → Prop} (k : Q (qp_b (qc_laps C d)) h) : qw_X3_lapsedBy c d h Q := by
  unfold qw_X3_lapsedBy
  rw [qc_rv H]
  refine qe_X3_hasSunset H ?_
  refine qp_if (fun e2 => ⟨ql_nz0, ?_⟩) (fun e2 => ?_)
  · have e4 : qc_laps C d = false := by simp [qc_laps, qp_b0.mp e2]
    rw [e4] at k
    exact k
  · have e3 : C.1 4 ≠ -1 := fun z => e2 (by rw [z]; rfl)
    rw [qc_f H 4]
    refine qp_if (fun e5 => ⟨ql_nz0, ?_⟩) (fun e5 => ⟨ql_nz1, ?_⟩)
    · have e4 : qc_laps C d = false := by simp [qc_laps, Int32.not_lt.mpr e5]
      rw [e4] at k
      exact k
    · have e4 : qc_laps C d = true := by simp [qc_laps, e3, Int32.not_le.mp e5]
      rw [e4] at k
      exact k
theorem qe_X3_hasRoomForVersion (H : qc_at h c C) (ok : qc_ok C v n) {Q : Int32 → ql_H → Prop} (k : Q (qp_b (decide (v < 8))) h) : qw_X3_hasRoomForVersion c h Q := by
  have hv := ok.1.1
  unfold qw_X3_hasRoomForVersion
  rw [qc_rv H]
  refine qe_X3_countVersions H ok ?_
  by_cases e : v < 8
  · refine qp_iF (nI_ge (a := v) (b := 8) e (by omega)) ⟨ql_nz1, ?_⟩
    rw [decide_eq_true e] at k
    exact k
  · refine qp_iT (nI_le (a := 8) (b := v) (by omega) (by omega)) ⟨ql_nz0, ?_⟩
    rw [decide_eq_false e] at k
    exact k
theorem qe_X3_firstDay (H : qc_at h c C) {Q : Int32 → ql_H → Prop} (k : Q (C.2.1 0) h) : qw_X3_firstDay c h Q := by
  unfold qw_X3_firstDay
  rw [qc_rd H]
  have e := qc_lD H (j := 0) (K := fun x => Q x h) (by decide)
  rw [nI_0] at e
  rw [e]
  exact k
/-- the last of the first v texts whose day is not past d -/
def qc_on (C : qc_T) (d : Int32) : Nat → Int64
  | 0 => 0
  | v + 1 => if C.2.1 v ≤ d then C.2.2.1 v else qc_on C d v
theorem qe_X3_textOnDay (H : qc_at h c C) (ok : qc_ok C v n) {d : Int32} {Q : Int64 → ql_H → Prop} (k : Q (qc_on C d v) h) : qw_X3_textOnDay c d h Q := by
  have hv := ok.1.1
  unfold qw_X3_textOnDay
  rw [qc_rv H]
  refine qe_X3_countVersions H ok ?_
  have hL : ∀ m i, i ≤ v → v - i < m → qw_X3_textOnDay_10 c Q m d (nI v) (qc_on C d i) (nI i) h := by
    intro m
    induction m with
    | zero => intro i _ h; omega
    | succ m ih =>
      intro i hi hm
      unfold qw_X3_textOnDay_10 qw_X3_textOnDay_35
      by_cases e : i = v
      · subst e
        exact qp_iT (nI_le (Nat.le_refl _) (by omega)) k
      · refine qp_iF (nI_ge (by omega) (by omega)) ?_
        rw [qc_rd H, qc_lD H (by omega)]
        have hn := ih (i + 1) (by omega) (by omega)
        refine qp_if (fun z => ?_) (fun z => ?_)
        · rw [qc_on, if_neg (Int32.not_le.mpr z)] at hn
          rw [nI_1]
          exact hn
        · rw [qc_on, if_pos (Int32.not_lt.mp z)] at hn
          rw [qc_rt H, qc_lT H (by omega), nI_1]
          exact hn
  exact hL ql_FU 0 (Nat.zero_le _) (by unfold ql_FU; omega)
theorem qe_X3_addVersion (H : qc_at h c C) (ok : qc_ok C v n) (hv : v < 8) {d : Int32} {Q : ql_H → Prop} (k : ∀ h1, qc_at h1 c (qc_sT (qc_sD C v d) v T) → qp_fr c (c + 4) h h1 → Q h1) : qw_X3_addVersion c d T h Q := by
  unfold qw_X3_addVersion
  rw [qc_rv H]
  refine qe_X3_countVersions H ok ?_
  refine qp_iF (nI_ge (a := v) (b := 8) hv (by omega)) ?_
  rw [qc_rd H]
  refine qc_wD H hv fun h1 H1 f1 => ?_
  rw [qc_rt H1]
  exact qc_wT H1 hv fun h2 H2 f2 => k h2 H2 (f1.tr f2)
/-- one version alone -/
def qc_kp (C : qc_T) (d : Int32) (T : Int64) : qc_T := (C.1, upd C.2.1 0 d, vp_updL (fun j => if j < 8 then 0 else C.2.2.1 j) 0 T, C.2.2.2)
theorem qe_X3_keepOnly (H : qc_at h c C) {d : Int32} {Q : ql_H → Prop} (k : ∀ h1, qc_at h1 c (qc_kp C d T) → qp_fr c (c + 4) h h1 → Q h1) : qw_X3_keepOnly c d T h Q := by
  have hL : ∀ m i g, i ≤ 8 → 8 - i < m → qc_at g c (C.1, C.2.1, (fun j => if j < i then 0 else C.2.2.1 j), C.2.2.2) → qp_fr c (c + 4) h g → qw_X3_keepOnly_3 c Q m d T (nI i) g := by
    intro m
    induction m with
    | zero => intro i g _ h; omega
    | succ m ih =>
      intro i g hi hm G f
      unfold qw_X3_keepOnly_3
      rw [qc_rt G, qc_lnT G]
      by_cases e : i = 8
      · subst e
        refine qp_iT (nI_le (Nat.le_refl _) (by omega)) ?_
        rw [qc_rd G]
        refine qc_wD (j := 0) G (by decide) fun h1 H1 f1 => ?_
        rw [qc_rt H1]
        exact qc_wT (j := 0) H1 (by decide) fun h2 H2 f2 => k h2 H2 (f.tr (f1.tr f2))
      · refine qp_iF (nI_ge (by omega) (by omega)) ?_
        rw [qc_rt G]
        refine qc_wT G (by omega) fun h1 H1 f1 => ?_
        rw [nI_1]
        refine ih (i + 1) h1 (by omega) (by omega) ?_ (f.tr f1)
        have e2 : vp_updL (fun j => if j < i then 0 else C.2.2.1 j) i 0 = fun j => if j < i + 1 then 0 else C.2.2.1 j := by
          funext j
          unfold vp_updL
          by_cases e3 : j = i
          · subst e3
            rw [if_pos rfl, if_pos (by omega)]
          · rw [if_neg e3]
            dsimp only
            by_cases e4 : j < i
            · rw [if_pos e4, if_pos (by omega)]
            · rw [if_neg e4, if_neg (by omega)]
        show qc_at h1 c (C.1, C.2.1, (fun j => if j < i + 1 then 0 else C.2.2.1 j), C.2.2.2)
        rw [← e2]
        exact H1
  exact hL ql_FU 0 h (by omega) (by unfold ql_FU; omega) H qp_fr.rf
/-- a clause begins -/
def qc_new (C : qc_T) (id sec day : Int32) (T : Int64) : qc_T := (upd (upd (upd (upd (upd C.1 0 1) 1 id) 2 sec) 3 day) 4 (-1), upd C.2.1 0 day, vp_updL (fun j => if j < 8 then 0 else C.2.2.1 j) 0 T, fun j => if j < 4 then -1 else C.2.2.2 j)
theorem qe_X3_begin (H : qc_at h c C) {x s d : Int32} {Q : ql_H → Prop} (k : ∀ h1, qc_at h1 c (qc_new C x s d T) → qp_fr c (c + 4) h h1 → Q h1) : qw_X3_begin c x s d T h Q := by
  have hL : ∀ (C0 : qc_T) m i g, (∀ h1, qc_at h1 c (C0.1, C0.2.1, C0.2.2.1, fun j => if j < 4 then -1 else C0.2.2.2 j) → qp_fr c (c + 4) h h1 → Q h1) → i ≤ 4 → 4 - i < m → qc_at g c (C0.1, C0.2.1, C0.2.2.1, fun j => if j < i then -1 else C0.2.2.2 j) → qp_fr c (c + 4) h g → qw_X3_begin_35 c Q m (nI i) g := by
    intro C0 m
    induction m with
    | zero => intro i g _ _ h; omega
    | succ m ih =>
      intro i g k hi hm G f
      unfold qw_X3_begin_35
      rw [qc_rc G, qc_lnC G]
      by_cases e : i = 4
      · subst e
        exact qp_iT (nI_le (Nat.le_refl _) (by omega)) (k g G f)
      · refine qp_iF (nI_ge (by omega) (by omega)) ?_
        rw [qc_rc G]
        refine qc_wC G (by omega) fun h1 H1 f1 => ?_
        rw [nI_1]
        refine ih (i + 1) h1 k (by omega) (by omega) ?_ (f.tr f1)
        have e2 : upd (fun j => if j < i then -1 else C0.2.2.2 j) i (-1) = fun j => if j < i + 1 then -1 else C0.2.2.2 j := by
          funext j
          unfold upd
          by_cases e3 : j = i
          · subst e3
            rw [if_pos rfl, if_pos (by omega)]
          · rw [if_neg e3]
            dsimp only
            by_cases e4 : j < i
            · rw [if_pos e4, if_pos (by omega)]
            · rw [if_neg e4, if_neg (by omega)]
        show qc_at h1 c (C0.1, C0.2.1, C0.2.2.1, fun j => if j < i + 1 then -1 else C0.2.2.2 j)
        rw [← e2]
        exact H1
  unfold qw_X3_begin
  refine qc_p H 0 fun h1 H1 f1 => ?_
  refine qc_p H1 1 fun h2 H2 f2 => ?_
  refine qc_p H2 2 fun h3 H3 f3 => ?_
  refine qc_p H3 3 fun h4 H4 f4 => ?_
  refine qc_p H4 4 fun h5 H5 f5 => ?_
  rw [qc_rv H5]
  refine qe_X3_keepOnly H5 fun h6 H6 f6 => ?_
  refine hL (qc_kp (qc_sF (qc_sF (qc_sF (qc_sF (qc_sF C 0 1) 1 x) 2 s) 3 d) 4 (-1)) d T) ql_FU 0 h6 (fun h7 H7 f7 => k h7 H7 f7) (by omega) (by unfold ql_FU; omega) H6 (f1.tr (f2.tr (f3.tr (f4.tr (f5.tr f6)))))
theorem qe_X3_keepLastVersion (H : qc_at h c C) (ok : qc_ok C (v + 1) n) {Q : ql_H → Prop} (k : ∀ h1, qc_at h1 c (qc_kp C (C.2.1 v) (C.2.2.1 v)) → qp_fr c (c + 4) h h1 → Q h1) : qw_X3_keepLastVersion c h Q := by
  have hv := ok.1.1
  unfold qw_X3_keepLastVersion
  rw [qc_rv H]
  refine qe_X3_countVersions H ok ?_
  refine qp_iF (nI_nle (by omega) (by omega)) ?_
  rw [qc_rd H, nI_pred, qc_lD H (by omega), qc_rt H, qc_lT H (by omega), qc_rv H]
  exact qe_X3_keepOnly H k
theorem qe_X3_countCites (H : qc_at h c C) (ok : qc_ok C v n) {Q : Int32 → ql_H → Prop} (k : Q (nI n) h) : qw_X3_countCites c h Q := by
  have hL : ∀ m i, i ≤ n → n - i < m → qw_X3_countCites_2 c Q m (nI i) h := by
    intro m
    induction m with
    | zero => intro i _ h; omega
    | succ m ih =>
      intro i hi hm
      unfold qw_X3_countCites_2
      rw [qc_rc H, qc_lnC H]
      by_cases e8 : 4 ≤ i
      · have h8 := ok.2.1
        have e : i = n := by omega
        subst e
        exact qp_iT (nI_le e8 (by omega)) k
      · refine qp_iF (nI_ge (a := i) (b := 4) (by omega) (by omega)) ?_
        rw [qc_rc H, qc_lC H (by omega)]
        by_cases e : i = n
        · subst e
          exact qp_iT (ok.2.2.2 _ (Nat.le_refl _) (by omega)) k
        · refine qp_iF (ok.2.2.1 i (by omega)) ?_
          rw [nI_1]
          exact ih _ (by omega) (by omega)
  exact hL ql_FU 0 (Nat.zero_le _) (by have := ok.2.1; unfold ql_FU; omega)
theorem qe_X3_placeOfCite (H : qc_at h c C) (ok : qc_ok C v n) {x : Int32} {Q : Int32 → ql_H → Prop} (k : ∀ i, i < n → C.2.2.2 i = x → (∀ j, j < i → C.2.2.2 j ≠ x) → Q (nI i) h) (k0 : (∀ j, j < n → C.2.2.2 j ≠ x) → Q (-1) h) : qw_X3_placeOfCite c x h Q := by
  have hn := ok.2.1
  have hL : ∀ m i, i ≤ n → n - i < m → (∀ j, j < i → C.2.2.2 j ≠ x) → qw_X3_placeOfCite_7 c Q m x (nI n) (nI i) h := by
    intro m
    induction m with
    | zero => intro i _ h; omega
    | succ m ih =>
      intro i hi hm hj
      unfold qw_X3_placeOfCite_7
      by_cases e : i = n
      · subst e
        exact qp_iT (nI_le (Nat.le_refl _) (by omega)) (k0 hj)
      · refine qp_iF (nI_ge (by omega) (by omega)) ?_
        rw [qc_rc H, qc_lC H (by omega)]
        refine qp_if (fun z => k i (by omega) z hj) (fun z => ?_)
        rw [nI_1]
        refine ih _ (by omega) (by omega) fun j hj2 => ?_
        by_cases e3 : j = i
        · subst e3
          exact z
        · exact hj j (by omega)
  unfold qw_X3_placeOfCite
  rw [qc_rv H]
  refine qe_X3_countCites H ok ?_
  exact hL ql_FU 0 (Nat.zero_le _) (by unfold ql_FU; omega) (fun j hj => by omega)
theorem qp_nI_m1 {i : Nat} (hi : i < 2 ^ 31) : nI i ≠ -1 := fun z => by
  have := congrArg Int32.toInt z
  rw [nI_toInt hi, show ((-1 : Int32)).toInt = -1 from rfl] at this
  omega
theorem qe_X3_citesId (H : qc_at h c C) (ok : qc_ok C v n) {x : Int32} {Q : Int32 → ql_H → Prop} (k : ∀ p : Bool, (p = true ↔ ∃ j, j < n ∧ C.2.2.2 j = x) → Q (qp_b p) h) : qw_X3_citesId c x h Q := by
  have hn := ok.2.1
  unfold qw_X3_citesId
  rw [qc_rv H]
  refine qe_X3_placeOfCite H ok (fun i hi e hj => ?_) (fun hj => ?_)
  · refine qp_iF (qp_nI_m1 (by omega)) ⟨ql_nz1, ?_⟩
    exact k true ⟨fun _ => ⟨i, hi, e⟩, fun _ => rfl⟩
  · refine qp_iT rfl ⟨ql_nz0, ?_⟩
    exact k false ⟨fun z => (by cases z), fun ⟨j, h1, h2⟩ => absurd h2 (hj j h1)⟩
theorem qe_X3_addCite (H : qc_at h c C) (ok : qc_ok C v n) (hn : n < 4) {x : Int32} {Q : ql_H → Prop} (k : ∀ h1, qc_at h1 c (qc_sC C n x) → qp_fr c (c + 4) h h1 → Q h1) : qw_X3_addCite c x h Q := by
  unfold qw_X3_addCite
  rw [qc_rv H]
  refine qe_X3_countCites H ok ?_
  rw [qc_rc H, qc_lnC H]
  refine qp_iF (nI_ge (a := n) (b := 4) hn (by omega)) ?_
  rw [qc_rc H]
  exact qc_wC H hn k
theorem qe_X3_citeAtPlace (H : qc_at h c C) {i : Nat} (hi : i < 4) {Q : Int32 → ql_H → Prop} (k : Q (C.2.2.2 i) h) : qw_X3_citeAtPlace c (nI i) h Q := by
  unfold qw_X3_citeAtPlace
  refine qp_iF (nI_pos (by omega)) ?_
  rw [qc_rc H, qc_lnC H]
  refine qp_iT (nI_lt hi (by omega)) ?_
  rw [qc_rc H, qc_lC H hi]
  exact k
theorem qe_X3_citeAtPlace_out (H : qc_at h c C) {x : Int32} (hx : ¬ vp_in x 4) {Q : Int32 → ql_H → Prop} (k : Q (-1) h) : qw_X3_citeAtPlace c x h Q := by
  unfold qw_X3_citeAtPlace qw_X3_citeAtPlace_13
  refine qp_if (fun _ => k) (fun z => ?_)
  rw [qc_rc H, qc_lnC H]
  refine qp_iF (fun z2 => hx ?_) k
  obtain ⟨j, hj, rfl⟩ := nI_of z
  exact vp_in_nI ((nI_ltI hj (by omega)).mp z2) (by omega)
/-- cite i is taken out -/
def qc_rm (S : Nat → Int32) (i : Nat) : Nat → Int32 := fun j => if j < i then S j else if j < 3 then S (j + 1) else if j = 3 then -1 else S j
theorem qe_X3_removeCite (H : qc_at h c C) (ok : qc_ok C v n) {x : Int32} {i : Nat} (hi : i < n) (hx : C.2.2.2 i = x) (hj : ∀ j, j < i → C.2.2.2 j ≠ x) {Q : ql_H → Prop} (k : ∀ h1, qc_at h1 c (C.1, C.2.1, C.2.2.1, qc_rm C.2.2.2 i) → qp_fr c (c + 4) h h1 → Q h1) : qw_X3_removeCite c x h Q := by
  have hn := ok.2.1
  have hL : ∀ m t g, i ≤ t → t ≤ 3 → 3 - t < m → qc_at g c (C.1, C.2.1, C.2.2.1, fun j => if j < i then C.2.2.2 j else if j < t then C.2.2.2 (j + 1) else C.2.2.2 j) → qp_fr c (c + 4) h g → qw_X3_removeCite_14 c Q m (nI t) g := by
    intro m
    induction m with
    | zero => intro t g _ _ h; omega
    | succ m ih =>
      intro t g hit ht hm G f
      unfold qw_X3_removeCite_14
      rw [qc_rc G, qc_lnC G, nI_1]
      by_cases e : t = 3
      · subst e
        refine qp_iT (nI_le (Nat.le_refl _) (by omega)) ?_
        rw [qc_rc G, qc_rc G, qc_lnC G, nI_pred]
        refine qc_wC G (by omega) fun h1 H1 f1 => k h1 ?_ (f.tr f1)
        have e2 : upd (fun j => if j < i then C.2.2.2 j else if j < 3 then C.2.2.2 (j + 1) else C.2.2.2 j) 3 (-1) = qc_rm C.2.2.2 i := by
          funext j
          unfold upd qc_rm
          by_cases e3 : j = 3
          · subst e3
            rw [if_pos rfl, if_neg (by omega), if_neg (by omega), if_pos rfl]
          · rw [if_neg e3]
            dsimp only
            by_cases e4 : j < i
            · rw [if_pos e4, if_pos e4]
            · rw [if_neg e4, if_neg e4]
              by_cases e5 : j < 3
              · rw [if_pos e5, if_pos e5]
              · rw [if_neg e5, if_neg e5, if_neg e3]
        rw [← e2]
        exact H1
      · refine qp_iF (nI_ge (by omega) (by omega)) ?_
        rw [qc_rc G, qc_rc G, qc_lC G (by omega)]
        refine qc_wC G (by omega) fun h1 H1 f1 => ?_
        refine ih (t + 1) h1 (by omega) (by omega) (by omega) ?_ (f.tr f1)
        have e2 : upd (fun j => if j < i then C.2.2.2 j else if j < t then C.2.2.2 (j + 1) else C.2.2.2 j) t (if t + 1 < i then C.2.2.2 (t + 1) else if t + 1 < t then C.2.2.2 (t + 1 + 1) else C.2.2.2 (t + 1)) = fun j => if j < i then C.2.2.2 j else if j < t + 1 then C.2.2.2 (j + 1) else C.2.2.2 j := by
          rw [if_neg (by omega), if_neg (by omega)]
          funext j
          unfold upd
          by_cases e3 : j = t
          · subst e3
            rw [if_pos rfl, if_neg (by omega), if_pos (by omega)]
          · rw [if_neg e3]
            dsimp only
            by_cases e4 : j < i
            · rw [if_pos e4, if_pos e4]
            · rw [if_neg e4, if_neg e4]
              by_cases e5 : j < t
              · rw [if_pos e5, if_pos (by omega)]
              · rw [if_neg e5, if_neg (by omega)]
        rw [← e2]
        exact H1
  unfold qw_X3_removeCite
  rw [qc_rv H]
  refine qe_X3_placeOfCite H ok (fun i2 hi2 e2 hj2 => ?_) (fun hj2 => absurd hx (hj2 i hi))
  have e : i2 = i := by
    rcases Nat.lt_trichotomy i2 i with z | z | z
    · exact absurd e2 (hj i2 z)
    · exact z
    · exact absurd hx (hj2 i z)
  subst e
  refine qp_iF (qp_nI_m1 (by omega)) ?_
  refine hL ql_FU i2 h (Nat.le_refl _) (by omega) (by unfold ql_FU; omega) ?_ qp_fr.rf
  have e3 : (fun j => if j < i2 then C.2.2.2 j else if j < i2 then C.2.2.2 (j + 1) else C.2.2.2 j) = C.2.2.2 := by
    funext j
    by_cases e4 : j < i2
    · rw [if_pos e4]
    · rw [if_neg e4, if_neg e4]
  show qc_at h c (C.1, C.2.1, C.2.2.1, _)
  rw [e3]
  exact H
/-- all is copied -/
def qc_cp (C0 C : qc_T) : qc_T := (upd (upd (upd (upd (upd C.1 0 (C0.1 0)) 1 (C0.1 1)) 2 (C0.1 2)) 3 (C0.1 3)) 4 (C0.1 4), va_cpy C0.2.1 C.2.1 0 0 8, va_cpy C0.2.2.1 C.2.2.1 0 0 8, va_cpy C0.2.2.2 C.2.2.2 0 0 4)
variable {c0 : Nat} {C0 : qc_T}
theorem qc_cpD (H : qc_at h c C) (H0 : qc_at h c0 C0) {K : ql_H → Prop} (k : ∀ h1, qc_at h1 c (C.1, va_cpy C0.2.1 C.2.1 0 0 8, C.2.2) → qp_fr c (c + 4) h h1 → K h1) : ql_cpI h (some (c0 + 1)) 0 (some (c + 1)) 0 8 0 .int K := by
  simp only [ql_cpI, ql_ar, H0.2.1, H.2.1, true_and]
  exact ⟨⟨by decide, by decide, by decide, by decide, by decide, fun i _ => rfl⟩, k _ ⟨(qp_up_n (by omega)).trans H.1, qp_up_s, (qp_up_n (by omega)).trans H.2.2.1, (qp_up_n (by omega)).trans H.2.2.2⟩ (qp_fr.up (by omega) (by omega))⟩
theorem qc_cpT (H : qc_at h c C) (H0 : qc_at h c0 C0) {K : ql_H → Prop} (k : ∀ h1, qc_at h1 c (C.1, C.2.1, va_cpy C0.2.2.1 C.2.2.1 0 0 8, C.2.2.2) → qp_fr c (c + 4) h h1 → K h1) : ql_cpJ h (some (c0 + 2)) 0 (some (c + 2)) 0 8 K := by
  simp only [ql_cpJ, ql_ar, H0.2.2.1, H.2.2.1, true_and]
  exact ⟨⟨by decide, by decide, by decide, by decide, by decide⟩, k _ ⟨(qp_up_n (by omega)).trans H.1, (qp_up_n (by omega)).trans H.2.1, qp_up_s, (qp_up_n (by omega)).trans H.2.2.2⟩ (qp_fr.up (by omega) (by omega))⟩
theorem qc_cpC (H : qc_at h c C) (H0 : qc_at h c0 C0) {K : ql_H → Prop} (k : ∀ h1, qc_at h1 c (C.1, C.2.1, C.2.2.1, va_cpy C0.2.2.2 C.2.2.2 0 0 4) → qp_fr c (c + 4) h h1 → K h1) : ql_cpI h (some (c0 + 3)) 0 (some (c + 3)) 0 4 0 .int K := by
  simp only [ql_cpI, ql_ar, H0.2.2.2, H.2.2.2, true_and]
  exact ⟨⟨by decide, by decide, by decide, by decide, by decide, fun i _ => rfl⟩, k _ ⟨(qp_up_n (by omega)).trans H.1, (qp_up_n (by omega)).trans H.2.1, (qp_up_n (by omega)).trans H.2.2.1, qp_up_s⟩ (qp_fr.up (by omega) (by omega))⟩
theorem qe_X3_copyFrom (H : qc_at h c C) (H0 : qc_at h c0 C0) (hd : c0 + 4 ≤ c ∨ c + 4 ≤ c0) (hz : C0.1 0 = 0 ∨ C0.1 0 = 1) {Q : ql_H → Prop} (k : ∀ h1, qc_at h1 c (qc_cp C0 C) → qp_fr c (c + 4) h h1 → Q h1) : qw_X3_copyFrom c (some c0) h Q := by
  unfold qw_X3_copyFrom
  have kp : ∀ {g g1 : ql_H}, qc_at g c0 C0 → qp_fr c (c + 4) g g1 → qc_at g1 c0 C0 := fun G f => G.kept fun q h1 h2 => f.2 q (by omega)
  rw [qc_f H0 0]
  refine ⟨by rcases hz with e | e <;> rw [e] <;> exact ⟨rfl, rfl⟩, ?_⟩
  refine qc_p H 0 fun h1 H1 f1 => ?_
  have G1 := kp H0 f1
  rw [qc_f G1 1]
  refine qc_p H1 1 fun h2 H2 f2 => ?_
  have G2 := kp G1 f2
  rw [qc_f G2 2]
  refine qc_p H2 2 fun h3 H3 f3 => ?_
  have G3 := kp G2 f3
  rw [qc_f G3 3]
  refine qc_p H3 3 fun h4 H4 f4 => ?_
  have G4 := kp G3 f4
  rw [qc_f G4 4]
  refine qc_p H4 4 fun h5 H5 f5 => ?_
  have G5 := kp G4 f5
  rw [qc_rd G5, qc_rd H5]
  refine qc_cpD H5 G5 fun h6 H6 f6 => ?_
  have G6 := kp G5 f6
  rw [qc_rt G6, qc_rt H6]
  refine qc_cpT H6 G6 fun h7 H7 f7 => ?_
  have G7 := kp G6 f7
  rw [qc_rc G7, qc_rc H7]
  refine qc_cpC H7 G7 fun h8 H8 f8 => ?_
  exact k h8 H8 (f1.tr (f2.tr (f3.tr (f4.tr (f5.tr (f6.tr (f7.tr f8)))))))
theorem qe_X9_isNote {x : Int32} {Q : Int32 → ql_H → Prop} (k : Q (qp_b (decide (97 ≤ x) && decide (x ≤ 103))) h) : qw_X9_isNote x h Q := by
  unfold qw_X9_isNote
  refine qp_if (fun e => ⟨ql_nz0, ?_⟩) (fun e => qp_if (fun e2 => ⟨ql_nz0, ?_⟩) (fun e2 => ⟨ql_nz1, ?_⟩))
  · rw [decide_eq_false (Int32.not_le.mpr e)] at k
    exact k
  · rw [decide_eq_false (p := x ≤ 103) (Int32.not_le.mpr e2), Bool.and_false] at k
    exact k
  · rw [decide_eq_true (Int32.not_lt.mp e), decide_eq_true (Int32.not_lt.mp e2)] at k
    exact k
def qt_code (T : Int64) (x : Int32) : Int32 := (T.toUInt64 >>> (((3 : Int32) * x).toInt64.toUInt64 &&& Int64.toUInt64 63)).toInt64.toInt32 &&& (7 : Int32)
theorem qe_X9_lengthOf (hn : n ≤ 12) (h1 : ∀ j, j < n → qt_code T (nI j) ≠ 0) (h2 : n < 12 → qt_code T (nI n) = 0) {Q : Int32 → ql_H → Prop} (k : Q (nI n) h) : qw_X9_lengthOf T h Q := by
  have hL : ∀ m i, i ≤ n → n - i < m → qw_X9_lengthOf_2 Q m T (nI i) h := by
    intro m
    induction m with
    | zero => intro i _ h; omega
    | succ m ih =>
      intro i hi hm
      unfold qw_X9_lengthOf_2 qw_X9_codeAt
      by_cases e8 : 12 ≤ i
      · have e : i = n := by omega
        subst e
        exact qp_iT (nI_le (a := 12) e8 (by omega)) k
      · refine qp_iF (nI_ge (a := i) (b := 12) (by omega) (by omega)) ?_
        by_cases e : i = n
        · subst e
          exact qp_iT (h2 (by omega)) k
        · refine qp_iF (h1 i (by omega)) ?_
          rw [nI_1]
          exact ih _ (by omega) (by omega)
  exact hL ql_FU 0 (Nat.zero_le _) (by unfold ql_FU; omega)
end QCM
