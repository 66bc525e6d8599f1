/-! What the class answers when asked. -/
section QCA
variable {σ : Nat → Nat} {h h1 g : ql_H} {b c N : Nat} {S : qa_S} {T : Option qa_L} {L : qa_L} {C : qc_T} {A : qa_C}
theorem qa_nd_inj {α β : Type} {f : α → β} : ∀ {l : List α}, (l.map f).Nodup → ∀ {a d : α}, a ∈ l → d ∈ l → f a = f d → a = d
  | [], _, _, _, ha, _, _ => absurd ha List.not_mem_nil
  | x :: l, h, a, d, ha, hd, e => by
    have h : f x ∉ l.map f ∧ (l.map f).Nodup := List.nodup_cons.mp h
    rcases List.mem_cons.mp ha with z | ha
    · rcases List.mem_cons.mp hd with y | hd
      · exact z.trans y.symm
      · refine absurd ?_ h.1
        rw [← z, e]
        exact List.mem_map_of_mem hd
    · rcases List.mem_cons.mp hd with y | hd
      · refine absurd ?_ h.1
        rw [← y, ← e]
        exact List.mem_map_of_mem ha
      · exact qa_nd_inj h.2 ha hd e
theorem qa_find_u {l : List qa_C} {P : qa_C → Bool} (hA : A ∈ l) (h : P A = true) (u : ∀ D ∈ l, P D = true → D = A) : l.find? P = some A := by
  cases e : l.find? P with
  | none => exact absurd h (by have := List.find?_eq_none.mp e A hA; exact this)
  | some D => rw [u D (List.mem_of_find?_eq_some e) (List.find?_some e)]
theorem qa_find_z {l : List qa_C} {P : qa_C → Bool} (h : ∀ D ∈ l, P D = false) : l.find? P = none := List.find?_eq_none.mpr fun D hD => by rw [h D hD]; decide
/-- an answer with a code: 0 and a number, or what is thrown -/
def qx_pq (σ : Nat → Nat) (b : Nat) (S : qa_S) (h : ql_H) (nm : Nat → String) (a : Nat × Int32) (Q : Int32 → ql_H → Prop) (X : String → ql_H → Prop) : Prop := ∀ h1, qx_at σ h1 b S none → qx_fr b h h1 → (a.1 = 0 → Q a.2 h1) ∧ (a.1 ≠ 0 → X (nm a.1) h1)
def qx_n1 (_ : Nat) : String := "java/util/NoSuchElementException"
def qx_n2 (e : Nat) : String := if e = 2 then "java/lang/IndexOutOfBoundsException" else "java/util/NoSuchElementException"
variable {nm : Nat → String} {a : Nat × Int32} {Q : Int32 → ql_H → Prop} {X : String → ql_H → Prop}
theorem qx_pq.ok (k : qx_pq σ b S h nm a Q X) (H : qx_at σ g b S T) (f : qx_fr b h g) {x : Int32} (e : a = (0, x)) : Q x g := by
  have := (k g H.forget f).1
  rw [e] at this
  exact this rfl
theorem qx_pq.no (k : qx_pq σ b S h nm a Q X) (H : qx_at σ g b S T) (f : qx_fr b h g) {n : Nat} {x : Int32} (e : a = (n + 1, x)) {s : String} (hs : nm (n + 1) = s) : ∀ n9, g.1 ≤ n9 → X s (n9, g.2) := fun n9 hn => by
  have := (k (n9, g.2) (H.low hn).forget (f.tr (qx_fr.low hn))).2
  rw [e] at this
  rw [← hs]
  exact this (Nat.succ_ne_zero n)
theorem qe_X11_clauseOf (H : qx_at σ h b S T) (w : qa_w S.1 N) {x : Int32} {Q : Option Nat → ql_H → Prop} (k : ∀ c C A, qc_at h c C → qr_C C A → qa_find S.1.1 x = some A → Q (some c) h) (k0 : qa_find S.1.1 x = none → ∀ n9, h.1 ≤ n9 → X "java/util/NoSuchElementException" (n9, h.2)) : qw_X11_clauseOf b x h Q X := by
  obtain ⟨B, G, Sl, RS, P, F⟩ := id H.2.1.1
  unfold qw_X11_clauseOf
  rw [qx_r0 H, qb_rv G]
  refine qe_X1_clauseWithId G RS (fun i A hi e ei => ?_) fun e => ?_
  · unfold qw_X11_existing
    refine qp_iF qp_N (k _ _ A (G.2.2.2 i hi) ((RS i hi).1 A e) ?_)
    rw [← ei]
    exact qs_find P w.1.1 hi e
  · unfold qw_X11_existing
    exact qp_iT rfl (k0 (qs_findN P e))
/-! a clause asked -/
theorem qr_C.vn (R : qr_C C A) : qc_ok C (qa_vs A).length (qa_ci A).length := R.ok
theorem qe_X11_section (H : qx_at σ h b S none) (w : qa_w S.1 N) {x : Int32} (k : qx_pq σ b S h qx_n1 (qq_of S.1 x qa_sec) Q X) : qw_X11_section b x h Q X := by
  unfold qw_X11_section
  rw [qx_rv H]
  refine qe_X11_clauseOf H w (fun c C A K R e => ?_) fun e => k.no H qx_fr.rf (qa_ans_n e) rfl
  rw [qc_f K 2, R.1.2.2.1]
  exact k.ok H qx_fr.rf (qa_ans_s e)
theorem qe_X11_enactedOn (H : qx_at σ h b S none) (w : qa_w S.1 N) {x : Int32} (k : qx_pq σ b S h qx_n1 (qq_of S.1 x qa_beg) Q X) : qw_X11_enactedOn b x h Q X := by
  unfold qw_X11_enactedOn
  rw [qx_rv H]
  refine qe_X11_clauseOf H w (fun c C A K R e => ?_) fun e => k.no H qx_fr.rf (qa_ans_n e) rfl
  rw [qc_f K 3, R.1.2.2.2.1]
  exact k.ok H qx_fr.rf (qa_ans_s e)
theorem qe_X11_length (H : qx_at σ h b S none) (w : qa_w S.1 N) {x : Int32} (k : qx_pq σ b S h qx_n1 (qq_of S.1 x fun A => nI (qa_txt A).length) Q X) : qw_X11_length b x h Q X := by
  unfold qw_X11_length
  rw [qx_rv H]
  refine qe_X11_clauseOf H w (fun c C A K R e => ?_) fun e => k.no H qx_fr.rf (qa_ans_n e) rfl
  rw [qc_rv K]
  exact qe_X3_txt K R fun T I => qe_X9_lenOf I (k.ok H qx_fr.rf (qa_ans_s e))
theorem qe_X11_versionCount (H : qx_at σ h b S none) (w : qa_w S.1 N) {x : Int32} (k : qx_pq σ b S h qx_n1 (qq_of S.1 x fun A => nI (qa_vs A).length) Q X) : qw_X11_versionCount b x h Q X := by
  unfold qw_X11_versionCount
  rw [qx_rv H]
  refine qe_X11_clauseOf H w (fun c C A K R e => ?_) fun e => k.no H qx_fr.rf (qa_ans_n e) rfl
  rw [qc_rv K]
  exact qe_X3_countVersions K R.ok (k.ok H qx_fr.rf (qa_ans_s e))
theorem qe_X11_citeCount (H : qx_at σ h b S none) (w : qa_w S.1 N) {x : Int32} (k : qx_pq σ b S h qx_n1 (qq_of S.1 x fun A => nI (qa_ci A).length) Q X) : qw_X11_citeCount b x h Q X := by
  unfold qw_X11_citeCount
  rw [qx_rv H]
  refine qe_X11_clauseOf H w (fun c C A K R e => ?_) fun e => k.no H qx_fr.rf (qa_ans_n e) rfl
  rw [qc_rv K]
  exact qe_X3_countCites K R.ok (k.ok H qx_fr.rf (qa_ans_s e))
theorem qe_X11_isInForce (H : qx_at σ h b S none) (w : qa_w S.1 N) {x d : Int32} (k : qx_pq σ b S h qx_n1 (qq_of S.1 x fun A => qp_b (qa_hold A d)) Q X) : qw_X11_isInForce b x d h Q X := by
  unfold qw_X11_isInForce
  rw [qx_rv H]
  refine qe_X11_clauseOf H w (fun c C A K R e => ?_) fun e => k.no H qx_fr.rf (qa_ans_n e) rfl
  rw [qc_rv K]
  refine qe_X3_holdsOn K ?_
  rw [R.hold]
  exact ⟨qp_bz _, k.ok H qx_fr.rf (qa_ans_s e)⟩
/-- the book's own numbers -/
theorem qx_day (H : qx_at σ h b S T) {K : Int32 → Prop} : ql_gI h (some (b + 1)) 4 2 K = K (S.1.2.1 2) := by
  obtain ⟨B, G, Sl, RS, P, F⟩ := id H.2.1.1
  rw [qb_f G 2, F.1.2 2 (by omega) (by omega)]
theorem qe_X11_hasLapsed (H : qx_at σ h b S none) (w : qa_w S.1 N) {x : Int32} (k : qx_pq σ b S h qx_n1 (qq_of S.1 x fun A => qp_b (qa_laps A (S.1.2.1 2))) Q X) : qw_X11_hasLapsed b x h Q X := by
  unfold qw_X11_hasLapsed
  rw [qx_rv H]
  refine qe_X11_clauseOf H w (fun c C A K R e => ?_) fun e => k.no H qx_fr.rf (qa_ans_n e) rfl
  rw [qx_r0 H, qx_day H, qc_rv K]
  refine qe_X3_lapsedBy K ?_
  rw [R.laps]
  exact ⟨qp_bz _, k.ok H qx_fr.rf (qa_ans_s e)⟩
theorem qe_X11_clauseWithSunset (H : qx_at σ h b S T) (w : qa_w S.1 N) {x : Int32} {Q : Option Nat → ql_H → Prop} (k : ∀ c C A, qc_at h c C → qr_C C A → qa_fsun S.1 x = some A → Q (some c) h) (k0 : qa_fsun S.1 x = none → ∀ n9, h.1 ≤ n9 → X "java/util/NoSuchElementException" (n9, h.2)) : qw_X11_clauseWithSunset b x h Q X := by
  unfold qw_X11_clauseWithSunset
  rw [qx_rv H]
  refine qe_X11_clauseOf H w (fun c C A K R e => ?_) fun e => k0 (by unfold qa_fsun; rw [e]; rfl)
  rw [qc_rv K]
  refine qe_X3_hasSunset K ?_
  have es := R.1.2.2.2.2
  by_cases z : qa_sun A = -1
  · rw [es, z]
    refine qp_iT rfl (k0 ?_)
    unfold qa_fsun
    rw [e]
    exact if_pos z
  · have e2 : (C.1 4 != -1) = true := by
      rw [es]
      simpa using z
    rw [e2]
    refine qp_iF qp_1 (k c C A K R ?_)
    unfold qa_fsun
    rw [e]
    exact if_neg z
theorem qe_X11_sunset (H : qx_at σ h b S none) (w : qa_w S.1 N) {x : Int32} (k : qx_pq σ b S h qx_n1 (qq_sunset S.1 x) Q X) : qw_X11_sunset b x h Q X := by
  unfold qw_X11_sunset
  rw [qx_rv H]
  refine qe_X11_clauseWithSunset H w (fun c C A K R e => ?_) fun e => k.no H qx_fr.rf (qa_ans_n e) rfl
  rw [qc_f K 4, R.1.2.2.2.2]
  exact k.ok H qx_fr.rf (qa_ans_s e)
theorem qe_X11_daysUntilLapsed (H : qx_at σ h b S none) (w : qa_w S.1 N) {x : Int32} (k : qx_pq σ b S h qx_n1 (qq_days S.1 x) Q X) : qw_X11_daysUntilLapsed b x h Q X := by
  unfold qw_X11_daysUntilLapsed
  rw [qx_rv H]
  refine qe_X11_clauseWithSunset H w (fun c C A K R e => ?_) fun e => k.no H qx_fr.rf (qa_ans_n e) rfl
  have k := k.ok H qx_fr.rf (qa_ans_s e)
  rw [qx_r0 H, qx_day H, qc_rv K]
  refine qe_X3_lapsedBy K ?_
  rw [R.laps]
  cases z : qa_laps A (S.1.2.1 2) with
  | false =>
    rw [z] at k
    refine qp_iT rfl ?_
    rw [qc_f K 4, qx_r0 H, qx_day H, R.1.2.2.2.2]
    exact k
  | true =>
    rw [z] at k
    exact qp_iF qp_1 k
/-! texts -/
theorem qr_C.on (R : qr_C C A) (d : Int32) : ∀ j, j ≤ (qa_vs A).length → (((qa_vs A).take j).reverse.find? (fun v => decide (v.1 ≤ d)) = none → qc_on C d j = 0) ∧ ∀ v, ((qa_vs A).take j).reverse.find? (fun v => decide (v.1 ≤ d)) = some v → qt_is (qc_on C d j) v.2 ∧ v.2 ≠ []
  | 0, _ => ⟨fun _ => rfl, fun v e => by cases e⟩
  | j + 1, hj => by
    have hj2 : j < (qa_vs A).length := hj
    have ih := R.on d j (Nat.le_of_lt hj2)
    have rv := R.2.1.1 j hj2
    have e1 : ((qa_vs A).take (j + 1)).reverse = (qa_vs A)[j] :: ((qa_vs A).take j).reverse := by
      rw [List.take_succ_eq_append_getElem hj2, List.reverse_append]
      rfl
    rw [e1, List.find?_cons]
    unfold qc_on
    rw [rv.1]
    by_cases z : (qa_vs A)[j].1 ≤ d
    · rw [decide_eq_true z, if_pos z]
      refine ⟨(fun e => by cases e), fun v e => ?_⟩
      cases e
      exact ⟨rv.2, (R.2.2.2.1.2.2 _ (List.getElem_mem hj2)).2⟩
    · rw [decide_eq_false z, if_neg z]
      exact ih
theorem qr_C.on_n (R : qr_C C A) {d : Int32} (e : qa_on A d = none) : qc_on C d (qa_vs A).length = 0 := by
  refine (R.on d _ (Nat.le_refl _)).1 ?_
  rw [List.take_length]
  unfold qa_on at e
  cases z : (qa_vs A).reverse.find? (fun v => decide (v.1 ≤ d)) with
  | none => rfl
  | some v =>
    rw [z] at e
    cases e
theorem qr_C.on_s (R : qr_C C A) {d : Int32} {t : List Nat} (e : qa_on A d = some t) : qt_is (qc_on C d (qa_vs A).length) t ∧ t ≠ [] := by
  unfold qa_on at e
  cases z : (qa_vs A).reverse.find? (fun v => decide (v.1 ≤ d)) with
  | none =>
    rw [z] at e
    cases e
  | some v =>
    rw [z] at e
    obtain rfl := Option.some.inj e
    refine (R.on d _ (Nat.le_refl _)).2 v ?_
    rw [List.take_length]
    exact z
theorem qe_X11_textOn (K : qc_at h c C) (R : qr_C C A) {d : Int32} {Q : Int64 → ql_H → Prop} (k : ∀ T t, qa_on A d = some t → qt_is T t → Q T h) (k0 : qa_on A d = none → ∀ n9, h.1 ≤ n9 → X "java/util/NoSuchElementException" (n9, h.2)) : qw_X11_textOn (some c) d h Q X := by
  unfold qw_X11_textOn
  rw [qc_rv K]
  refine qe_X3_textOnDay K R.ok ?_
  cases e : qa_on A d with
  | none =>
    rw [R.on_n e]
    exact qp_iT ((lg_cmp_eq _ _).mpr rfl) (k0 e)
  | some t =>
    have r := R.on_s e
    exact qp_iF (fun z => qt_ne0 r.1 r.2 ((lg_cmp_eq _ _).mp z)) (k _ t e r.1)
theorem qe_X11_noteOfText {T : Int64} {t : List Nat} (I : qt_is T t) {p : Int32} (k : ∀ j (hj : j < t.length), p = nI j → Q (nI (97 + t[j])) h) (k0 : (p < 0 ∨ nI t.length ≤ p) → ∀ n9, h.1 ≤ n9 → X "java/lang/IndexOutOfBoundsException" (n9, h.2)) : qw_X11_noteOfText T p h Q X := by
  have t12 := I.1.2
  unfold qw_X11_noteOfText
  refine qp_if (fun z => k0 (Or.inl z)) fun z => ?_
  refine qe_X9_lenOf I ?_
  refine qp_if (fun y => ?_) fun y => k0 (Or.inr (Int32.not_lt.mp y))
  obtain ⟨j, hj, rfl⟩ := nI_of z
  have hj2 : j < t.length := (nI_ltI hj (by omega)).mp y
  have a7 := I.1.1 _ (List.getElem_mem hj2)
  exact qe_X9_noteOf I hj2 ⟨(qp_ch (a := t[j]) (by omega)).2, k j hj2 rfl⟩
theorem qa_nth_at {t : List Nat} {j : Nat} (hj : j < t.length) (h31 : t.length < 2 ^ 31) {p : Int32} (e : p = nI j) : qa_nth t p = (0, nI (97 + t[j])) := by
  rw [e]
  exact qa_nth_in hj h31
theorem qe_X11_noteAt (H : qx_at σ h b S none) (w : qa_w S.1 N) {x p : Int32} (k : qx_pq σ b S h qx_n2 (qq_noteAt S.1 x p) Q X) : qw_X11_noteAt b x p h Q X := by
  unfold qw_X11_noteAt
  rw [qx_rv H]
  refine qe_X11_clauseOf H w (fun c C A K R e => ?_) fun e => k.no H qx_fr.rf (qa_bind_n e) rfl
  rw [qc_rv K]
  refine qe_X3_txt K R fun T I => ?_
  have t12 := I.1.2
  refine qe_X11_noteOfText I (fun j hj ej => ⟨(qp_ch (a := (qa_txt A)[j]) (by have := I.1.1 _ (List.getElem_mem hj); omega)).2, ?_⟩) fun z => ?_
  · exact k.ok H qx_fr.rf ((qa_bind_s e).trans (qa_nth_at hj (by omega) ej))
  · exact k.no H qx_fr.rf ((qa_bind_s e).trans (qa_nth_out z)) rfl
theorem qa_fon_n {x d : Int32} (e : qa_find L.1 x = none) : qa_fon L x d = none := by
  unfold qa_fon
  rw [e]
  rfl
theorem qa_fon_s {x d : Int32} (e : qa_find L.1 x = some A) : qa_fon L x d = qa_on A d := by
  unfold qa_fon
  rw [e]
  rfl
theorem qe_X11_lengthOn (H : qx_at σ h b S none) (w : qa_w S.1 N) {x d : Int32} (k : qx_pq σ b S h qx_n1 (qq_lengthOn S.1 x d) Q X) : qw_X11_lengthOn b x d h Q X := by
  unfold qw_X11_lengthOn
  rw [qx_rv H]
  refine qe_X11_clauseOf H w (fun c C A K R e => ?_) fun e => k.no H qx_fr.rf (qa_ans_n (qa_fon_n e)) rfl
  refine qe_X11_textOn K R (fun T t et I => ?_) fun et => k.no H qx_fr.rf (qa_ans_n ((qa_fon_s e).trans et)) rfl
  exact qe_X9_lenOf I (k.ok H qx_fr.rf (qa_ans_s ((qa_fon_s e).trans et)))
theorem qq_noteOn_n {x d p : Int32} (e : qa_fon L x d = none) : qq_noteOn L x d p = (1, 0) := by
  unfold qq_noteOn
  rw [e]
theorem qq_noteOn_s {x d p : Int32} {t : List Nat} (e : qa_fon L x d = some t) : qq_noteOn L x d p = qa_nth t p := by
  unfold qq_noteOn
  rw [e]
theorem qe_X11_noteOn (H : qx_at σ h b S none) (w : qa_w S.1 N) {x d p : Int32} (k : qx_pq σ b S h qx_n2 (qq_noteOn S.1 x d p) Q X) : qw_X11_noteOn b x d p h Q X := by
  unfold qw_X11_noteOn
  rw [qx_rv H]
  refine qe_X11_clauseOf H w (fun c C A K R e => ?_) fun e => k.no H qx_fr.rf (qq_noteOn_n (qa_fon_n e)) rfl
  refine qe_X11_textOn K R (fun T t et I => ?_) fun et => k.no H qx_fr.rf (qq_noteOn_n ((qa_fon_s e).trans et)) rfl
  have t12 := I.1.2
  refine qe_X11_noteOfText I (fun j hj ej => ⟨(qp_ch (a := t[j]) (by have := I.1.1 _ (List.getElem_mem hj); omega)).2, ?_⟩) fun z => ?_
  · exact k.ok H qx_fr.rf ((qq_noteOn_s ((qa_fon_s e).trans et)).trans (qa_nth_at hj (by omega) ej))
  · exact k.no H qx_fr.rf ((qq_noteOn_s ((qa_fon_s e).trans et)).trans (qa_nth_out z)) rfl
theorem qa_two_n1 {o p : Option (List Nat)} (e : o = none) : qa_two o p = (1, 0) := by
  subst e
  rfl
theorem qa_two_n2 {o p : Option (List Nat)} (e : p = none) : qa_two o p = (1, 0) := by
  subst e
  cases o <;> rfl
theorem qa_two_s {o p : Option (List Nat)} {s t : List Nat} (e : o = some s) (e2 : p = some t) : qa_two o p = (0, nI (qa_apart s t)) := by
  subst e e2
  rfl
theorem qx_dif (H : qx_at σ h b S T) : ∃ W, qd_at h (b + 758) W := H.2.2.2.1.1
theorem qe_X11_difference (H : qx_at σ h b S none) (w : qa_w S.1 N) {x d e : Int32} (k : qx_pq σ b S h qx_n1 (qq_diff S.1 x d e) Q X) : qw_X11_difference b x d e h Q X := by
  unfold qw_X11_difference
  rw [qx_rv H]
  refine qe_X11_clauseOf H w (fun c C A K R e => ?_) fun e => k.no H qx_fr.rf (qa_two_n1 (qa_fon_n e)) rfl
  rw [qx_r8 H]
  refine qe_X11_textOn K R (fun T t et I => ?_) fun et => k.no H qx_fr.rf (qa_two_n1 ((qa_fon_s e).trans et)) rfl
  refine qe_X11_textOn K R (fun T2 t2 et2 I2 => ?_) fun et => k.no H qx_fr.rf (qa_two_n2 ((qa_fon_s e).trans et)) rfl
  obtain ⟨W, D⟩ := qx_dif H
  rw [qp_rv D.1]
  refine qe_X5_byBeginnings D I I2 fun g1 W1 D1 f1 => ?_
  have ax := H.2.2.2.1.diff D1 f1
  exact k.ok (H.aux ax.2 ax.1) (ax.2.x (by omega)) (qa_two_s ((qa_fon_s e).trans et) ((qa_fon_s e).trans et2))
theorem qe_X11_differenceByEnds (H : qx_at σ h b S none) (w : qa_w S.1 N) {x d e : Int32} (k : qx_pq σ b S h qx_n1 (qq_diff S.1 x d e) Q X) : qw_X11_differenceByEnds b x d e h Q X := by
  unfold qw_X11_differenceByEnds
  rw [qx_rv H]
  refine qe_X11_clauseOf H w (fun c C A K R e => ?_) fun e => k.no H qx_fr.rf (qa_two_n1 (qa_fon_n e)) rfl
  rw [qx_r8 H]
  refine qe_X11_textOn K R (fun T t et I => ?_) fun et => k.no H qx_fr.rf (qa_two_n1 ((qa_fon_s e).trans et)) rfl
  refine qe_X11_textOn K R (fun T2 t2 et2 I2 => ?_) fun et => k.no H qx_fr.rf (qa_two_n2 ((qa_fon_s e).trans et)) rfl
  obtain ⟨W, D⟩ := qx_dif H
  rw [qp_rv D.1]
  refine qe_X5_byEnds D I I2 fun g1 W1 D1 f1 => ?_
  have ax := H.2.2.2.1.diff D1 f1
  exact k.ok (H.aux ax.2 ax.1) (ax.2.x (by omega)) (qa_two_s ((qa_fon_s e).trans et) ((qa_fon_s e).trans et2))
theorem qe_X11_citeAt (H : qx_at σ h b S none) (w : qa_w S.1 N) {x p : Int32} (k : qx_pq σ b S h qx_n2 (qq_citeAt S.1 x p) Q X) : qw_X11_citeAt b x p h Q X := by
  unfold qw_X11_citeAt
  rw [qx_rv H]
  refine qe_X11_clauseOf H w (fun c C A K R e => ?_) fun e => k.no H qx_fr.rf (qa_bind_n e) rfl
  have c4 := R.2.2.2.2.1
  have out : (p < 0 ∨ nI (qa_ci A).length ≤ p) → ∀ n9, h.1 ≤ n9 → X "java/lang/IndexOutOfBoundsException" (n9, h.2) := fun z => k.no H qx_fr.rf ((qa_bind_s e).trans (if_pos z)) rfl
  rw [qc_rv K]
  by_cases z : vp_in p 4
  · obtain ⟨j, hj, rfl⟩ := vp_in_of z (by omega)
    refine qe_X3_citeAtPlace K hj ?_
    by_cases y : j < (qa_ci A).length
    · have ec := R.2.2.1.1 j y
      have ne := R.2.2.2.2.2.2 _ (List.getElem_mem y)
      rw [ec]
      refine qp_iF ne (k.ok H qx_fr.rf ((qa_bind_s e).trans ?_))
      rw [if_neg (fun q => by rcases q with q | q; exact nI_pos (by omega) q; exact nI_ge y (by omega) q), nI_clamp (by omega), List.getD_eq_getElem?_getD, List.getElem?_eq_getElem y]
      rfl
    · rw [R.2.2.1.2 j (by omega) hj]
      exact qp_iT rfl (out (Or.inr (nI_le (by omega) (by omega))))
  · refine qe_X3_citeAtPlace_out K z (qp_iT rfl (out ?_))
    rcases pk_ix p (n := 4) (by omega) with y | y | ⟨j, hj, y⟩
    · exact Or.inl y
    · exact Or.inr (Int32.le_trans (nI_le c4 (by omega)) y)
    · exact absurd (y ▸ vp_in_nI hj (by omega)) z
/-! numbers -/
theorem qe_X11_day (H : qx_at σ h b S none) (k : ∀ h1, qx_at σ h1 b S none → qx_fr b h h1 → Q (S.1.2.1 2) h1) : qw_X11_day b h Q := by
  unfold qw_X11_day
  rw [qx_r0 H, qx_day H]
  exact k h H qx_fr.rf
theorem qe_X11_addedTotal (H : qx_at σ h b S none) (k : ∀ h1, qx_at σ h1 b S none → qx_fr b h h1 → Q (S.1.2.1 3) h1) : qw_X11_addedTotal b h Q := by
  obtain ⟨B, G, Sl, RS, P, F⟩ := id H.2.1.1
  unfold qw_X11_addedTotal
  rw [qx_r0 H, qb_f G 3, F.1.2 3 (by omega) (by omega)]
  exact k h H qx_fr.rf
theorem qe_X11_amendmentTotal (H : qx_at σ h b S none) (k : ∀ h1, qx_at σ h1 b S none → qx_fr b h h1 → Q (S.1.2.1 4) h1) : qw_X11_amendmentTotal b h Q := by
  obtain ⟨B, G, Sl, RS, P, F⟩ := id H.2.1.1
  unfold qw_X11_amendmentTotal
  rw [qx_r0 H, qb_f G 4, F.1.2 4 (by omega) (by omega)]
  exact k h H qx_fr.rf
theorem qe_X11_repealedTotal (H : qx_at σ h b S none) (k : ∀ h1, qx_at σ h1 b S none → qx_fr b h h1 → Q (S.1.2.1 5) h1) : qw_X11_repealedTotal b h Q := by
  obtain ⟨B, G, Sl, RS, P, F⟩ := id H.2.1.1
  unfold qw_X11_repealedTotal
  rw [qx_r0 H, qb_f G 5, F.1.2 5 (by omega) (by omega)]
  exact k h H qx_fr.rf
theorem qe_X11_consolidatedTotal (H : qx_at σ h b S none) (k : ∀ h1, qx_at σ h1 b S none → qx_fr b h h1 → Q (S.1.2.1 6) h1) : qw_X11_consolidatedTotal b h Q := by
  obtain ⟨B, G, Sl, RS, P, F⟩ := id H.2.1.1
  unfold qw_X11_consolidatedTotal
  rw [qx_r0 H, qb_f G 6, F.1.2 6 (by omega) (by omega)]
  exact k h H qx_fr.rf
theorem qe_X11_editionCount (H : qx_at σ h b S none) (k : ∀ h1, qx_at σ h1 b S none → qx_fr b h h1 → Q (S.1.2.1 7) h1) : qw_X11_editionCount b h Q := by
  obtain ⟨B, G, Sl, RS, P, F⟩ := id H.2.1.1
  unfold qw_X11_editionCount
  rw [qx_r0 H, qb_f G 7, F.1.2 7 (by omega) (by omega)]
  exact k h H qx_fr.rf
theorem qe_X11_clauseCount (H : qx_at σ h b S none) (k : ∀ h1, qx_at σ h1 b S none → qx_fr b h h1 → Q (nI S.1.1.length) h1) : qw_X11_clauseCount b h Q := by
  obtain ⟨B, G, Sl, RS, P, F⟩ := id H.2.1.1
  unfold qw_X11_clauseCount
  rw [qx_r0 H, qb_rv G]
  refine qe_X1_countClauses G RS ?_
  rw [P.length_eq]
  exact k h H qx_fr.rf
theorem qe_X11_inForceOn (H : qx_at σ h b S none) {d : Int32} (k : ∀ h1, qx_at σ h1 b S none → qx_fr b h h1 → Q (nI (qa_valid S.1.1 d)) h1) : qw_X11_inForceOn b d h Q := by
  obtain ⟨B, G, Sl, RS, P, F⟩ := id H.2.1.1
  unfold qw_X11_inForceOn
  rw [qx_r0 H, qb_rv G]
  refine qe_X1_countHoldingOn G RS ?_
  rw [P.countP_eq]
  exact k h H qx_fr.rf
theorem qe_X11_editionDay (H : qx_at σ h b S none) (w : qa_w S.1 N) (hN : N < 2 ^ 20) {d : Int32} (k : qx_pq σ b S h qx_n1 (qq_edition S.1 d) Q X) : qw_X11_editionDay b d h Q X := by
  obtain ⟨B, G, Sl, RS, P, F⟩ := id H.2.1.1
  obtain ⟨e, he, ee⟩ := w.2.2.2
  have no : (d < 1 ∨ S.1.2.1 7 < d ∨ d ≤ S.1.2.1 7 - 6) → ∀ n9, h.1 ≤ n9 → X "java/util/NoSuchElementException" (n9, h.2) := fun z => k.no H qx_fr.rf (if_pos z) rfl
  have f7 : B.2.1 7 = S.1.2.1 7 := F.1.2 7 (by omega) (by omega)
  unfold qw_X11_editionDay
  refine qp_if (fun z => no (Or.inl z)) fun z1 => ?_
  rw [qx_r0 H, qb_f G 7, f7]
  refine qp_if (fun z => no (Or.inr (Or.inl z))) fun z2 => ?_
  rw [qx_r0 H, qb_f G 7, f7]
  refine qp_if (fun z3 => ?_) fun z => no (Or.inr (Or.inr (Int32.not_lt.mp z)))
  have k := k.ok H qx_fr.rf (x := S.1.2.2 d.toNatClampNeg) (if_neg fun q => by
    rcases q with q | q | q
    · exact z1 q
    · exact z2 q
    · exact absurd z3 (Int32.not_lt.mpr q))
  have d0 : ¬ d < 0 := fun q => z1 (Int32.lt_trans q (by decide))
  obtain ⟨j, hj, rfl⟩ := nI_of d0
  rw [nI_clamp hj] at k
  rw [ee] at z2 z3
  have j1 : 1 ≤ j := by
    rcases Nat.lt_or_ge j 1 with y | y
    · exact absurd (nI_lt (b := 1) y (by omega)) z1
    · exact y
  have je : j ≤ e := by
    rcases Nat.lt_or_ge e j with y | y
    · exact absurd (nI_lt y hj) z2
    · exact y
  have j6 : e < j + 6 := by
    rcases Nat.lt_or_ge e (j + 6) with y | y
    · exact y
    · rw [show (6 : Int32) = nI 6 from rfl, pk_sub (by omega)] at z3
      exact absurd z3 (nI_nlt (by omega) (by omega))
  rw [qx_r0 H, qb_rv G]
  refine qe_X1_dayOfEdition G hj ?_
  rw [F.2 e (by omega) ee j j1 je j6]
  exact k
theorem qa_notes_perm {l l2 : List qa_C} (P : l.Perm l2) : qa_notes l = qa_notes l2 := (P.map _).sum_nat
theorem qe_X11_meanLength (H : qx_at σ h b S none) {Q : UInt64 → ql_H → Prop} (k : S.1.1.length ≠ 0 → Q (FP.ddiv (FP.i2d (nI (qa_notes S.1.1))) (FP.i2d (nI S.1.1.length))) h) (k0 : S.1.1.length = 0 → ∀ n9, h.1 ≤ n9 → X "java/lang/ArithmeticException" (n9, h.2)) (t12 : ∀ A ∈ S.1.1, (qa_txt A).length ≤ 12) : qw_X11_meanLength b h Q X := by
  have l16 := H.2.1.1.l16
  obtain ⟨B, G, Sl, RS, P, F⟩ := id H.2.1.1
  unfold qw_X11_meanLength
  rw [qx_r0 H, qb_rv G]
  refine qe_X1_countClauses G RS ?_
  rw [P.length_eq]
  by_cases e : S.1.1.length = 0
  · exact qp_iT (by rw [e]; rfl) (k0 e)
  · refine qp_iF (nI_ne0 (by omega) (by omega)) ?_
    rw [qx_r0 H, qb_rv G]
    refine qe_X1_countNotes G RS ?_
    rw [qa_notes_perm P]
    have hn := qa_notes_le l16 t12
    exact ⟨(qf_mean S.1.1.length (by omega) (by omega) (qa_notes S.1.1) (by omega)).1, k e⟩
theorem qe_X11_inForceShare (H : qx_at σ h b S none) {Q : UInt32 → ql_H → Prop} (k : S.1.1.length ≠ 0 → Q (FP.fdiv (FP.i2f (nI (qa_valid S.1.1 (S.1.2.1 2)))) (FP.i2f (nI S.1.1.length))) h) (k0 : S.1.1.length = 0 → ∀ n9, h.1 ≤ n9 → X "java/lang/ArithmeticException" (n9, h.2)) : qw_X11_inForceShare b h Q X := by
  have l16 := H.2.1.1.l16
  obtain ⟨B, G, Sl, RS, P, F⟩ := id H.2.1.1
  unfold qw_X11_inForceShare
  rw [qx_r0 H, qb_rv G]
  refine qe_X1_countClauses G RS ?_
  rw [P.length_eq]
  by_cases e : S.1.1.length = 0
  · exact qp_iT (by rw [e]; rfl) (k0 e)
  · refine qp_iF (nI_ne0 (by omega) (by omega)) ?_
    rw [qx_r0 H, qx_r0 H, qx_day H, qb_rv G]
    refine qe_X1_countHoldingOn G RS ?_
    rw [P.countP_eq]
    have hl := List.countP_le_length (p := fun C => qa_hold C (S.1.2.1 2)) (l := S.1.1)
    exact ⟨(qf_share S.1.1.length (by omega) (by omega) (qa_valid S.1.1 (S.1.2.1 2)) (by show List.countP _ _ < 17; omega)).1, k e⟩
end QCA
