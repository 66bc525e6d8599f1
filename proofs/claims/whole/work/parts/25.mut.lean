/-! What the book's changes do: the same as the ledger's. -/
section QMU
variable {C : qc_T} {A : qa_C}
theorem qa_er : ∀ (l : List Int32) (y : Int32) (i : Nat) (hi : i < l.length), l[i] = y → (∀ j (hj : j < i), l[j]'(Nat.lt_trans hj hi) ≠ y) → l.erase y = l.eraseIdx i
  | [], _, _, hi, _, _ => absurd hi (Nat.not_lt_zero _)
  | z :: l, y, 0, _, h, _ => by
    have h2 : z = y := h
    rw [List.erase_cons, if_pos (by rw [h2]; exact beq_self_eq_true y)]
    rfl
  | z :: l, y, i + 1, hi, h, hj => by
    have h0 : z ≠ y := hj 0 (Nat.succ_pos i)
    rw [List.erase_cons, if_neg (by rw [beq_iff_eq]; exact h0), List.eraseIdx_cons_succ, qa_er l y i (Nat.lt_of_succ_lt_succ hi) h fun j hj2 => hj (j + 1) (Nat.succ_lt_succ hj2)]
theorem qa_mem_idx {l : List Int32} {y : Int32} (h : y ∈ l) : ∃ (i : Nat) (hi : i < l.length), l[i] = y ∧ ∀ j (hj : j < i), l[j]'(Nat.lt_trans hj hi) ≠ y := by
  induction l with
  | nil => cases h
  | cons z l ih =>
    by_cases e : z = y
    · exact ⟨0, Nat.succ_pos _, e, fun j hj => absurd hj (Nat.not_lt_zero _)⟩
    · obtain ⟨i, hi, h1, h2⟩ := ih ((List.mem_cons.mp h).resolve_left fun q => e q.symm)
      refine ⟨i + 1, Nat.succ_lt_succ hi, h1, fun j hj => ?_⟩
      cases j with
      | zero => exact e
      | succ j => exact h2 j (Nat.lt_of_succ_lt_succ hj)
theorem qa_sh.amend (h : qa_sh A) (hv : (qa_vs A).length < 8) {d : Int32} {t : List Nat} (ht : qt_ok t) (h0 : t ≠ []) : qa_sh (A.1, qa_vs A ++ [(d, t)], qa_ci A) := by
  refine ⟨⟨?_, ?_, fun v hm => ?_⟩, h.2⟩
  · show 1 ≤ (qa_vs A ++ [(d, t)]).length
    rw [List.length_append]
    exact Nat.le_add_left _ _
  · show (qa_vs A ++ [(d, t)]).length ≤ 8
    rw [List.length_append]
    exact hv
  · rcases List.mem_append.mp (show v ∈ qa_vs A ++ [(d, t)] from hm) with hm | hm
    · exact h.1.2.2 v hm
    · cases List.mem_singleton.mp hm
      exact ⟨ht, h0⟩
theorem qa_sh.cite (h : qa_sh A) (hv : (qa_ci A).length < 4) {y : Int32} (hy : y ∉ qa_ci A) (h0 : y ≠ -1) : qa_sh (A.1, qa_vs A, qa_ci A ++ [y]) := by
  refine ⟨h.1, ?_, ?_, fun z hz => ?_⟩
  · show (qa_ci A ++ [y]).length ≤ 4
    rw [List.length_append]
    exact hv
  · show (qa_ci A ++ [y]).Nodup
    rw [List.nodup_append]
    refine ⟨h.2.2.1, (by simp), fun a ha b hb e => ?_⟩
    rw [List.mem_singleton.mp hb] at e
    exact hy (e ▸ ha)
  · rcases List.mem_append.mp (show z ∈ qa_ci A ++ [y] from hz) with hm | hm
    · exact h.2.2.2 z hm
    · cases List.mem_singleton.mp hm
      exact h0
theorem qa_sh.sub (h : qa_sh A) {l : List Int32} (hs : l.Sublist (qa_ci A)) : qa_sh (A.1, qa_vs A, l) :=
  ⟨h.1, Nat.le_trans hs.length_le h.2.1, h.2.2.1.sublist hs, fun z hz => h.2.2.2 z (hs.subset hz)⟩
theorem qr_C.amend (R : qr_C C A) {v : Nat} (hv : (qa_vs A).length = v) (h8 : v < 8) {d : Int32} {T : Int64} {t : List Nat} (I : qt_is T t) (h0 : t ≠ []) : qr_C (qc_sT (qc_sD C v d) v T) (A.1, qa_vs A ++ [(d, t)], qa_ci A) := by
  subst hv
  refine ⟨R.1, ⟨fun j hj => ?_, fun j h1 h2 => ?_⟩, R.2.2.1, R.2.2.2.amend h8 I.1 h0⟩
  · have hj2 : j < (qa_vs A ++ [(d, t)]).length := hj
    show upd C.2.1 (qa_vs A).length d j = ((qa_vs A ++ [(d, t)])[j]).1 ∧ qt_is (vp_updL C.2.2.1 (qa_vs A).length T j) ((qa_vs A ++ [(d, t)])[j]).2
    rw [List.length_append] at hj2
    by_cases e : j = (qa_vs A).length
    · subst e
      rw [pk_us, pk_uLs, List.getElem_append_right (Nat.le_refl _)]
      simp only [Nat.sub_self, List.getElem_cons_zero]
      exact ⟨trivial, I⟩
    · have h3 : j < (qa_vs A).length := by
        have : j < (qa_vs A).length + 1 := hj2
        omega
      rw [pk_un e, pk_uLn e, List.getElem_append_left h3]
      exact R.2.1.1 j h3
  · have h3 : (qa_vs A ++ [(d, t)]).length ≤ j := h1
    rw [List.length_append] at h3
    have h4 : (qa_vs A).length + 1 ≤ j := h3
    show vp_updL C.2.2.1 (qa_vs A).length T j = 0
    rw [pk_uLn (by omega)]
    exact R.2.1.2 j (by omega) h2
theorem qr_C.sun (R : qr_C C A) (d : Int32) : qr_C (qc_sF C 4 d) ((qa_id A, qa_sec A, qa_beg A, d), A.2) :=
  ⟨⟨R.1.1, R.1.2.1, R.1.2.2.1, R.1.2.2.2.1, rfl⟩, R.2.1, R.2.2.1, R.2.2.2⟩
theorem qr_C.sec (R : qr_C C A) (s : Int32) : qr_C (qc_sF C 2 s) ((qa_id A, s, qa_beg A, qa_sun A), A.2) :=
  ⟨⟨R.1.1, R.1.2.1, rfl, R.1.2.2.2.1, R.1.2.2.2.2⟩, R.2.1, R.2.2.1, R.2.2.2⟩
theorem qr_C.cite (R : qr_C C A) {n : Nat} (hn : (qa_ci A).length = n) (h4 : n < 4) {y : Int32} (hy : y ∉ qa_ci A) (h0 : y ≠ -1) : qr_C (qc_sC C n y) (A.1, qa_vs A, qa_ci A ++ [y]) := by
  subst hn
  refine ⟨R.1, R.2.1, ⟨fun j hj => ?_, fun j h1 h2 => ?_⟩, R.2.2.2.cite h4 hy h0⟩
  · have hj2 : j < (qa_ci A ++ [y]).length := hj
    show upd C.2.2.2 (qa_ci A).length y j = (qa_ci A ++ [y])[j]
    rw [List.length_append] at hj2
    by_cases e : j = (qa_ci A).length
    · subst e
      rw [pk_us, List.getElem_append_right (Nat.le_refl _)]
      simp only [Nat.sub_self, List.getElem_cons_zero]
    · have h3 : j < (qa_ci A).length := by
        have : j < (qa_ci A).length + 1 := hj2
        omega
      rw [pk_un e, List.getElem_append_left h3]
      exact R.2.2.1.1 j h3
  · have h3 : (qa_ci A ++ [y]).length ≤ j := h1
    rw [List.length_append] at h3
    have h4 : (qa_ci A).length + 1 ≤ j := h3
    show upd C.2.2.2 (qa_ci A).length y j = -1
    rw [pk_un (by omega)]
    exact R.2.2.1.2 j (by omega) h2
theorem qr_C.rm (R : qr_C C A) {i : Nat} (hi : i < (qa_ci A).length) : qr_C (C.1, C.2.1, C.2.2.1, qc_rm C.2.2.2 i) (A.1, qa_vs A, (qa_ci A).eraseIdx i) := by
  have h4 := R.2.2.2.2.1
  refine ⟨R.1, R.2.1, ⟨fun j hj => ?_, fun j h1 h2 => ?_⟩, R.2.2.2.sub (List.eraseIdx_sublist ..)⟩
  · have hj2 : j < ((qa_ci A).eraseIdx i).length := hj
    show qc_rm C.2.2.2 i j = ((qa_ci A).eraseIdx i)[j]
    rw [List.length_eraseIdx_of_lt hi] at hj2
    rw [List.getElem_eraseIdx]
    unfold qc_rm
    by_cases e : j < i
    · rw [if_pos e, dif_pos e]
      exact R.2.2.1.1 j (by omega)
    · rw [if_neg e, dif_neg e, if_pos (by omega)]
      exact R.2.2.1.1 (j + 1) (by omega)
  · have h3 : ((qa_ci A).eraseIdx i).length ≤ j := h1
    rw [List.length_eraseIdx_of_lt hi] at h3
    show qc_rm C.2.2.2 i j = -1
    unfold qc_rm
    rw [if_neg (by omega)]
    by_cases e : j < 3
    · rw [if_pos e]
      exact R.2.2.1.2 (j + 1) (by omega) (by omega)
    · rw [if_neg e, if_pos (by omega)]
theorem qr_C.keep (R : qr_C C A) {v : Nat} (hv : (qa_vs A).length = v + 1) : qr_C (qc_kp C (C.2.1 v) (C.2.2.1 v)) (A.1, (qa_vs A).getLast?.toList, qa_ci A) := by
  have h1 := R.2.1.1 v (by omega)
  have e : (qa_vs A).getLast?.toList = [(qa_vs A)[v]'(by omega)] := by
    rw [List.getLast?_eq_getElem?, show (qa_vs A).length - 1 = v by omega, List.getElem?_eq_getElem (by omega)]
    rfl
  rw [e]
  refine ⟨R.1, ⟨fun j hj => ?_, fun j h2 h3 => ?_⟩, R.2.2.1, ⟨⟨Nat.le_refl _, Nat.le_of_ble_eq_true rfl, fun x hx => ?_⟩, R.2.2.2.2⟩⟩
  · have hj2 : j < 1 := hj
    have e3 : j = 0 := by omega
    subst e3
    exact ⟨h1.1, h1.2⟩
  · have h4 : 1 ≤ j := h2
    show vp_updL (fun j => if j < 8 then 0 else C.2.2.1 j) 0 (C.2.2.1 v) j = 0
    rw [pk_uLn (by omega), if_pos h3]
  · have hx2 : x ∈ [(qa_vs A)[v]'(by omega)] := hx
    cases List.mem_singleton.mp hx2
    exact R.2.2.2.1.2.2 _ (List.getElem_mem _)
theorem qr_C.new {x s d : Int32} {T : Int64} {a : Nat} (I : qt_is T [a]) : qr_C (qc_new C x s d T) ((x, s, d, -1), [(d, [a])], []) := by
  refine ⟨⟨rfl, rfl, rfl, rfl, rfl⟩, ⟨fun j hj => ?_, fun j h2 h3 => ?_⟩, ⟨fun j hj => absurd hj (Nat.not_lt_zero _), fun j _ h4 => ?_⟩, ⟨⟨Nat.le_refl _, Nat.le_of_ble_eq_true rfl, fun v hv => ?_⟩, Nat.le_of_ble_eq_true rfl, List.nodup_nil, fun z hz => ?_⟩⟩
  · have hj2 : j < 1 := hj
    have e3 : j = 0 := by omega
    subst e3
    exact ⟨rfl, I⟩
  · have h4 : 1 ≤ j := h2
    show vp_updL (fun j => if j < 8 then 0 else C.2.2.1 j) 0 T j = 0
    rw [pk_uLn (by omega), if_pos h3]
  · exact if_pos h4
  · have hv2 : v ∈ [((d, [a]) : qa_V)] := hv
    cases List.mem_singleton.mp hv2
    exact ⟨I.1, fun z => by cases z⟩
  · exact absurd (show z ∈ ([] : List Int32) from hz) List.not_mem_nil
end QMU
section QMV
variable {h : ql_H} {b : Nat} {B : qb_T} {S : Nat → Option qa_C} {L : qa_L} {N : Nat}
theorem qr_S.up (R : qr_S B S) {i : Nat} {C1 : qc_T} {S2 : Nat → Option qa_C} (h1 : ∀ j, j < 16 → j ≠ i → S2 j = S j) (h2 : ∀ A, S2 i = some A → qr_C C1 A) (h3 : S2 i = none → C1.1 0 = 0) : qr_S (qb_sC B i C1) S2 := by
  intro j hj
  by_cases e : j = i
  · subst e
    show (∀ A, S2 j = some A → qr_C (va_up B.1 j C1 j) A) ∧ (S2 j = none → (va_up B.1 j C1 j).1 0 = 0)
    rw [va_up_self]
    exact ⟨h2, h3⟩
  · show (∀ A, S2 j = some A → qr_C (va_up B.1 i C1 j) A) ∧ (S2 j = none → (va_up B.1 i C1 j).1 0 = 0)
    rw [va_up_ne _ _ e, h1 j hj e]
    exact R j hj
theorem qr_F.set (F : qr_F B L) {l : List qa_C} (j : Nat) {x y : Int32} (hxy : x = y) (hj : 2 ≤ j ∧ j ≠ 3 ∧ j ≠ 7 := by decide) : qr_F (qb_sF B j x) (l, upd L.2.1 j y, L.2.2) := by
  subst hxy
  refine ⟨⟨?_, fun m h1 h2 => ?_⟩, fun e he h t h1 h2 h3 => ?_⟩
  · show upd B.2.1 j x 1 = upd L.2.1 j x 3
    rw [pk_un (by omega), pk_un (by omega)]
    exact F.1.1
  · show upd B.2.1 j x m = upd L.2.1 j x m
    by_cases e : m = j
    · rw [e, pk_us, pk_us]
    · rw [pk_un e, pk_un e]
      exact F.1.2 m h1 h2
  · have h4 : upd L.2.1 j x 7 = nI e := h
    rw [pk_un (by omega)] at h4
    exact F.2 e he h4 t h1 h2 h3
theorem qa_find_iff (hd : (L.1.map qa_id).Pairwise (· < ·)) {x : Int32} {A : qa_C} : qa_find L.1 x = some A ↔ A ∈ L.1 ∧ qa_id A = x := by
  unfold qa_find
  constructor
  · intro e
    exact ⟨List.mem_of_find?_eq_some e, by simpa using List.find?_some e⟩
  · rintro ⟨h1, h2⟩
    cases e : L.1.find? (fun C => qa_id C == x) with
    | none =>
      have := List.find?_eq_none.mp e A h1
      rw [h2, beq_self_eq_true] at this
      exact absurd rfl this
    | some D =>
      have hD := List.mem_of_find?_eq_some e
      have hx : qa_id D = x := by simpa using List.find?_some e
      have inj : ∀ {l : List qa_C}, (l.map qa_id).Pairwise (· < ·) → ∀ {A D : qa_C}, A ∈ l → D ∈ l → qa_id A = qa_id D → A = D := by
        intro l
        induction l with
        | nil => intro _ A D h; cases h
        | cons z l ih =>
          intro hp A D hA hD he
          rw [List.map_cons, List.pairwise_cons] at hp
          rcases List.mem_cons.mp hA with a1 | a1
          · rcases List.mem_cons.mp hD with a2 | a2
            · rw [a1, a2]
            · have := hp.1 _ (List.mem_map_of_mem a2)
              rw [← he, a1] at this
              exact absurd this Int32.lt_irrefl
          · rcases List.mem_cons.mp hD with a2 | a2
            · have := hp.1 _ (List.mem_map_of_mem a1)
              rw [he, a2] at this
              exact absurd this Int32.lt_irrefl
            · exact ih hp.2 a1 a2 he
      rw [inj hd hD h1 (by rw [hx, h2])]
theorem qa_find_none {x : Int32} : qa_find L.1 x = none ↔ ∀ A ∈ L.1, qa_id A ≠ x := by
  unfold qa_find
  rw [List.find?_eq_none]
  exact ⟨fun z A hA e => z A hA (by rw [e]; exact beq_self_eq_true x), fun z A hA e => z A hA (by simpa using e)⟩
theorem qa_has_iff {l : List qa_C} {x : Int32} : qa_has l x = true ↔ ∃ A ∈ l, qa_id A = x := by
  unfold qa_has
  rw [List.any_eq_true]
  exact ⟨fun ⟨A, h1, h2⟩ => ⟨A, h1, by simpa using h2⟩, fun ⟨A, h1, h2⟩ => ⟨A, h1, by rw [h2]; exact beq_self_eq_true x⟩⟩
/-- by the slots -/
theorem qs_find (P : (qs_ls S 16).Perm L.1) (hd : (L.1.map qa_id).Pairwise (· < ·)) {i : Nat} {A : qa_C} (hi : i < 16) (e : S i = some A) : qa_find L.1 (qa_id A) = some A :=
  (qa_find_iff hd).mpr ⟨P.mem_iff.mp (qs_ls_mem.mpr ⟨i, hi, e⟩), rfl⟩
theorem qs_findN (P : (qs_ls S 16).Perm L.1) {x : Int32} (h : ∀ i A, i < 16 → S i = some A → qa_id A ≠ x) : qa_find L.1 x = none := by
  refine qa_find_none.mpr fun A hA => ?_
  obtain ⟨i, hi, e⟩ := qs_ls_mem.mp (P.mem_iff.mpr hA)
  exact h i A hi e
theorem qs_uniq (P : (qs_ls S 16).Perm L.1) (hd : (L.1.map qa_id).Pairwise (· < ·)) {i j : Nat} {A D : qa_C} (hi : i < 16) (hj : j < 16) (hA : S i = some A) (hD : S j = some D) (e : qa_id A = qa_id D) : i = j := by
  have hn : ((qs_ls S 16).map qa_id).Nodup := ((P.map qa_id).nodup_iff).mpr (hd.imp fun h => Int32.ne_of_lt h)
  have key : ∀ n i j, i < j → j < n → ∀ A D, S i = some A → S j = some D → qa_id A = qa_id D → ¬ ((qs_ls S n).map qa_id).Nodup := by
    intro n
    induction n with
    | zero => intro i j _ h; omega
    | succ n ih =>
      intro i j hij hj A D hA hD e hn
      rw [qs_ls_succ, List.map_append] at hn
      rw [List.nodup_append] at hn
      by_cases e2 : j = n
      · subst e2
        refine hn.2.2 (qa_id A) (List.mem_map_of_mem (qs_ls_mem.mpr ⟨i, hij, hA⟩)) (qa_id D) ?_ e
        rw [hD]
        exact List.mem_singleton.mpr rfl
      · exact ih i j hij (by omega) A D hA hD e hn.1
  rcases Nat.lt_trichotomy i j with z | z | z
  · exact absurd hn (key 16 i j z hj A D hA hD e)
  · exact z
  · exact absurd hn (key 16 j i z hi D A hD hA e.symm)
/-- one clause changed, by its id -/
theorem qr_L.upd (R : qr_S B S) (P : (qs_ls S 16).Perm L.1) (hd : (L.1.map qa_id).Pairwise (· < ·)) {i : Nat} {A : qa_C} (hi : i < 16) (e : S i = some A) {C1 : qc_T} {g : qa_C → qa_C} (hC : qr_C C1 (g A)) : ∃ S2, qr_S (qb_sC B i C1) S2 ∧ (qs_ls S2 16).Perm (qa_upd L.1 (qa_id A) g) := by
  refine ⟨fun j => (S j).map fun D => if qa_id D == qa_id A then g D else D, R.up (fun j hj hji => ?_) (fun D hD => ?_) (fun hD => ?_), ?_⟩
  · cases eS : S j with
    | none => rfl
    | some D =>
      have : qa_id D ≠ qa_id A := fun z => hji (qs_uniq P hd hj hi eS e z)
      rw [Option.map_some, if_neg (by rw [beq_iff_eq]; exact this)]
  · rw [e, Option.map_some, if_pos (beq_self_eq_true _)] at hD
    cases hD
    exact hC
  · rw [e, Option.map_some] at hD
    cases hD
  · rw [qs_ls_map]
    exact P.map _
theorem qa_note_of {x : Int32} (h : qa_note x = true) : ∃ a, a < 7 ∧ x = nI (97 + a) ∧ qa_code x = a := by
  unfold qa_note at h
  rw [Bool.and_eq_true, decide_eq_true_eq, decide_eq_true_eq] at h
  have h0 : ¬ x < 0 := fun z => absurd (Int32.lt_of_le_of_lt h.1 z) (by decide)
  obtain ⟨j, hj, rfl⟩ := nI_of h0
  have h1 : 97 ≤ j := (nI_leI (a := 97) (by omega) hj).mp h.1
  have h2 : j ≤ 103 := (nI_leI (b := 103) hj (by omega)).mp h.2
  refine ⟨j - 97, by omega, by rw [show 97 + (j - 97) = j by omega], ?_⟩
  unfold qa_code
  rw [show (97 : Int32) = nI 97 from rfl, pk_sub h1, nI_clamp (by omega)]
theorem qe_X9_ofNote {a : Nat} (ha : a < 7) {Q : Int64 → ql_H → Prop} (k : ∀ T, qt_is T [a] → Q T h) : qw_X9_ofNote (nI (97 + a)) h Q :=
  k _ ⟨⟨fun x hx => by rw [List.mem_singleton.mp hx]; exact ha, Nat.le_of_ble_eq_true rfl⟩, qt_of ha⟩
theorem qp_N {o : Nat} : ¬ (some o = none) := fun z => by cases z
theorem qe_X1_tryAdd (H : qb_at h b B) (RL : qr_L B L) {s x : Int32} {Q : Int32 → ql_H → Prop} (k : ∀ h1 B1, qb_at h1 b B1 → qr_L B1 (qa_add L s x).2 → qp_fr b (b + 67) h h1 → Q (qa_add L s x).1 h1) : qw_X1_tryAdd b s x h Q := by
  have kf : ∀ r, qa_add L s x = (r, L) → Q r h := fun r e => by
    have := k h B H
    rw [e] at this
    exact this RL qp_fr.rf
  obtain ⟨S, R, P, F⟩ := RL
  unfold qw_X1_tryAdd
  refine qp_if (fun z => kf _ (if_pos (Or.inl z))) fun z1 => qp_if (fun z => kf _ (if_pos (Or.inr (Or.inl z)))) fun z2 => ?_
  refine qe_X9_isNote ?_
  cases e : qa_note x with
  | false =>
    have e2 : (decide (97 ≤ x) && decide (x ≤ 103)) = false := e
    rw [e2]
    exact qp_iT rfl (kf _ (if_pos (Or.inr (Or.inr e))))
  | true =>
    have e2 : (decide (97 ≤ x) && decide (x ≤ 103)) = true := e
    rw [e2]
    refine qp_iF qp_1 ?_
    have hA : ¬ (s < 1 ∨ 99 < s ∨ qa_note x = false) := fun z => by
      rcases z with z | z | z
      · exact z1 z
      · exact z2 z
      · rw [e] at z
        cases z
    rw [qb_rv H]
    refine qe_X1_freeClause H R (fun i hi hN => ?_) (fun h16 => ?_)
    · refine qp_iF qp_N ?_
      have hlt : ¬ 16 ≤ L.1.length := by
        have h1 := (qs_ls_add ((0, 0, 0, 0), [], []) hN hi).length_eq
        have h2 := qs_ls_le (va_up S i (some ((0, 0, 0, 0), [], []))) 16
        rw [List.length_append, P.length_eq] at h1
        have h3 : [(((0, 0, 0, 0), [], []) : qa_C)].length = 1 := rfl
        omega
      rw [qb_rv H]
      refine qe_X1_clauseWithSection H R (fun j D hj eD z => qp_iF qp_N (kf _ ?_)) (fun z => qp_iT rfl ?_)
      · unfold qa_add
        rw [if_neg hA, if_neg hlt, if_pos (List.any_eq_true.mpr ⟨D, P.mem_iff.mp (qs_ls_mem.mpr ⟨j, hj, eD⟩), by rw [z]; exact beq_self_eq_true s⟩)]
      · obtain ⟨a, ha, ex, ec⟩ := qa_note_of e
        have eq : qa_add L s x = (L.2.1 3, L.1 ++ [((L.2.1 3, s, L.2.1 2, -1), [(L.2.1 2, [a])], [])], upd L.2.1 3 (L.2.1 3 + 1), L.2.2) := by
          unfold qa_add
          rw [if_neg hA, if_neg hlt, if_neg, ec]
          rw [List.any_eq_true]
          rintro ⟨D, hD, z2⟩
          obtain ⟨j, hj, eD⟩ := qs_ls_mem.mp (P.mem_iff.mpr hD)
          exact z j D hj eD (by simpa using z2)
        rw [eq] at k
        rw [qb_f H 1, qb_f H 2, ex]
        refine qe_X9_ofNote ha fun T I => ?_
        rw [qc_rv (H.2.2.2 i hi)]
        refine qe_X3_begin (H.2.2.2 i hi) fun h1 H1 f1 => ?_
        obtain ⟨H2, f2⟩ := H.cl hi H1 f1
        rw [qb_f H2 1]
        refine qb_p H2 1 fun h3 H3 f3 => ?_
        rw [qb_f H3 3]
        refine qb_p H3 3 fun h4 H4 f4 => ?_
        rw [qc_f (H4.2.2.2 i hi) 1]
        have e1 : ((qb_sF (qb_sF (qb_sC B i (qc_new (B.1 i) (B.2.1 1) s (B.2.1 2) T)) 1 ((qb_sC B i (qc_new (B.1 i) (B.2.1 1) s (B.2.1 2) T)).2.1 1 + 1)) 3 ((qb_sF (qb_sC B i (qc_new (B.1 i) (B.2.1 1) s (B.2.1 2) T)) 1 ((qb_sC B i (qc_new (B.1 i) (B.2.1 1) s (B.2.1 2) T)).2.1 1 + 1)).2.1 3 + 1)).1 i).1 1 = L.2.1 3 := by
          show (va_up B.1 i (qc_new (B.1 i) (B.2.1 1) s (B.2.1 2) T) i).1 1 = L.2.1 3
          rw [va_up_self, ← F.1.1]
          rfl
        rw [e1]
        refine k h4 _ H4 ⟨va_up S i (some ((L.2.1 3, s, L.2.1 2, -1), [(L.2.1 2, [a])], [])), ?_, ?_, ?_⟩ (f2.tr (f3.tr f4))
        · have := R.up (i := i) (C1 := qc_new (B.1 i) (B.2.1 1) s (B.2.1 2) T) (S2 := va_up S i (some ((L.2.1 3, s, L.2.1 2, -1), [(L.2.1 2, [a])], []))) (fun j hj hji => va_up_ne _ _ hji) (fun A hA => ?_) (fun hA => ?_)
          · exact this
          · rw [va_up_self] at hA
            cases hA
            rw [F.1.1, F.1.2 2 (by omega) (by omega)]
            exact qr_C.new I
          · rw [va_up_self] at hA
            cases hA
        · exact (qs_ls_add _ hN hi).trans (List.Perm.append_right _ P)
        · refine ⟨⟨?_, fun m h1 h2 => ?_⟩, fun e he hh t h1 h2 h3 => ?_⟩
          · show upd (upd B.2.1 1 (B.2.1 1 + 1)) 3 (upd B.2.1 1 (B.2.1 1 + 1) 3 + 1) 1 = upd L.2.1 3 (L.2.1 3 + 1) 3
            rw [pk_un (by omega), pk_us, pk_us, F.1.1]
          · show upd (upd B.2.1 1 (B.2.1 1 + 1)) 3 (upd B.2.1 1 (B.2.1 1 + 1) 3 + 1) m = upd L.2.1 3 (L.2.1 3 + 1) m
            by_cases e3 : m = 3
            · rw [e3, pk_us, pk_us, pk_un (by omega), F.1.2 3 (by omega) (by omega)]
            · rw [pk_un e3, pk_un e3, pk_un (by omega)]
              exact F.1.2 m h1 h2
          · have h4 : upd L.2.1 3 (L.2.1 3 + 1) 7 = nI e := hh
            rw [pk_un (by omega)] at h4
            exact F.2 e he h4 t h1 h2 h3
    · refine qp_iT rfl (kf _ ?_)
      unfold qa_add
      rw [if_neg hA, if_pos (by rw [← P.length_eq, h16]; exact Nat.le_refl _)]
end QMV
