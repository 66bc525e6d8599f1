/-! What always holds of a ledger: ids, sections, days. -/
section QOK
def qa_wC (C : qa_C) (N : Nat) : Prop := (∃ i, i < N ∧ qa_id C = nI i) ∧ (qa_sun C = -1 ∨ ∃ u, u ≤ 400 * N + 9999 ∧ qa_sun C = nI u)
def qa_w (L : qa_L) (N : Nat) : Prop :=
  ((L.1.map qa_id).Pairwise (· < ·) ∧ qa_secs L.1 ∧ ∀ C ∈ L.1, qa_wC C N ∧ qa_id C < L.2.1 3) ∧ (∃ d, d ≤ 400 * N ∧ L.2.1 2 = nI d) ∧ (∃ a, a ≤ N ∧ L.2.1 3 = nI a) ∧ ∃ e, e ≤ N ∧ L.2.1 7 = nI e
variable {L : qa_L} {N : Nat}
theorem qa_wC.mono {C : qa_C} (w : qa_wC C N) {K : Nat} (h : N ≤ K) : qa_wC C K := by
  obtain ⟨⟨i, hi, e⟩, s⟩ := w
  refine ⟨⟨i, by omega, e⟩, ?_⟩
  rcases s with s | ⟨u, hu, e⟩
  · exact Or.inl s
  · exact Or.inr ⟨u, by omega, e⟩
theorem qa_w.mono (w : qa_w L N) {K : Nat} (h : N ≤ K) : qa_w L K := by
  obtain ⟨⟨w1, w2, w3⟩, ⟨d, hd, ed⟩, ⟨a, ha, ea⟩, e, he, ee⟩ := w
  exact ⟨⟨w1, w2, fun C hC => ⟨(w3 C hC).1.mono h, (w3 C hC).2⟩⟩, ⟨d, by omega, ed⟩, ⟨a, by omega, ea⟩, e, by omega, ee⟩
theorem qa_mem_of {α β : Type} {l l2 : List α} {f : α → β} (e : l.map f = l2.map f) {x : α} (h : x ∈ l) : ∃ y ∈ l2, f y = f x := by
  have : f x ∈ l2.map f := by
    rw [← e]
    exact List.mem_map_of_mem h
  exact List.mem_map.mp this
/-- the same ids and sections -/
theorem qa_w.same (w : qa_w L N) {l : List qa_C} {F E : Nat → Int32} (e1 : l.map qa_id = L.1.map qa_id) (e2 : l.map qa_sec = L.1.map qa_sec) (h : ∀ C ∈ l, qa_sun C = -1 ∨ ∃ u, u ≤ 400 * (N + 1) + 9999 ∧ qa_sun C = nI u) (f2 : F 2 = L.2.1 2) (f3 : F 3 = L.2.1 3) (f7 : F 7 = L.2.1 7) : qa_w (l, F, E) (N + 1) := by
  obtain ⟨⟨w1, w2, w3⟩, ⟨d, hd, ed⟩, ⟨a, ha, ea⟩, e, he, ee⟩ := w
  refine ⟨⟨?_, ⟨?_, fun C hC => ?_⟩, fun C hC => ⟨⟨?_, h C hC⟩, ?_⟩⟩, ⟨d, by omega, f2.trans ed⟩, ⟨a, by omega, f3.trans ea⟩, e, by omega, f7.trans ee⟩
  · show (l.map qa_id).Pairwise (· < ·)
    rw [e1]
    exact w1
  · show (l.map qa_sec).Nodup
    rw [e2]
    exact w2.1
  · obtain ⟨D, hD, eD⟩ := qa_mem_of e2 hC
    obtain ⟨s, h1, h2, h3⟩ := w2.2 D hD
    exact ⟨s, h1, h2, eD.symm.trans h3⟩
  · obtain ⟨D, hD, eD⟩ := qa_mem_of e1 hC
    obtain ⟨i, hi, ei⟩ := (w3 D hD).1.1
    exact ⟨i, by omega, eD.symm.trans ei⟩
  · obtain ⟨D, hD, eD⟩ := qa_mem_of e1 hC
    show qa_id C < F 3
    rw [f3, ← eD]
    exact (w3 D hD).2
theorem qa_upd_map {β : Type} {l : List qa_C} {x : Int32} {f : qa_C → qa_C} {g : qa_C → β} (h : ∀ C, g (f C) = g C) : (qa_upd l x f).map g = l.map g := by
  unfold qa_upd
  rw [List.map_map]
  refine List.map_congr_left fun C _ => ?_
  show g (if qa_id C == x then f C else C) = g C
  split
  · exact h C
  · rfl
theorem qa_upd_mem {l : List qa_C} {x : Int32} {f : qa_C → qa_C} {C : qa_C} (h : C ∈ qa_upd l x f) : ∃ D ∈ l, C = D ∨ C = f D := by
  obtain ⟨D, hD, e⟩ := List.mem_map.mp h
  refine ⟨D, hD, ?_⟩
  by_cases z : (qa_id D == x) = true
  · rw [if_pos z] at e
    exact Or.inr e.symm
  · rw [if_neg z] at e
    exact Or.inl e.symm
theorem qa_w.sunK (w : qa_w L N) {C : qa_C} (hC : C ∈ L.1) : qa_sun C = -1 ∨ ∃ u, u ≤ 400 * (N + 1) + 9999 ∧ qa_sun C = nI u := by
  rcases (w.1.2.2 C hC).1.2 with h | ⟨u, hu, e⟩
  · exact Or.inl h
  · exact Or.inr ⟨u, by omega, e⟩
/-- one clause changed, not its id nor its section -/
theorem qa_w.upd (w : qa_w L N) {x : Int32} {f : qa_C → qa_C} {F E : Nat → Int32} (h1 : ∀ C, qa_id (f C) = qa_id C) (h2 : ∀ C, qa_sec (f C) = qa_sec C) (h3 : ∀ C, qa_sun (f C) = qa_sun C ∨ ∃ u, u ≤ 400 * (N + 1) + 9999 ∧ qa_sun (f C) = nI u) (f2 : F 2 = L.2.1 2) (f3 : F 3 = L.2.1 3) (f7 : F 7 = L.2.1 7) : qa_w (qa_upd L.1 x f, F, E) (N + 1) := by
  refine w.same (qa_upd_map h1) (qa_upd_map h2) (fun C hC => ?_) f2 f3 f7
  obtain ⟨D, hD, e⟩ := qa_upd_mem hC
  rcases e with e | e
  · rw [e]
    exact w.sunK hD
  · rw [e]
    rcases h3 D with h | h
    · rw [h]
      exact w.sunK hD
    · exact Or.inr h
theorem qa_w.amend (w : qa_w L N) {x : Int32} {C : qa_C} {t : List Nat} : qa_w (qa_amend L x C t).2 (N + 1) :=
  w.upd (fun _ => rfl) (fun _ => rfl) (fun _ => Or.inl rfl) rfl rfl rfl
theorem qa_w.by_ (w : qa_w L N) {x : Int32} {f : qa_C → Int32 × qa_L} (h : ∀ C ∈ L.1, qa_w (f C).2 (N + 1)) : qa_w (qa_by L x f).2 (N + 1) := by
  cases e : qa_find L.1 x with
  | none =>
    rw [qa_by_n e]
    exact w.mono (Nat.le_succ N)
  | some C =>
    rw [qa_by_s e]
    exact h C (List.mem_of_find?_eq_some e)
theorem qa_w.ins (w : qa_w L N) (x p n : Int32) : qa_w (qa_ins L x p n).2 (N + 1) := w.by_ fun C _ => by
  unfold qa_insC
  repeat' split
  all_goals first | exact w.mono (Nat.le_succ N) | exact w.amend
theorem qa_w.rep (w : qa_w L N) (x p n : Int32) : qa_w (qa_rep L x p n).2 (N + 1) := w.by_ fun C _ => by
  unfold qa_repC
  repeat' split
  all_goals first | exact w.mono (Nat.le_succ N) | exact w.amend
theorem qa_w.del (w : qa_w L N) (x p : Int32) : qa_w (qa_del L x p).2 (N + 1) := w.by_ fun C _ => by
  unfold qa_delC
  repeat' split
  all_goals first | exact w.mono (Nat.le_succ N) | exact w.amend
/-- a day not before today, and near -/
theorem qa_near {d : Int32} {t K : Nat} (ht : t ≤ K) (hK : K < 2 ^ 30) (h1 : ¬ d < nI t) (h2 : ¬ 9999 < d - nI t) : ∃ u, u ≤ K + 9999 ∧ t ≤ u ∧ d = nI u := by
  have h0 : ¬ d < 0 := fun z => h1 (Int32.lt_of_lt_of_le z (nI_pos' (by omega)))
  obtain ⟨j, hj, rfl⟩ := nI_of h0
  have htj : t ≤ j := by
    rcases Nat.lt_or_ge j t with z | z
    · exact absurd (nI_lt z (by omega)) h1
    · exact z
  rw [pk_sub htj] at h2
  have : j - t ≤ 9999 := by
    rcases Nat.lt_or_ge 9999 (j - t) with z | z
    · exact absurd (nI_lt (a := 9999) z (by omega)) h2
    · exact z
  exact ⟨j, by omega, htj, rfl⟩
theorem qa_w.sun (w : qa_w L N) (hN : N < 2 ^ 20) (x d : Int32) : qa_w (qa_setSun L x d).2 (N + 1) := w.by_ fun C _ => by
  obtain ⟨t, ht, et⟩ := w.2.1
  unfold qa_sunC
  by_cases z : d < L.2.1 2 ∨ 9999 < d - L.2.1 2
  · rw [if_pos z]
    exact w.mono (Nat.le_succ N)
  · rw [if_neg z]
    split
    · exact w.mono (Nat.le_succ N)
    · rw [et] at z
      obtain ⟨u, hu, _, eu⟩ := qa_near ht (by omega) (fun y => z (Or.inl y)) (fun y => z (Or.inr y))
      exact w.upd (fun _ => rfl) (fun _ => rfl) (fun _ => Or.inr ⟨u, by omega, eu⟩) rfl rfl rfl
theorem qa_w.cite (w : qa_w L N) (x y : Int32) : qa_w (qa_cite L x y).2 (N + 1) := w.by_ fun C _ => by
  unfold qa_citeC
  repeat' split
  all_goals first | exact w.mono (Nat.le_succ N) | exact w.upd (fun _ => rfl) (fun _ => rfl) (fun _ => Or.inl rfl) rfl rfl rfl
theorem qa_w.uncite (w : qa_w L N) (x y : Int32) : qa_w (qa_uncite L x y).2 (N + 1) := w.by_ fun C _ => by
  unfold qa_unciteC
  split
  · exact w.upd (fun _ => rfl) (fun _ => rfl) (fun _ => Or.inl rfl) rfl rfl rfl
  · exact w.mono (Nat.le_succ N)
/-- some clauses left out -/
theorem qa_w.sub (w : qa_w L N) {l : List qa_C} {F E : Nat → Int32} (hs : l.Sublist L.1) (f2 : F 2 = L.2.1 2) (f3 : F 3 = L.2.1 3) (f7 : F 7 = L.2.1 7) : qa_w (l, F, E) (N + 1) := by
  obtain ⟨⟨w1, w2, w3⟩, ⟨d, hd, ed⟩, ⟨a, ha, ea⟩, e, he, ee⟩ := w
  refine ⟨⟨w1.sublist (hs.map _), ⟨(hs.map qa_sec).nodup w2.1, fun C hC => w2.2 C (hs.subset hC)⟩, fun C hC => ⟨(w3 C (hs.subset hC)).1.mono (Nat.le_succ N), ?_⟩⟩, ⟨d, by omega, f2.trans ed⟩, ⟨a, by omega, f3.trans ea⟩, e, by omega, f7.trans ee⟩
  show qa_id C < F 3
  rw [f3]
  exact (w3 C (hs.subset hC)).2
theorem qa_w.repeal (w : qa_w L N) (x : Int32) : qa_w (qa_repeal L x).2 (N + 1) := by
  unfold qa_repeal
  split
  · exact w.sub List.filter_sublist rfl rfl rfl
  · exact w.mono (Nat.le_succ N)
theorem qa_w.adv (w : qa_w L N) (hN : N < 2 ^ 20) (n : Int32) : qa_w (qa_adv L n).2 (N + 1) := by
  unfold qa_adv
  by_cases z : n < 1 ∨ 400 < n
  · rw [if_pos z]
    exact w.mono (Nat.le_succ N)
  · rw [if_neg z]
    have z1 : ¬ n < 1 := fun y => z (Or.inl y)
    have z2 : n ≤ 400 := Int32.not_lt.mp fun y => z (Or.inr y)
    obtain ⟨j, hj, rfl⟩ := nI_of2 (M := 400) (n := 400) rfl (fun y => z1 (Int32.lt_trans y (by decide))) z2
    obtain ⟨⟨w1, w2, w3⟩, ⟨d, hd, ed⟩, ⟨a, ha, ea⟩, e, he, ee⟩ := w
    refine ⟨⟨w1, w2, fun C hC => ⟨(w3 C hC).1.mono (Nat.le_succ N), (w3 C hC).2⟩⟩, ⟨d + j, by omega, ?_⟩, ⟨a, by omega, ea⟩, e, by omega, ee⟩
    show L.2.1 2 + nI j = nI (d + j)
    rw [ed, nI_add]
theorem qa_w.add (w : qa_w L N) (hN : N < 2 ^ 20) (s x : Int32) : qa_w (qa_add L s x).2 (N + 1) := by
  unfold qa_add
  by_cases z : s < 1 ∨ 99 < s ∨ qa_note x = false
  · rw [if_pos z]
    exact w.mono (Nat.le_succ N)
  rw [if_neg z]
  split
  · exact w.mono (Nat.le_succ N)
  by_cases z2 : (L.1.any fun C => qa_sec C == s) = true
  · rw [if_pos z2]
    exact w.mono (Nat.le_succ N)
  rw [if_neg z2]
  have z1 : ¬ s < 1 := fun y => z (Or.inl y)
  have z3 : s ≤ 99 := Int32.not_lt.mp fun y => z (Or.inr (Or.inl y))
  obtain ⟨j, hj, rfl⟩ := nI_of2 (M := 99) (n := 99) rfl (fun y => z1 (Int32.lt_trans y (by decide))) z3
  have hj1 : 1 ≤ j := by
    rcases Nat.lt_or_ge j 1 with y | y
    · exact absurd (nI_lt (b := 1) y (by omega)) z1
    · exact y
  obtain ⟨⟨w1, w2, w3⟩, ⟨d, hd, ed⟩, ⟨a, ha, ea⟩, e, he, ee⟩ := w
  have lt : nI a < nI (a + 1) := nI_lt (Nat.lt_succ_self a) (by omega)
  have f3 : L.2.1 3 + 1 = nI (a + 1) := by rw [ea, nI_1]
  refine ⟨⟨?_, ⟨?_, fun C hC => ?_⟩, fun C hC => ?_⟩, ⟨d, by omega, ed⟩, ⟨a + 1, by omega, f3⟩, e, by omega, ee⟩
  · show ((L.1 ++ [_]).map qa_id).Pairwise (· < ·)
    rw [List.map_append]
    refine List.pairwise_append.mpr ⟨w1, List.pairwise_singleton _ _, fun y hy u hu => ?_⟩
    obtain ⟨D, hD, rfl⟩ := List.mem_map.mp hy
    obtain rfl : u = L.2.1 3 := List.mem_singleton.mp hu
    exact (w3 D hD).2
  · show ((L.1 ++ [_]).map qa_sec).Nodup
    rw [List.map_append]
    refine List.nodup_append.mpr ⟨w2.1, List.pairwise_singleton _ _, fun y hy u hu => ?_⟩
    obtain ⟨D, hD, rfl⟩ := List.mem_map.mp hy
    obtain rfl : u = nI j := List.mem_singleton.mp hu
    exact fun q => z2 (List.any_eq_true.mpr ⟨D, hD, by rw [q]; exact beq_self_eq_true _⟩)
  · rcases List.mem_append.mp hC with h | h
    · exact w2.2 C h
    · obtain rfl := List.mem_singleton.mp h
      exact ⟨j, hj1, hj, rfl⟩
  · rcases List.mem_append.mp hC with h | h
    · refine ⟨(w3 C h).1.mono (Nat.le_succ N), ?_⟩
      show qa_id C < L.2.1 3 + 1
      rw [f3]
      exact Int32.lt_trans ((w3 C h).2) (by rw [ea]; exact lt)
    · obtain rfl := List.mem_singleton.mp h
      refine ⟨⟨⟨a, by omega, ea⟩, Or.inl rfl⟩, ?_⟩
      show L.2.1 3 < L.2.1 3 + 1
      rw [f3, ea]
      exact lt
theorem qa_secs.sub {l l2 : List qa_C} (h : qa_secs l) (s : l2.Sublist l) : qa_secs l2 := ⟨(s.map qa_sec).nodup h.1, fun A hA => h.2 A (s.subset hA)⟩
theorem qa_w.cons (w : qa_w L N) (hN : N < 2 ^ 20) : qa_w (qa_cons L).2 (N + 1) := by
  obtain ⟨⟨w1, w2, w3⟩, ⟨d, hd, ed⟩, ⟨a, ha, ea⟩, e, he, ee⟩ := w
  have hs : (qa_live L).Sublist L.1 := List.filter_sublist
  have hS := w2.sub hs
  have hr : ∀ A ∈ qa_live L, qa_below (qa_live L) (qa_sec A) < 99 := fun A hA => by
    obtain ⟨s, h1, h2, h3⟩ := hS.2 A hA
    have := qa_rank_lt hS (A := A) h1 h2 h3
    omega
  have hm : ∀ C ∈ (qa_live L).map (qa_fresh (qa_live L)), ∃ D ∈ qa_live L, C = qa_fresh (qa_live L) D := fun C hC => by
    obtain ⟨D, hD, q⟩ := List.mem_map.mp hC
    exact ⟨D, hD, q.symm⟩
  have e1 : ((qa_live L).map (qa_fresh (qa_live L))).map qa_id = (qa_live L).map qa_id := by
    rw [List.map_map]
    rfl
  refine ⟨⟨?_, ⟨?_, fun C hC => ?_⟩, fun C hC => ?_⟩, ⟨d, by omega, ed⟩, ⟨a, by omega, ea⟩, e + 1, by omega, ?_⟩
  · show (((qa_live L).map (qa_fresh (qa_live L))).map qa_id).Pairwise (· < ·)
    rw [e1]
    exact w1.sublist (hs.map _)
  · show (((qa_live L).map (qa_fresh (qa_live L))).map qa_sec).Nodup
    rw [List.map_map]
    have hp := List.pairwise_map.mp hS.1
    refine List.pairwise_map.mpr ?_
    refine (List.Pairwise.and_mem.mp hp).imp fun {A D} q => ?_
    obtain ⟨hA, hD, ne⟩ := q
    intro z
    have z : nI (qa_below (qa_live L) (qa_sec A) + 1) = nI (qa_below (qa_live L) (qa_sec D) + 1) := z
    have rA := hr A hA
    have rD := hr D hD
    have z := (nI_eq (by omega) (by omega)).mp z
    rcases Int.lt_trichotomy (qa_sec A).toInt (qa_sec D).toInt with y | y | y
    · have := qa_rank_mono hA (Int32.lt_iff_toInt_lt.mpr y)
      omega
    · exact ne (Int32.toInt_inj.mp y)
    · have := qa_rank_mono hD (Int32.lt_iff_toInt_lt.mpr y)
      omega
  · obtain ⟨D, hD, rfl⟩ := hm C hC
    have := hr D hD
    exact ⟨_, Nat.le_add_left 1 _, by omega, rfl⟩
  · obtain ⟨D, hD, rfl⟩ := hm C hC
    have := w3 D (hs.subset hD)
    exact ⟨this.1.mono (Nat.le_succ N), this.2⟩
  · show L.2.1 7 + 1 = nI (e + 1)
    rw [ee, nI_1]
/-! what is refused leaves the ledger as it is -/
def qa_no (L : qa_L) (r : Int32 × qa_L) (ks : List Int32) : Prop := r.1 < 0 → r.2 = L ∧ r.1 ∈ ks
theorem qa_no.of {ks : List Int32} {y : Int32} (h : y ∈ ks) : qa_no L (y, L) ks := fun _ => ⟨rfl, h⟩
theorem qa_no.pos {ks : List Int32} {r : Int32 × qa_L} (h : ¬ r.1 < 0) : qa_no L r ks := fun z => absurd z h
theorem qa_no.by_ {ks : List Int32} {x : Int32} {f : qa_C → Int32 × qa_L} (h1 : (-1 : Int32) ∈ ks) (h : ∀ C ∈ L.1, qa_no L (f C) ks) : qa_no L (qa_by L x f) ks := by
  cases e : qa_find L.1 x with
  | none =>
    rw [qa_by_n e]
    exact qa_no.of h1
  | some C =>
    rw [qa_by_s e]
    exact h C (List.mem_of_find?_eq_some e)
theorem qa_no.ins (h : ∀ A ∈ L.1, qa_sh A) (x p n : Int32) : qa_no L (qa_ins L x p n) [-1, -2, -3, -4, -5] := qa_no.by_ (by decide) fun C hC => by
  have := (h C hC).1.2.1
  unfold qa_insC
  repeat' split
  all_goals first | exact qa_no.of (by decide) | exact qa_no.pos (qp_na (n := (qa_vs C).length + 1) (by omega))
theorem qa_no.rep (h : ∀ A ∈ L.1, qa_sh A) (x p n : Int32) : qa_no L (qa_rep L x p n) [-1, -2, -3, -4] := qa_no.by_ (by decide) fun C hC => by
  have := (h C hC).1.2.1
  unfold qa_repC
  repeat' split
  all_goals first | exact qa_no.of (by decide) | exact qa_no.pos (qp_na (n := (qa_vs C).length + 1) (by omega))
theorem qa_no.del (h : ∀ A ∈ L.1, qa_sh A) (x p : Int32) : qa_no L (qa_del L x p) [-1, -2, -4, -5] := qa_no.by_ (by decide) fun C hC => by
  have := (h C hC).1.2.1
  unfold qa_delC
  repeat' split
  all_goals first | exact qa_no.of (by decide) | exact qa_no.pos (qp_na (n := (qa_vs C).length + 1) (by omega))
theorem qa_no.sun (w : qa_w L N) (hN : N < 2 ^ 20) (x d : Int32) : qa_no L (qa_setSun L x d) [-1, -3, -4] := qa_no.by_ (by decide) fun C hC => by
  obtain ⟨t, ht, et⟩ := w.2.1
  unfold qa_sunC
  by_cases z : d < L.2.1 2 ∨ 9999 < d - L.2.1 2
  · rw [if_pos z]
    exact qa_no.of (by decide)
  · rw [if_neg z]
    split
    · exact qa_no.of (by decide)
    · refine qa_no.pos ?_
      show ¬ d - L.2.1 2 < 0
      rw [et] at z ⊢
      exact qp_sub0 (by omega) fun y => z (Or.inl y)
theorem qa_no.cite (h : ∀ A ∈ L.1, qa_sh A) (x y : Int32) : qa_no L (qa_cite L x y) [-1, -3, -4] := qa_no.by_ (by decide) fun C hC => by
  have := (h C hC).2.1
  unfold qa_citeC
  repeat' split
  all_goals first | exact qa_no.of (by decide) | exact qa_no.pos (qp_na (n := (qa_ci C).length + 1) (by omega))
theorem qa_no.uncite (h : ∀ A ∈ L.1, qa_sh A) (x y : Int32) : qa_no L (qa_uncite L x y) [-1] := qa_no.by_ (by decide) fun C hC => by
  have := (h C hC).2.1
  unfold qa_unciteC
  split
  · exact qa_no.pos (qp_na (n := (qa_ci C).length - 1) (by omega))
  · exact qa_no.of (by decide)
theorem qa_no.repeal (h : L.1.length ≤ 16) (x : Int32) : qa_no L (qa_repeal L x) [-1] := by
  unfold qa_repeal
  split
  · refine qa_no.pos (qp_na (n := (L.1.filter fun C => qa_id C != x).length) ?_)
    have := List.length_filter_le (fun C => qa_id C != x) L.1
    omega
  · exact qa_no.of (by decide)
theorem qa_laps_ge {A : qa_C} {d e : Int32} (h : qa_laps A d = true) (l : d ≤ e) : qa_laps A e = true := by
  unfold qa_laps at *
  rw [Bool.and_eq_true] at *
  exact ⟨h.1, decide_eq_true (Int32.lt_of_lt_of_le (of_decide_eq_true h.2) l)⟩
theorem qa_w.hge (w : qa_w L N) (hN : N < 2 ^ 20) {n : Int32} : ∀ A ∈ L.1, 0 ≤ L.2.1 2 ∧ (1 ≤ n → n ≤ 400 → qa_laps A (L.2.1 2) = true → qa_laps A (L.2.1 2 + n) = true) := fun A _ => by
  obtain ⟨t, ht, et⟩ := w.2.1
  rw [et]
  refine ⟨nI_pos' (by omega), fun h1 h2 h => ?_⟩
  obtain ⟨j, hj, rfl⟩ := nI_of2 (M := 400) (n := 400) rfl (Int32.not_lt.mpr (Int32.le_trans (by decide) h1)) h2
  rw [nI_add]
  exact qa_laps_ge h (nI_le (Nat.le_add_right _ _) (by omega))
theorem qa_no.adv (w : qa_w L N) (hN : N < 2 ^ 20) (h : L.1.length ≤ 16) (n : Int32) : qa_no L (qa_adv L n) [-3] := by
  unfold qa_adv
  by_cases z : n < 1 ∨ 400 < n
  · rw [if_pos z]
    exact qa_no.of (by decide)
  · rw [if_neg z]
    refine qa_no.pos ?_
    have hc : qa_over L ≤ L.1.countP fun C => qa_laps C (L.2.1 2 + n) := by
      refine List.countP_mono_left fun A hA q => ?_
      exact (w.hge hN A hA).2 (Int32.not_lt.mp fun y => z (Or.inl y)) (Int32.not_lt.mp fun y => z (Or.inr y)) q
    have hl := List.countP_le_length (p := fun C => qa_laps C (L.2.1 2 + n)) (l := L.1)
    show ¬ nI _ - nI _ < 0
    rw [pk_sub hc]
    exact qp_na (by omega)
theorem qa_no.add (w : qa_w L N) (hN : N < 2 ^ 20) (s x : Int32) : qa_no L (qa_add L s x) [-3, -4, -5] := by
  obtain ⟨a, ha, ea⟩ := w.2.2.1
  unfold qa_add
  repeat' split
  all_goals first | exact qa_no.of (by decide) | exact qa_no.pos (by show ¬ L.2.1 3 < 0; rw [ea]; exact qp_na (by omega))
theorem qa_no.cons (w : qa_w L N) (hN : N < 2 ^ 20) : qa_no L (qa_cons L) [] := by
  obtain ⟨e, he, ee⟩ := w.2.2.2
  refine qa_no.pos ?_
  show ¬ L.2.1 7 + 1 < 0
  rw [ee, nI_1]
  exact qp_na (by omega)
/-! what the calls want of it -/
theorem qa_w.sunok (w : qa_w L N) (hN : N < 2 ^ 20) : ∀ A ∈ L.1, qa_sunok A := fun A hA => by
  rcases (w.1.2.2 A hA).1.2 with h | ⟨u, hu, e⟩
  · exact Or.inl h
  · refine Or.inr ?_
    rw [e]
    exact qp_na (by omega)
theorem qa_w.id1 (w : qa_w L N) (hN : N < 2 ^ 20) : ∀ A ∈ L.1, qa_id A ≠ -1 := fun A hA => by
  obtain ⟨i, hi, e⟩ := (w.1.2.2 A hA).1.1
  rw [e]
  exact qp_nI_m1 (by omega)
theorem qk_G.sh {g : Nat → Int32} (R : qk_G g L) : ∀ A ∈ L.1, qa_sh A := qa_all fun i hi => (R.2.2 i hi).2.2.2
end QOK
