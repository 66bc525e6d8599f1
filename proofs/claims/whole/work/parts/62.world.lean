/-! Both sides tied to one ledger: the law's world, its calls' ends. -/
section QLW
variable {σ : Nat → Nat} {h h1 h2 g : ql_H} {b i N L9 : Nat} {S : qa_S} {T : Option qa_L} {L : qa_L} {P : List qa_L} {M M1 M2 : qk_T} {Q : Int32 → ql_H → Prop} {X : String → ql_H → Prop} {r : Nat × Int32 × qa_S} {nm : Nat → String}
def qi_S (S : qa_S) (N : Nat) : Prop := (qa_w S.1 N ∧ (∀ L ∈ S.2.1, qa_w L N) ∧ ∀ L, S.2.2.1 = some L → qa_w L N) ∧ (S.2.2.2.1.length ≤ 60 ∧ ∀ c ∈ S.2.2.2.1, c < 65536) ∧ ((S.2.2.2.2.1 = -1 ∨ ¬ S.2.2.2.2.1 < 0) ∧ (S.2.2.2.2.2.1 = -1 ∨ ¬ S.2.2.2.2.2.1 < 0)) ∧ S.2.2.2.2.2.2.length ≤ 40 ∧ ∀ c ∈ S.2.2.2.2.2.2, c < 65536
theorem qi_S.mono (I : qi_S S N) {K : Nat} (h : N ≤ K) : qi_S S K := ⟨⟨I.1.1.mono h, fun L hL => (I.1.2.1 L hL).mono h, fun L e => (I.1.2.2 L e).mono h⟩, I.2⟩
theorem qa_push_mem {L2 : qa_L} (h : L2 ∈ qa_push P L) : L2 ∈ P ∨ L2 = L := by
  have := List.mem_of_mem_drop h
  rcases List.mem_append.mp this with z | z
  · exact Or.inl z
  · exact Or.inr (List.mem_singleton.mp z)
theorem qi_S.did (I : qi_S S N) {r : Int32 × qa_L} (w : qa_w r.2 (N + 1)) : qi_S (qa_did S r) (N + 13) := by
  refine ⟨⟨w.mono (by omega), fun L hL => ?_, fun L e => (I.1.2.2 L e).mono (by omega)⟩, I.2⟩
  have hL : L ∈ (if r.1 < 0 then S.2.1 else qa_push S.2.1 S.1) := hL
  split at hL
  · exact (I.1.2.1 L hL).mono (by omega)
  · rcases qa_push_mem hL with z | z
    · exact (I.1.2.1 L z).mono (by omega)
    · rw [z]
      exact I.1.1.mono (by omega)
theorem qi_S.type (I : qi_S S N) {c : Nat} (hc : c < 65536) : qi_S (qm_type S c).2.2 (N + 13) := by
  unfold qm_type
  split
  · exact I.mono (by omega)
  split
  · exact I.mono (by omega)
  · rename_i h60
    have I := I.mono (K := N + 13) (by omega)
    have l60 := I.2.1.1
    refine ⟨I.1, ⟨?_, fun x hx => ?_⟩, I.2.2⟩
    · show (S.2.2.2.1 ++ [c]).length ≤ 60
      rw [List.length_append]
      show _ + 1 ≤ 60
      omega
    · have hx : x ∈ S.2.2.2.1 ++ [c] := hx
      rcases List.mem_append.mp hx with z | z
      · exact I.2.1.2 x z
      · rw [List.mem_singleton.mp z]
        exact hc
theorem qi_S.run (I : qi_S S N) (hN : N + 13 < 2 ^ 20) : qi_S (qm_run S).2.2 (N + 13) := by
  have rok := qz_rd_ok I.2.1.2 12 0 [] (Nat.zero_le _) (fun C hC => absurd hC List.not_mem_nil)
  have rok : (∀ C ∈ (qz_read S.2.2.2.1).2.2, qz_okC C) ∧ (qz_read S.2.2.2.1).2.2.length ≤ 0 + 12 ∧ (qz_read S.2.2.2.1).2.1 ≤ S.2.2.2.1.length := rok
  have l60 := I.2.1.1
  unfold qm_run
  generalize qz_read S.2.2.2.1 = R at rok
  have J := I.mono (K := N + 13) (by omega)
  have ru := qz_run_ok R.2.2 0 S.1 N I.1.1 (by omega)
  unfold qm_runR
  split
  · cases e : qz_run R.2.2 0 S.1 with
    | inl j =>
      have hj := ru.2 j e
      exact ⟨J.1, ⟨Nat.zero_le _, fun c hc => absurd hc List.not_mem_nil⟩, ⟨J.2.2.1.1, Or.inr (nI_pos (by omega))⟩, J.2.2.2⟩
    | inr L =>
      have w := ru.1 L e
      refine ⟨⟨w.mono (by omega), fun L2 hL => ?_, J.1.2.2⟩, ⟨Nat.zero_le _, fun c hc => absurd hc List.not_mem_nil⟩, J.2.2⟩
      rcases qa_push_mem hL with z | z
      · exact J.1.2.1 L2 z
      · rw [z]
        exact J.1.1
  · exact ⟨J.1, ⟨Nat.zero_le _, fun c hc => absurd hc List.not_mem_nil⟩, ⟨Or.inr (nI_pos (by omega)), J.2.2.1.2⟩, J.2.2.2⟩
theorem qi_S.undo (I : qi_S S N) : qi_S (qm_undo S).2.2 (N + 13) := by
  have J := I.mono (K := N + 13) (by omega)
  unfold qm_undo
  cases e : S.2.1.getLast? with
  | none => exact J
  | some L => exact ⟨⟨J.1.2.1 L (List.mem_of_getLast? e), fun L2 h => J.1.2.1 L2 ((List.dropLast_sublist _).subset h), J.1.2.2⟩, J.2⟩
theorem qi_S.save (I : qi_S S N) : qi_S (qm_save S) (N + 13) := by
  have J := I.mono (K := N + 13) (by omega)
  exact ⟨⟨J.1.1, J.1.2.1, fun L e => by cases e; exact J.1.1⟩, J.2⟩
theorem qi_S.restore (I : qi_S S N) : qi_S (qm_restore S).2.2 (N + 13) := by
  have J := I.mono (K := N + 13) (by omega)
  unfold qm_restore
  cases e : S.2.2.1 with
  | none => exact J
  | some L => exact ⟨⟨J.1.2.2 L e, fun L2 h => absurd h List.not_mem_nil, J.1.2.2⟩, J.2⟩
theorem qi_S.render (I : qi_S S N) (sh : ∀ A ∈ S.1.1, (qa_txt A).length ≤ 12 ∧ ∀ a ∈ qa_txt A, a < 7) {x : Int32} : qi_S (qm_render S x).2.2 (N + 13) := by
  have J := I.mono (K := N + 13) (by omega)
  unfold qm_render
  cases e : qa_find S.1.1 x with
  | none => exact J
  | some A =>
    have s := sh A (List.mem_of_find?_eq_some e)
    refine ⟨J.1, J.2.1, J.2.2.1, ?_, fun c hc => ?_⟩
    · have := qm_text_len S.1 s.1
      show (qm_text S.1 A).length ≤ 40
      omega
    · have := qm_text_ch S.1 s.2 c hc
      omega
/-! the world -/
def qy_o (h : ql_H) (b : Nat) : Prop := ∃ f, h.2 (b + 790) = some (.inl (1, 1, .inr (.inl f)))
def qy_d (h : ql_H) (b : Nat) : Prop := ∃ f, h.2 (b + 791) = some (.inl (4, 1, .inr (.inr (.inr (.inl f)))))
def qy_at (σ : Nat → Nat) (h : ql_H) (b : Nat) (M : qk_T) (S : qa_S) : Prop := qx_at σ h b S none ∧ (qk_at h (b + 780) M ∧ qk_all M S) ∧ qy_o h b ∧ qy_d h b
theorem qx_at.out (H : qx_at σ h b S T) {q : Nat} {o : ql_O} (hq : q = b + 790 ∨ q = b + 791) : qx_at σ (ql_up h q o) b S T := by
  obtain ⟨z, ⟨k1, k2, k3⟩, ⟨a1, a2, s1, s2, s3, s4, s5, s6, s7⟩, x, e⟩ := H
  exact ⟨(qp_up_n (by omega)).trans z, ⟨k1.kept fun q h1 h2 => qp_up_n (by omega), k2.kept fun q h1 h2 => qp_up_n (by omega), k3.kept fun q h1 h2 => qp_up_n (by omega)⟩, ⟨a1, a2, s1.kept (fun q h1 h2 => qp_up_n (by omega)) (qp_up_n (by omega)), s2.kept (qp_up_n (by omega)) (qp_up_n (by omega)), s3, s4, s5, s6, s7⟩, x.kept fun q h1 h2 => qp_up_n (by omega), e⟩
theorem qx_at.mod (H : qx_at σ h b S T) (f : qp_fr (b + 780) (b + 780 + 10) h g) : qx_at σ g b S T := by
  obtain ⟨z, ⟨k1, k2, k3⟩, ⟨a1, a2, s1, s2, s3, s4, s5, s6, s7⟩, x, e⟩ := H
  have u := f.1
  exact ⟨(f.2 _ (by omega)).trans z, ⟨k1.kept fun q h1 h2 => f.2 q (by omega), k2.kept fun q h1 h2 => f.2 q (by omega), k3.kept fun q h1 h2 => f.2 q (by omega)⟩, ⟨a1, a2, s1.kept (fun q h1 h2 => f.2 q (by omega)) (f.2 _ (by omega)), s2.kept (f.2 _ (by omega)) (f.2 _ (by omega)), s3, s4, s5, by omega, by omega⟩, x.kept fun q h1 h2 => f.2 q (by omega), by omega⟩
/-- but for the class's cells and the answer's -/
def qy_fr (b : Nat) (h h1 : ql_H) : Prop := h.1 ≤ h1.1 ∧ ∀ q, b + 780 ≤ q → q < b + 792 → q ≠ b + 790 → h1.2 q = h.2 q
theorem qx_fr.y (f : qx_fr b h h1) : qy_fr b h h1 := ⟨f.1, fun q h1 h2 _ => f.2 q h1 h2⟩
/-- a call's end, with its answer laid down -/
def qy_k (σ : Nat → Nat) (b : Nat) (h : ql_H) (r : Nat × Int32 × qa_S) (Q : Int32 → ql_H → Prop) : Prop := ∀ h1 f1, qx_at σ h1 b r.2.2 none → qy_fr b h h1 → h1.2 (b + 790) = some (.inl (1, 1, .inr (.inl f1))) → (r.1 = 0 → f1 0 = r.2.1.toInt64) → Q (nI r.1) h1
theorem qy_put (H : qx_at σ h b S T) {f : Nat → Int64} (o : h.2 (b + 790) = some (.inl (1, 1, .inr (.inl f)))) {v : Int64} {K : ql_H → Prop} (k : ∀ h2, qx_at σ h2 b S T → (h2.1 = h.1 ∧ ∀ q, q ≠ b + 790 → h2.2 q = h.2 q) → h2.2 (b + 790) = some (.inl (1, 1, .inr (.inl (vp_updL f 0 v)))) → K h2) : ql_sJ h (some (b + 790)) 0 v K :=
  Eq.mpr (qp_sJ (j := 0) (v := v) (K := K) o (by decide) (by decide)) (k _ (H.out (Or.inl rfl)) ⟨rfl, fun q hq => qp_up_n hq⟩ qp_up_s)
theorem qy_pm (ho : qy_o h b) (hx : r.1 ≠ 0 → ∀ h1, Q (nI r.1) h1 → X (nm r.1) h1) (k : qy_k σ b h r Q) : qx_pm σ b h nm r (fun x1 h => ql_sJ h (some (b + 790)) 0 x1.toInt64 fun h => Q 0 h) X := fun h1 H1 f1 => by
  obtain ⟨f, o⟩ := ho
  have o1 := (f1.2 _ (by omega) (by omega)).trans o
  refine ⟨fun e => ?_, fun ne => hx ne h1 (k h1 f H1 f1.y o1 fun e => absurd e ne)⟩
  refine qy_put H1 o1 fun h2 H2 f2 o2 => ?_
  have := k h2 _ H2 ⟨by rw [f2.1]; exact f1.1, fun q a c n => (f2.2 q n).trans (f1.2 q a c)⟩ o2 fun _ => pk_uLs
  rw [e] at this
  exact this
theorem qy_pmB (ho : qy_o h b) (hx : r.1 ≠ 0 → ∀ h1, Q (nI r.1) h1 → X (nm r.1) h1) (hb : r.1 = 0 → r.2.1 = 0 ∨ r.2.1 = 1) (k : qy_k σ b h r Q) : qx_pm σ b h nm r (fun x1 h => if x1 = 0 then (ql_sJ h (some (b + 790)) 0 0 fun h => Q 0 h) else (ql_sJ h (some (b + 790)) 0 1 fun h => Q 0 h)) X := fun h1 H1 f1 => by
  have K := qy_pm ho hx k h1 H1 f1
  refine ⟨fun e => ?_, K.2⟩
  have k1 : ql_sJ h1 (some (b + 790)) 0 r.2.1.toInt64 (fun h => Q 0 h) := K.1 e
  rcases hb e with z | z
  · rw [z, show (0 : Int32).toInt64 = (0 : Int64) from by decide] at k1
    exact qp_iT z k1
  · rw [z, show (1 : Int32).toInt64 = (1 : Int64) from by decide] at k1
    exact qp_iF (by rw [z]; exact qp_1) k1
/-- a change's end -/
def qm_chg (S : qa_S) (r : Int32 × qa_L) (f : Int32 → Nat) : Nat × Int32 × qa_S := (if r.1 < 0 then f r.1 else 0, r.1, qa_did S r)
theorem qy_po {r : Int32 × qa_L} {f : Int32 → Nat} (ho : qy_o h b) (hf : r.1 < 0 → 0 < f r.1) (hx : r.1 < 0 → ∀ h1, Q (nI (f r.1)) h1 → X (qx_nm r.1) h1) (k : qy_k σ b h (qm_chg S r f) Q) : qx_po σ b S h r (fun x1 h => ql_sJ h (some (b + 790)) 0 x1.toInt64 fun h => Q 0 h) X := fun h1 H1 f1 => by
  obtain ⟨f0, o⟩ := ho
  have o1 := (f1.2 _ (by omega) (by omega)).trans o
  constructor
  · intro z
    have e : (qm_chg S r f).1 = f r.1 := if_pos z
    have := k h1 f0 H1 f1.y o1 fun y => by
      rw [e] at y
      have := hf z
      omega
    rw [e] at this
    exact hx z h1 this
  · intro z
    have e : (qm_chg S r f).1 = 0 := if_neg z
    refine qy_put H1 o1 fun h2 H2 f2 o2 => ?_
    have := k h2 _ H2 ⟨by rw [f2.1]; exact f1.1, fun q a c n => (f2.2 q n).trans (f1.2 q a c)⟩ o2 fun _ => pk_uLs
    rw [e] at this
    exact this
/-! what is thrown is told by its code -/
theorem qy_s {t s : String} (e : t = s) (k : X s h) : X t h := by
  subst e
  exact k
theorem qy_x1 {n : Nat} (hn : n ≤ 1) {s : String} (hs : nm 1 = s) : n ≠ 0 → ∀ h1, Q (nI n) h1 → (fun (E : String) (h : ql_H) => if E = s then Q (1 : Int32) h else False) (nm n) h1 := fun ne h1 q => by
  have : n = 1 := by omega
  subst this
  exact qp_iT hs q
theorem qy_x2 {n : Nat} (hn : n ≤ 2) {s1 s2 : String} (hs1 : nm 1 = s1) (hs2 : nm 2 = s2) (ne : ¬ s2 = s1) : n ≠ 0 → ∀ h1, Q (nI n) h1 → (fun (E : String) (h : ql_H) => if E = s1 then Q (1 : Int32) h else if E = s2 then Q (2 : Int32) h else False) (nm n) h1 := fun n0 h1 q => by
  rcases (show n = 1 ∨ n = 2 by omega) with e | e
  · subst e
    exact qp_iT hs1 q
  · subst e
    refine qp_iF ?_ (qp_iT hs2 q)
    rw [hs2]
    exact ne
/-! codes are small -/
theorem qa_ans_le {α : Type} (o : Option α) (f : α → Int32) : (qa_ans o f).1 ≤ 1 := by
  cases o with
  | none => exact Nat.le_refl 1
  | some a => exact Nat.zero_le 1
theorem qa_nth_le (t : List Nat) (p : Int32) : (qa_nth t p).1 ≤ 2 := by
  unfold qa_nth
  split
  · exact Nat.le_refl 2
  · exact Nat.zero_le 2
theorem qq_noteAt_le (L : qa_L) (c p : Int32) : (qq_noteAt L c p).1 ≤ 2 := by
  unfold qq_noteAt qa_bind
  split
  · exact Nat.le_succ 1
  · exact qa_nth_le _ _
theorem qq_noteOn_le (L : qa_L) (c d p : Int32) : (qq_noteOn L c d p).1 ≤ 2 := by
  unfold qq_noteOn
  split
  · exact Nat.le_succ 1
  · exact qa_nth_le _ _
theorem qq_diff_le (L : qa_L) (c d e : Int32) : (qq_diff L c d e).1 ≤ 1 := by
  unfold qq_diff qa_two
  split
  · exact Nat.zero_le 1
  · exact Nat.le_refl 1
theorem qq_citeAt_le (L : qa_L) (c p : Int32) : (qq_citeAt L c p).1 ≤ 2 := by
  unfold qq_citeAt qa_bind
  split
  · exact Nat.le_succ 1
  · dsimp only
    split
    · exact Nat.le_refl 2
    · exact Nat.zero_le 2
theorem qq_reach_le (L : qa_L) (x y : Int32) : (qq_reach L x y).1 ≤ 1 := by
  unfold qq_reach
  split
  · exact Nat.zero_le 1
  · exact Nat.le_refl 1
theorem qq_edition_le (L : qa_L) (e : Int32) : (qq_edition L e).1 ≤ 1 := by
  unfold qq_edition
  split
  · exact Nat.le_refl 1
  · exact Nat.zero_le 1
theorem qm_err_le (x : Int32) : (qm_err x).1 ≤ 1 := by
  unfold qm_err
  split
  · exact Nat.le_refl 1
  · exact Nat.zero_le 1
theorem qm_outAt_le (S : qa_S) (x : Int32) : (qm_outAt S x).1 ≤ 1 := by
  unfold qm_outAt
  split
  · exact Nat.le_refl 1
  · exact Nat.zero_le 1
theorem qm_type_le (S : qa_S) (c : Nat) : (qm_type S c).1 ≤ 2 := by
  unfold qm_type
  split
  · exact Nat.le_succ 1
  · split
    · exact Nat.le_refl 2
    · exact Nat.zero_le 2
theorem qm_run_le (S : qa_S) : (qm_run S).1 ≤ 2 := by
  unfold qm_run qm_runR
  split
  · split
    · exact Nat.le_refl 2
    · exact Nat.zero_le 2
  · exact Nat.le_succ 1
theorem qm_undo_le (S : qa_S) : (qm_undo S).1 ≤ 1 := by
  unfold qm_undo
  split
  · exact Nat.le_refl 1
  · exact Nat.zero_le 1
theorem qm_restore_le (S : qa_S) : (qm_restore S).1 ≤ 1 := by
  unfold qm_restore
  split
  · exact Nat.le_refl 1
  · exact Nat.zero_le 1
theorem qm_render_le (S : qa_S) (x : Int32) : (qm_render S x).1 ≤ 1 := by
  unfold qm_render
  split
  · exact Nat.le_refl 1
  · exact Nat.zero_le 1
/-! answers of yes or no -/
theorem qp_b01 (p : Bool) : qp_b p = 0 ∨ qp_b p = 1 := by
  cases p with
  | false => exact Or.inl rfl
  | true => exact Or.inr rfl
theorem qa_ans_b {α : Type} (o : Option α) (f : α → Bool) : (qa_ans o fun a => qp_b (f a)).2 = 0 ∨ (qa_ans o fun a => qp_b (f a)).2 = 1 := by
  cases o with
  | none => exact Or.inl rfl
  | some a => exact qp_b01 (f a)
theorem qq_reach_b (L : qa_L) (x y : Int32) : (qq_reach L x y).2 = 0 ∨ (qq_reach L x y).2 = 1 := by
  unfold qq_reach
  split
  · exact qp_b01 _
  · exact Or.inl rfl
/-! the reference's ends -/
theorem qk_pq.pm (A : qk_all M S) {a : Nat × Int32} {x : Int32} (q : qk_pq M M1 a x) : qk_pm M1 (a.1, a.2, S) x := ⟨q.1, q.2.2.2, A.pq q⟩
theorem qk_po.pm (A : qk_all M S) {r : Int32 × qa_L} {f : Int32 → Nat} {x : Int32} (q : qk_po M M1 S.2.1 S.1 r f x) (hf : r.1 < 0 → 0 < f r.1) : qk_pm M1 (qm_chg S r f) x := by
  refine ⟨q.2.2.1, fun e => q.2.2.2.2 fun z => ?_, A.po q⟩
  have e : (if r.1 < 0 then f r.1 else 0) = 0 := e
  rw [if_pos z] at e
  have := hf z
  omega
/-- what comes behind a call -/
def qy_c (σ : Nat → Nat) (b N i : Nat) (k28 : Option Nat → Option Nat → Option Nat → Option Nat → Int32 → ql_H → Prop) : Prop := ∀ h1 M1 S1, qy_at σ h1 b M1 S1 → qi_S S1 (N + 13) → k28 (some b) (some (b + 780)) (some (b + 790)) (some (b + 791)) (nI i + (4 : Int32)) h1
theorem qc_v (hi : i + 4 ≤ L9) (hL : L9 ≤ 2048) : vp_in (nI i + (1 : Int32)) L9 ∧ vp_in (nI i + (2 : Int32)) L9 ∧ vp_in (nI i + (3 : Int32)) L9 := by
  rw [nI_1, show nI i + (2 : Int32) = nI (i + 2) from nI_add i 2, show nI i + (3 : Int32) = nI (i + 3) from nI_add i 3]
  exact ⟨vp_in_nI (by omega) (by omega), vp_in_nI (by omega) (by omega), vp_in_nI (by omega) (by omega)⟩
theorem qy_fr.m (f : qy_fr b h h1) (H : qk_at h (b + 780) M) : qk_at h1 (b + 780) M := H.kept fun q h1 h2 => f.2 q h1 (by omega) (by omega)
theorem qy_fr.d (f : qy_fr b h h1) (H : qy_d h b) : qy_d h1 b := by
  obtain ⟨x, e⟩ := H
  exact ⟨x, (f.2 _ (by omega) (by omega) (by omega)).trans e⟩
variable {k28 : Option Nat → Option Nat → Option Nat → Option Nat → Int32 → ql_H → Prop} {F : ql_H → Prop}
theorem qc_next (H1 : qx_at σ h1 b r.2.2 none) {f1 : Nat → Int64} (o1 : h1.2 (b + 790) = some (.inl (1, 1, .inr (.inl f1)))) (d1 : qy_d h1 b) (I1 : qi_S r.2.2 (N + 13)) (hk : qy_c σ b N i k28) {x : Int32} (H2 : qk_at h2 (b + 780) M2) (f2 : qp_fr (b + 780) (b + 780 + 10) h1 h2) (A2 : qk_all M2 r.2.2) : k28 (some b) (some (b + 780)) (some (b + 790)) (some (b + 791)) (nI i + (4 : Int32)) h2 := by
  obtain ⟨x, e⟩ := d1
  exact hk h2 M2 _ ⟨H1.mod f2, ⟨H2, A2⟩, ⟨f1, (f2.2 _ (by omega)).trans o1⟩, x, (f2.2 _ (by omega)).trans e⟩ I1
theorem qc_end (hr : r.1 < 100) (H1 : qx_at σ h1 b r.2.2 none) {f1 : Nat → Int64} (o1 : h1.2 (b + 790) = some (.inl (1, 1, .inr (.inl f1)))) (v1 : r.1 = 0 → f1 0 = r.2.1.toInt64) (d1 : qy_d h1 b) (I1 : qi_S r.2.2 (N + 13)) (hk : qy_c σ b N i k28) {x : Int32} (H2 : qk_at h2 (b + 780) M2) (f2 : qp_fr (b + 780) (b + 780 + 10) h1 h2) (q : qk_pm M2 r x) : ql_rv h2 (some (b + 780)) 13 fun b4 => qw_X12_thrown b4 h2 (fun x4 h => if x4 = nI r.1 then (if nI r.1 = 0 then (ql_lJ h (some (b + 790)) (0 : Int32) fun j6 => if (lg_cmp j6 x.toInt64) = 0 then (k28 (some b) (some (b + 780)) (some (b + 790)) (some (b + 791)) (nI i + (4 : Int32)) h) else F h) else (k28 (some b) (some (b + 780)) (some (b + 790)) (some (b + 791)) (nI i + (4 : Int32)) h)) else F h) := by
  have nx := qc_next (x := x) H1 o1 d1 I1 hk H2 f2 q.2.2
  rw [qk_rv H2]
  refine qe_X12_thrown H2 ?_
  rw [q.1]
  refine qp_iT rfl ?_
  by_cases e : r.1 = 0
  · refine qp_iT (by rw [e]; rfl) ?_
    have o2 : h2.2 (b + 790) = some (.inl (1, 1, .inr (.inl f1))) := (f2.2 _ (by omega)).trans o1
    refine Eq.mpr (qp_lJ (j := 0) o2 (by decide) (by decide)) ?_
    rw [q.2.1 e, v1 e]
    exact qp_iT ((lg_cmp_eq _ _).mpr rfl) nx
  · exact qp_iF (nI_ne0 (by omega) (by omega)) nx
theorem qc_endB (hr : r.1 < 100) (hb : r.1 = 0 → r.2.1 = 0 ∨ r.2.1 = 1) (H1 : qx_at σ h1 b r.2.2 none) {f1 : Nat → Int64} (o1 : h1.2 (b + 790) = some (.inl (1, 1, .inr (.inl f1)))) (v1 : r.1 = 0 → f1 0 = r.2.1.toInt64) (d1 : qy_d h1 b) (I1 : qi_S r.2.2 (N + 13)) (hk : qy_c σ b N i k28) {x : Int32} (H2 : qk_at h2 (b + 780) M2) (f2 : qp_fr (b + 780) (b + 780 + 10) h1 h2) (q : qk_pm M2 r x) : ql_rv h2 (some (b + 780)) 13 fun b4 => qw_X12_thrown b4 h2 (fun x4 h => if x4 = nI r.1 then (if nI r.1 = 0 then (ql_lJ h (some (b + 790)) (0 : Int32) fun j6 => if x = 0 then (if (lg_cmp j6 (0 : Int64)) = 0 then (k28 (some b) (some (b + 780)) (some (b + 790)) (some (b + 791)) (nI i + (4 : Int32)) h) else F h) else (if (lg_cmp j6 (1 : Int64)) = 0 then (k28 (some b) (some (b + 780)) (some (b + 790)) (some (b + 791)) (nI i + (4 : Int32)) h) else F h)) else (k28 (some b) (some (b + 780)) (some (b + 790)) (some (b + 791)) (nI i + (4 : Int32)) h)) else F h) := by
  have nx := qc_next (x := x) H1 o1 d1 I1 hk H2 f2 q.2.2
  rw [qk_rv H2]
  refine qe_X12_thrown H2 ?_
  rw [q.1]
  refine qp_iT rfl ?_
  by_cases e : r.1 = 0
  · refine qp_iT (by rw [e]; rfl) ?_
    have o2 : h2.2 (b + 790) = some (.inl (1, 1, .inr (.inl f1))) := (f2.2 _ (by omega)).trans o1
    refine Eq.mpr (qp_lJ (j := 0) o2 (by decide) (by decide)) ?_
    have ex := q.2.1 e
    have ev := v1 e
    rcases hb e with z | z
    · rw [z] at ex ev
      exact qp_iT ex (qp_iT ((lg_cmp_eq _ _).mpr (ev.trans (by decide))) nx)
    · rw [z] at ex ev
      exact qp_iF (by rw [ex]; exact qp_1) (qp_iT ((lg_cmp_eq _ _).mpr (ev.trans (by decide))) nx)
  · exact qp_iF (nI_ne0 (by omega) (by omega)) nx
theorem qk_all.tx (A : qk_all M S) : ∀ D ∈ S.1.1, (qa_txt D).length ≤ 12 ∧ ∀ a ∈ qa_txt D, a < 7 := fun D hD => by
  obtain ⟨k, hk, rfl⟩ := List.mem_iff_getElem.mp hD
  obtain ⟨v, hv, h8, ok, _⟩ := qk_vs1 (qk_cl A.1.1 hk)
  exact ⟨ok.2, ok.1⟩
theorem qe_X12_isReachedB {m : Nat} (H : qk_at h m M) (R : qk_G (M.2 0) L) (hd : (L.1.map qa_id).Pairwise (· < ·)) {x y : Int32} {Q : Int32 → ql_H → Prop} (k : ∀ h1 M1 p, qk_at h1 m M1 → qp_fr m (m + 10) h h1 → qk_pq M M1 (qq_reach L x y) (qp_b p) → Q (qp_b p) h1) : qw_X12_isReached m x y h Q := by
  have n16 := R.1.1
  unfold qw_X12_isReached qw_X12_isReached_17
  have no : qq_reach L x y = (1, 0) → qw_X12_isReached_22 m Q x y (some m) (nI 1) h := fun eq => by
    unfold qw_X12_isReached_22
    rw [qk_rv H]
    refine qe_X12_fails H (by omega) fun h1 H1 f1 => qp_iF qp_1 ⟨ql_nz0, k h1 _ false H1 f1 ?_⟩
    rw [eq]
    exact qk_pq.mk rfl fun z => by cases z
  rw [qk_rv H]
  refine qe_X12_placeOf H R (fun i hi e f => ?_) (fun e => qp_iT (by decide) (no (if_neg fun z => qa_has_none e z.1)))
  refine qp_iF (nI_pos (by omega)) ?_
  rw [qk_rv H]
  refine qe_X12_placeOf H R (fun j hj e2 f2 => ?_) (fun e => qp_iF (by decide) (no (if_neg fun z => qa_has_none e z.2)))
  refine qp_iT (nI_pos' (by omega)) ?_
  unfold qw_X12_isReached_22
  rw [qk_rv H]
  refine qe_X12_fails H (n := 0) (by omega) fun h1 H1 f1 => qp_iT rfl ?_
  rw [qk_rv H1]
  refine qe_X12_placeOf H1 (L := L) R (fun i2 hi2 e3 _ => ?_) (fun e3 => by rw [f] at e3; cases e3)
  rw [qk_rv H1]
  refine qe_X12_reached H1 (L := L) R hd hi2 fun s hs => ?_
  rw [qk_rv H1]
  refine qe_X12_placeOf H1 (L := L) R (fun j2 hj2 e4 _ => ?_) (fun e4 => by rw [f2] at e4; cases e4)
  have eq : qq_reach L x y = (0, qp_b (qa_reachB L.1 x y)) := if_pos ⟨qa_has_find f, qa_has_find f2⟩
  have hr : qg_b s j2 = true ↔ qa_reachB L.1 x y = true := by
    rw [hs j2 (by omega), qk_reach hd hi2 hj2, e3, e4, qa_reachB_iff]
  by_cases z : qg_b s j2 = true
  · refine qp_iT ((qg_bit2 s (by omega)).mpr z) ⟨ql_nz1, k h1 _ true H1 f1 ?_⟩
    rw [eq, hr.mp z]
    exact qk_pq.mk rfl fun _ => rfl
  · refine qp_iF (fun q => z ((qg_bit2 s (by omega)).mp q)) ⟨ql_nz0, k h1 _ false H1 f1 ?_⟩
    have : qa_reachB L.1 x y = false := by
      cases e5 : qa_reachB L.1 x y with
      | false => rfl
      | true => exact absurd (hr.mpr e5) z
    rw [eq, this]
    exact qk_pq.mk rfl fun _ => rfl
end QLW
