/-! What a typed script says: its commands, or the place where it goes wrong. A text is the list of its characters. -/
section QZ
variable {l : List Nat} {p q i : Nat}
abbrev qz_C : Type := Nat × Nat × Nat × Nat
def qz_is (l : List Nat) (p c : Nat) : Bool := decide (l[p]? = some c)
def qz_in (l : List Nat) (p a b : Nat) : Bool := match l[p]? with
  | none => false
  | some c => decide (a ≤ c) && decide (c ≤ b)
/-- how much of a word stands at p -/
def qz_cs (l : List Nat) : Nat → List Nat → Nat
  | _, [] => 0
  | p, c :: w => if qz_is l p c then qz_cs l (p + 1) w + 1 else 0
def qz_kw : List (List Nat) := [[97, 100, 100, 32], [112, 117, 116, 32], [115, 101, 116, 32], [99, 117, 116, 32], [115, 117, 110, 115, 101, 116, 32], [99, 105, 116, 101, 32], [117, 110, 99, 105, 116, 101, 32], [114, 101, 112, 101, 97, 108, 32], [101, 100, 105, 116], [119, 97, 105, 116, 32]]
/-- its parts: 1049 the first number, 1050 the second, 1110 the note -/
def qz_fm : List (List Nat) := [[1049, 32, 1110], [1049, 32, 1050, 1110], [1049, 32, 1050, 1110], [1049, 32, 1050], [1049, 32, 1050], [1049, 32, 1050], [1049, 32, 1050], [1049], [], [1049]]
def qz_key (l : List Nat) (p : Nat) : List (List Nat) → Nat → Nat → Option Nat × Nat
  | [], _, m => (none, p + m)
  | w :: ws, i, m => if qz_cs l p w = w.length then (some i, p + w.length) else qz_key l p ws (i + 1) (max m (qz_cs l p w))
def qz_nm (l : List Nat) : Nat → Nat → Option Nat → Option Nat × Nat
  | 0, p, x => (x, p)
  | d + 1, p, x => if qz_in l p 48 57 then qz_nm l d (p + 1) (some (10 * x.getD 0 + l.getD p 0 - 48)) else (x, p)
def qz_part (l : List Nat) (c p : Nat) (C : qz_C) : Bool × Nat × qz_C :=
  if c = 1049 then ((qz_nm l 3 p none).1.isSome, (qz_nm l 3 p none).2, C.1, (qz_nm l 3 p none).1.getD 0, C.2.2)
  else if c = 1050 then ((qz_nm l 3 p none).1.isSome, (qz_nm l 3 p none).2, C.1, C.2.1, (qz_nm l 3 p none).1.getD 0, C.2.2.2)
  else if c = 1110 then (if qz_in l p 97 103 then (true, p + 1, C.1, C.2.1, C.2.2.1, l.getD p 0) else (false, p, C))
  else (if qz_is l p c then (true, p + 1, C) else (false, p, C))
def qz_seq (l : List Nat) : List Nat → Nat → qz_C → Bool × Nat × qz_C
  | [], p, C => (true, p, C)
  | c :: w, p, C => if (qz_part l c p C).1 then qz_seq l w (qz_part l c p C).2.1 (qz_part l c p C).2.2 else qz_part l c p C
def qz_cmd (l : List Nat) (p : Nat) : Bool × Nat × qz_C := match qz_key l p qz_kw 0 0 with
  | (none, q) => (false, q, 0, 0, 0, 0)
  | (some i, q) => qz_seq l (qz_fm.getD i []) q (i, 0, 0, 0)
def qz_rd (l : List Nat) : Nat → Nat → List qz_C → Bool × Nat × List qz_C
  | 0, p, cs => (false, p, cs)
  | n + 1, p, cs => if (qz_cmd l p).1 then (if (qz_cmd l p).2.1 = l.length then (true, (qz_cmd l p).2.1, cs ++ [(qz_cmd l p).2.2]) else if qz_is l (qz_cmd l p).2.1 59 then qz_rd l n ((qz_cmd l p).2.1 + 1) (cs ++ [(qz_cmd l p).2.2]) else (false, (qz_cmd l p).2.1, cs ++ [(qz_cmd l p).2.2])) else (false, (qz_cmd l p).2.1, cs)
def qz_read (l : List Nat) : Bool × Nat × List qz_C := qz_rd l 12 0 []
theorem qz_is_lt (h : qz_is l p i = true) : p < l.length := by
  have := of_decide_eq_true h
  exact (List.getElem?_eq_some_iff.mp this).1
theorem qz_in_lt {a b : Nat} (h : qz_in l p a b = true) : p < l.length := by
  unfold qz_in at h
  rcases Nat.lt_or_ge p l.length with z | z
  · exact z
  · rw [List.getElem?_eq_none z] at h
    cases h
theorem qz_cs_le : ∀ (w : List Nat) (p : Nat), qz_cs l p w ≤ w.length
  | [], _ => Nat.le_refl _
  | c :: w, p => by
    unfold qz_cs
    split
    · exact Nat.succ_le_succ (qz_cs_le w (p + 1))
    · exact Nat.zero_le _
theorem qz_cs_p : ∀ (w : List Nat) (p : Nat), p ≤ l.length → p + qz_cs l p w ≤ l.length
  | [], _, h => h
  | c :: w, p, h => by
    unfold qz_cs
    split
    · have := qz_cs_p w (p + 1) (qz_is_lt ‹_›)
      omega
    · exact h
theorem qz_nm_p : ∀ (d p : Nat) (x : Option Nat), p ≤ l.length → p ≤ (qz_nm l d p x).2 ∧ (qz_nm l d p x).2 ≤ l.length
  | 0, p, x, h => ⟨Nat.le_refl _, h⟩
  | d + 1, p, x, h => by
    unfold qz_nm
    split
    · have := qz_nm_p d (p + 1) (some (10 * x.getD 0 + l.getD p 0 - 48)) (qz_in_lt ‹_›)
      omega
    · exact ⟨Nat.le_refl _, h⟩
theorem qz_part_p (c p : Nat) (C : qz_C) (h : p ≤ l.length) : p ≤ (qz_part l c p C).2.1 ∧ (qz_part l c p C).2.1 ≤ l.length := by
  unfold qz_part
  have n := qz_nm_p 3 p none h
  split
  · exact n
  · split
    · exact n
    · split
      · split
        · exact ⟨Nat.le_succ p, qz_in_lt ‹_›⟩
        · exact ⟨Nat.le_refl _, h⟩
      · split
        · exact ⟨Nat.le_succ p, qz_is_lt ‹_›⟩
        · exact ⟨Nat.le_refl _, h⟩
theorem qz_seq_p : ∀ (w : List Nat) (p : Nat) (C : qz_C), p ≤ l.length → p ≤ (qz_seq l w p C).2.1 ∧ (qz_seq l w p C).2.1 ≤ l.length
  | [], p, C, h => ⟨Nat.le_refl _, h⟩
  | c :: w, p, C, h => by
    unfold qz_seq
    have a := qz_part_p c p C h
    split
    · have := qz_seq_p w (qz_part l c p C).2.1 (qz_part l c p C).2.2 a.2
      omega
    · exact a
theorem qz_seq_word (C : qz_C) (s : List Nat) : ∀ (w : List Nat) (p : Nat), (∀ c ∈ w, c < 1000) → qz_seq l (w ++ s) p C = if qz_cs l p w = w.length then qz_seq l s (p + w.length) C else (false, p + qz_cs l p w, C)
  | [], p, _ => (if_pos rfl).symm
  | c :: w, p, hw => by
    have hc := hw c List.mem_cons_self
    have e1 : qz_part l c p C = if qz_is l p c then (true, p + 1, C) else (false, p, C) := by
      unfold qz_part
      rw [if_neg (by omega), if_neg (by omega), if_neg (by omega)]
    show (if (qz_part l c p C).1 then qz_seq l (w ++ s) (qz_part l c p C).2.1 (qz_part l c p C).2.2 else qz_part l c p C) = _
    rw [e1]
    unfold qz_cs
    by_cases z : qz_is l p c = true
    · rw [if_pos z, if_pos rfl, if_pos z]
      rw [qz_seq_word C s w (p + 1) fun c hc => hw c (List.mem_cons_of_mem _ hc)]
      by_cases y : qz_cs l (p + 1) w = w.length
      · rw [if_pos y, if_pos (by rw [y]; rfl)]
        exact congrArg (fun n => qz_seq l s n C) (by show p + 1 + w.length = p + (w.length + 1); omega)
      · rw [if_neg y, if_neg (fun e : qz_cs l (p + 1) w + 1 = (c :: w).length => y (Nat.succ.inj e))]
        exact congrArg (fun n => (false, n, C)) (by omega)
    · rw [if_neg z, if_neg (fun e : (false, p, C).1 = true => by cases e), if_neg z, if_neg (fun e : 0 = (c :: w).length => by cases e)]
      rfl
theorem qz_cs_no {c : Nat} {w : List Nat} (h : qz_is l p c = false) : qz_cs l p (c :: w) = 0 := by
  unfold qz_cs
  rw [h]
  rfl
theorem qz_cs_yes {c : Nat} {w : List Nat} (h : qz_is l p c = true) : qz_cs l p (c :: w) = qz_cs l (p + 1) w + 1 := by
  show (if qz_is l p c then qz_cs l (p + 1) w + 1 else 0) = _
  rw [if_pos h]
/-- one keyword's own road -/
theorem qz_key_pick : ∀ (ws : List (List Nat)) (i0 m i : Nat) (hi : i < ws.length), (∀ j (hj : j < ws.length), j ≠ i → qz_cs l p ws[j] ≠ ws[j].length ∧ qz_cs l p ws[j] ≤ qz_cs l p ws[i]) → m ≤ qz_cs l p ws[i] → qz_key l p ws i0 m = if qz_cs l p ws[i] = ws[i].length then (some (i0 + i), p + ws[i].length) else (none, p + qz_cs l p ws[i])
  | [], _, _, i, hi, _, _ => absurd hi (Nat.not_lt_zero i)
  | w :: ws, i0, m, 0, hi, H, hm => by
    have hm : m ≤ qz_cs l p w := hm
    show (if qz_cs l p w = w.length then (some i0, p + w.length) else qz_key l p ws (i0 + 1) (max m (qz_cs l p w))) = if qz_cs l p w = w.length then (some i0, p + w.length) else (none, p + qz_cs l p w)
    have rest : ∀ (vs : List (List Nat)) (i1 : Nat), (∀ v ∈ vs, qz_cs l p v ≠ v.length ∧ qz_cs l p v ≤ qz_cs l p w) → qz_key l p vs i1 (qz_cs l p w) = (none, p + qz_cs l p w) := by
      intro vs
      induction vs with
      | nil => exact fun i1 _ => rfl
      | cons v vs ih =>
        intro i1 hv
        have a := hv v List.mem_cons_self
        show (if qz_cs l p v = v.length then (some i1, p + v.length) else qz_key l p vs (i1 + 1) (max (qz_cs l p w) (qz_cs l p v))) = _
        rw [if_neg a.1, Nat.max_eq_left a.2]
        exact ih (i1 + 1) fun u hu => hv u (List.mem_cons_of_mem _ hu)
    rw [Nat.max_eq_right hm, rest ws (i0 + 1) fun v hv => ?_]
    obtain ⟨j, hj, e⟩ := List.getElem_of_mem hv
    have := H (j + 1) (Nat.succ_lt_succ hj) (by omega)
    rw [← e]
    exact this
  | w :: ws, i0, m, i + 1, hi, H, hm => by
    have a := H 0 (Nat.succ_pos _) (by omega)
    have a1 : qz_cs l p w ≠ w.length := a.1
    have a2 : qz_cs l p w ≤ qz_cs l p (ws[i]'(Nat.lt_of_succ_lt_succ hi)) := a.2
    have hm : m ≤ qz_cs l p (ws[i]'(Nat.lt_of_succ_lt_succ hi)) := hm
    show (if qz_cs l p w = w.length then (some i0, p + w.length) else qz_key l p ws (i0 + 1) (max m (qz_cs l p w))) = _
    rw [if_neg a1, qz_key_pick ws (i0 + 1) _ i (Nat.lt_of_succ_lt_succ hi) (fun j hj n => H (j + 1) (Nat.succ_lt_succ hj) (by omega)) (by omega)]
    rw [show i0 + 1 + i = i0 + (i + 1) by omega]
    rfl
theorem qz_key_none : ∀ (ws : List (List Nat)) (i0 : Nat), (∀ w ∈ ws, qz_cs l p w = 0 ∧ w.length ≠ 0) → qz_key l p ws i0 0 = (none, p)
  | [], _, _ => rfl
  | w :: ws, i0, H => by
    have a := H w List.mem_cons_self
    show (if qz_cs l p w = w.length then (some i0, p + w.length) else qz_key l p ws (i0 + 1) (max 0 (qz_cs l p w))) = _
    rw [a.1, if_neg (fun e => a.2 e.symm)]
    exact qz_key_none ws (i0 + 1) fun u hu => H u (List.mem_cons_of_mem _ hu)
theorem qz_kw_ch : ∀ w ∈ qz_kw, (∀ c ∈ w, c < 1000) ∧ w.length ≠ 0 := by decide
theorem qz_cmd_pick {i : Nat} {w s : List Nat} (hi : i < 10) (ew : qz_kw[i]? = some w) (es : qz_fm.getD i [] = s) (H : ∀ j (hj : j < 10), j ≠ i → qz_cs l p (qz_kw[j]'hj) ≠ (qz_kw[j]'hj).length ∧ qz_cs l p (qz_kw[j]'hj) ≤ qz_cs l p w) : (qz_cmd l p).1 = (qz_seq l (w ++ s) p (i, 0, 0, 0)).1 ∧ (qz_cmd l p).2.1 = (qz_seq l (w ++ s) p (i, 0, 0, 0)).2.1 ∧ ((qz_cmd l p).1 = true → qz_cmd l p = qz_seq l (w ++ s) p (i, 0, 0, 0)) := by
  have ew2 : qz_kw[i]'hi = w := Option.some.inj ((List.getElem?_eq_getElem (l := qz_kw) hi).symm.trans ew)
  have hw : w ∈ qz_kw := List.mem_of_getElem? ew
  have k := qz_key_pick (l := l) (p := p) qz_kw 0 0 i hi (fun j hj n => by rw [ew2]; exact H j hj n) (Nat.zero_le _)
  rw [ew2, Nat.zero_add] at k
  unfold qz_cmd
  rw [k, qz_seq_word _ _ _ _ (qz_kw_ch w hw).1]
  by_cases z : qz_cs l p w = w.length
  · rw [if_pos z, if_pos z, ← es]
    exact ⟨rfl, rfl, fun _ => rfl⟩
  · rw [if_neg z, if_neg z]
    exact ⟨rfl, rfl, fun e => by cases e⟩
end QZ
