/-! What is asked of the ledger: a code (0: none thrown) and an answer. -/
def qa_ans {α : Type} (o : Option α) (f : α → Int32) : Nat × Int32 := match o with
  | none => (1, 0)
  | some a => (0, f a)
theorem qa_ans_n {α : Type} {o : Option α} {f : α → Int32} (h : o = none) : qa_ans o f = (1, 0) := by
  subst h
  rfl
theorem qa_ans_s {α : Type} {o : Option α} {f : α → Int32} {a : α} (h : o = some a) : qa_ans o f = (0, f a) := by
  subst h
  rfl
def qq_clauseAt (L : qa_L) (p : Int32) : Nat × Int32 := qa_ans (qa_rank L.1 p) qa_id
def qq_ofSection (L : qa_L) (s : Int32) : Nat × Int32 := qa_ans (qa_ofSec L.1 s) qa_id
def qq_of (L : qa_L) (c : Int32) (f : qa_C → Int32) : Nat × Int32 := qa_ans (qa_find L.1 c) f
def qa_fsun (L : qa_L) (c : Int32) : Option qa_C := (qa_find L.1 c).bind fun A => if qa_sun A = -1 then none else some A
def qq_sunset (L : qa_L) (c : Int32) : Nat × Int32 := qa_ans (qa_fsun L c) qa_sun
def qq_days (L : qa_L) (c : Int32) : Nat × Int32 := qa_ans (qa_fsun L c) fun A => if qa_laps A (L.2.1 2) = true then 0 else (qa_sun A - L.2.1 2) + 1
def qa_nth (t : List Nat) (p : Int32) : Nat × Int32 := if p < 0 ∨ nI t.length ≤ p then (2, 0) else (0, nI (97 + t.getD p.toNatClampNeg 0))
def qa_bind (o : Option qa_C) (f : qa_C → Nat × Int32) : Nat × Int32 := match o with
  | none => (1, 0)
  | some A => f A
theorem qa_bind_n {o : Option qa_C} {f : qa_C → Nat × Int32} (h : o = none) : qa_bind o f = (1, 0) := by
  subst h
  rfl
theorem qa_bind_s {o : Option qa_C} {f : qa_C → Nat × Int32} {A : qa_C} (h : o = some A) : qa_bind o f = f A := by
  subst h
  rfl
def qq_noteAt (L : qa_L) (c p : Int32) : Nat × Int32 := qa_bind (qa_find L.1 c) fun A => qa_nth (qa_txt A) p
def qa_fon (L : qa_L) (c d : Int32) : Option (List Nat) := (qa_find L.1 c).bind fun A => qa_on A d
def qq_lengthOn (L : qa_L) (c d : Int32) : Nat × Int32 := qa_ans (qa_fon L c d) fun t => nI t.length
def qq_noteOn (L : qa_L) (c d p : Int32) : Nat × Int32 := match qa_fon L c d with
  | none => (1, 0)
  | some t => qa_nth t p
def qa_two (o p : Option (List Nat)) : Nat × Int32 := match o, p with
  | some s, some t => (0, nI (qa_apart s t))
  | _, _ => (1, 0)
def qq_diff (L : qa_L) (c a b : Int32) : Nat × Int32 := qa_two (qa_fon L c a) (qa_fon L c b)
def qq_citeAt (L : qa_L) (c p : Int32) : Nat × Int32 := qa_bind (qa_find L.1 c) fun A => if p < 0 ∨ nI (qa_ci A).length ≤ p then (2, 0) else (0, (qa_ci A).getD p.toNatClampNeg 0)
noncomputable def qa_reachB (l : List qa_C) (x y : Int32) : Bool := @decide (qa_reach l x y) (Classical.propDecidable _)
theorem qa_reachB_iff {l : List qa_C} {x y : Int32} : qa_reachB l x y = true ↔ qa_reach l x y := by
  unfold qa_reachB
  exact @decide_eq_true_iff _ (Classical.propDecidable _)
noncomputable def qq_reach (L : qa_L) (x y : Int32) : Nat × Int32 := if qa_has L.1 x = true ∧ qa_has L.1 y = true then (0, qp_b (qa_reachB L.1 x y)) else (1, 0)
def qq_byCites (L : qa_L) (r : Int32) : Nat × Int32 := qa_ans (qa_byCites L.1 r) qa_id
def qq_edition (L : qa_L) (e : Int32) : Nat × Int32 := if e < 1 ∨ L.2.1 7 < e ∨ e ≤ L.2.1 7 - 6 then (1, 0) else (0, L.2.2 e.toNatClampNeg)
def qa_sound (L : qa_L) : Bool := decide (nI L.1.length = (L.2.1 3 - L.2.1 5) - L.2.1 6)
