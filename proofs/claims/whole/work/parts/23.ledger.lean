/-! The ledger in words of lists: what its calls answer and do. No heap, no machine. -/
/-- a version: its day, its notes from 0 to 6 -/
abbrev qa_V : Type := Int32 × List Nat
/-- a clause: id, section, enacted, sunset (-1: none); versions; cites -/
abbrev qa_C : Type := (Int32 × Int32 × Int32 × Int32) × List qa_V × List Int32
def qa_id (C : qa_C) : Int32 := C.1.1
def qa_sec (C : qa_C) : Int32 := C.1.2.1
def qa_beg (C : qa_C) : Int32 := C.1.2.2.1
def qa_sun (C : qa_C) : Int32 := C.1.2.2.2
def qa_vs (C : qa_C) : List qa_V := C.2.1
def qa_ci (C : qa_C) : List Int32 := C.2.2
/-- clauses by their ids; 2 day, 3 added, 4 amended, 5 repealed, 6 gone, 7 editions; days of editions by their numbers modulo 6 -/
abbrev qa_L : Type := List qa_C × (Nat → Int32) × (Nat → Int32)
def qa_find (l : List qa_C) (x : Int32) : Option qa_C := l.find? fun C => qa_id C == x
def qa_has (l : List qa_C) (x : Int32) : Bool := l.any fun C => qa_id C == x
def qa_hold (C : qa_C) (d : Int32) : Bool := decide (qa_beg C ≤ d) && (qa_sun C == -1 || decide (d ≤ qa_sun C))
def qa_laps (C : qa_C) (d : Int32) : Bool := qa_sun C != -1 && decide (qa_sun C < d)
/-- the text of the last version; at a day -/
def qa_txt (C : qa_C) : List Nat := ((qa_vs C).getLast?.map Prod.snd).getD []
def qa_on (C : qa_C) (d : Int32) : Option (List Nat) := ((qa_vs C).reverse.find? fun v => decide (v.1 ≤ d)).map Prod.snd
def qa_note (x : Int32) : Bool := decide (97 ≤ x) && decide (x ≤ 103)
def qa_code (x : Int32) : Nat := (x - 97).toNatClampNeg
def qa_chr (n : Nat) : Int32 := nI (97 + n)
/-- clause x is changed -/
def qa_upd (l : List qa_C) (x : Int32) (f : qa_C → qa_C) : List qa_C := l.map fun C => if qa_id C == x then f C else C
def qa_open (L : qa_L) (C : qa_C) : Bool := qa_hold C (L.2.1 2) && decide ((qa_vs C).length < 8)
/-- a new version of clause x -/
def qa_amend (L : qa_L) (x : Int32) (C : qa_C) (t : List Nat) : Int32 × qa_L :=
  (nI ((qa_vs C).length + 1), qa_upd L.1 x (fun C => (C.1, qa_vs C ++ [(L.2.1 2, t)], qa_ci C)), upd L.2.1 4 (L.2.1 4 + 1), L.2.2)
/-! the changes: an answer from 0 up, or what forbids it: -1 no element, -2 index, -3 argument, -4 state, -5 unsupported -/
def qa_add (L : qa_L) (sec note : Int32) : Int32 × qa_L :=
  if sec < 1 ∨ 99 < sec ∨ qa_note note = false then (-3, L)
  else if 16 ≤ L.1.length then (-4, L)
  else if L.1.any (fun C => qa_sec C == sec) then (-5, L)
  else (L.2.1 3, L.1 ++ [((L.2.1 3, sec, L.2.1 2, -1), [(L.2.1 2, [qa_code note])], [])], upd L.2.1 3 (L.2.1 3 + 1), L.2.2)
def qa_by (L : qa_L) (x : Int32) (f : qa_C → Int32 × qa_L) : Int32 × qa_L := match qa_find L.1 x with
  | none => (-1, L)
  | some C => f C
def qa_insC (L : qa_L) (C : qa_C) (pos note : Int32) : Int32 × qa_L :=
  if pos < 0 ∨ nI (qa_txt C).length < pos then (-2, L)
  else if qa_note note = false then (-3, L)
  else if qa_open L C = false then (-4, L)
  else if 12 ≤ (qa_txt C).length then (-5, L)
  else qa_amend L (qa_id C) C (qt_ins (qa_txt C) pos.toNatClampNeg (qa_code note))
def qa_ins (L : qa_L) (x pos note : Int32) : Int32 × qa_L := qa_by L x fun C => qa_insC L C pos note
def qa_repC (L : qa_L) (C : qa_C) (pos note : Int32) : Int32 × qa_L :=
  if pos < 0 ∨ nI (qa_txt C).length ≤ pos then (-2, L)
  else if qa_note note = false then (-3, L)
  else if qa_open L C = false then (-4, L)
  else qa_amend L (qa_id C) C (qt_set (qa_txt C) pos.toNatClampNeg (qa_code note))
def qa_rep (L : qa_L) (x pos note : Int32) : Int32 × qa_L := qa_by L x fun C => qa_repC L C pos note
def qa_delC (L : qa_L) (C : qa_C) (pos : Int32) : Int32 × qa_L :=
  if pos < 0 ∨ nI (qa_txt C).length ≤ pos then (-2, L)
  else if qa_open L C = false then (-4, L)
  else if (qa_txt C).length ≤ 1 then (-5, L)
  else qa_amend L (qa_id C) C (qt_del (qa_txt C) pos.toNatClampNeg)
def qa_del (L : qa_L) (x pos : Int32) : Int32 × qa_L := qa_by L x fun C => qa_delC L C pos
def qa_sunC (L : qa_L) (C : qa_C) (d : Int32) : Int32 × qa_L :=
  if d < L.2.1 2 ∨ 9999 < d - L.2.1 2 then (-3, L)
  else if qa_laps C (L.2.1 2) = true then (-4, L)
  else (d - L.2.1 2, qa_upd L.1 (qa_id C) (fun C => ((qa_id C, qa_sec C, qa_beg C, d), C.2)), L.2)
def qa_setSun (L : qa_L) (x d : Int32) : Int32 × qa_L := qa_by L x fun C => qa_sunC L C d
def qa_citeC (L : qa_L) (C : qa_C) (y : Int32) : Int32 × qa_L :=
  if qa_has L.1 y = false then (-1, L)
  else if qa_id C = y then (-3, L)
  else if y ∈ qa_ci C ∨ 4 ≤ (qa_ci C).length then (-4, L)
  else (nI ((qa_ci C).length + 1), qa_upd L.1 (qa_id C) (fun C => (C.1, qa_vs C, qa_ci C ++ [y])), L.2)
def qa_cite (L : qa_L) (x y : Int32) : Int32 × qa_L := qa_by L x fun C => qa_citeC L C y
def qa_unciteC (L : qa_L) (C : qa_C) (y : Int32) : Int32 × qa_L :=
  if y ∈ qa_ci C then (nI ((qa_ci C).length - 1), qa_upd L.1 (qa_id C) (fun C => (C.1, qa_vs C, (qa_ci C).erase y)), L.2)
  else (-1, L)
def qa_uncite (L : qa_L) (x y : Int32) : Int32 × qa_L := qa_by L x fun C => qa_unciteC L C y
theorem qa_by_n {L : qa_L} {x : Int32} {f : qa_C → Int32 × qa_L} (h : qa_find L.1 x = none) : qa_by L x f = (-1, L) := by
  simp only [qa_by, h]
theorem qa_by_s {L : qa_L} {x : Int32} {f : qa_C → Int32 × qa_L} {C : qa_C} (h : qa_find L.1 x = some C) : qa_by L x f = f C := by
  simp only [qa_by, h]
def qa_repeal (L : qa_L) (x : Int32) : Int32 × qa_L :=
  if qa_has L.1 x = true then (nI (L.1.filter (fun C => qa_id C != x)).length, L.1.filter (fun C => qa_id C != x), upd L.2.1 5 (L.2.1 5 + 1), L.2.2) else (-1, L)
def qa_over (L : qa_L) : Nat := L.1.countP fun C => qa_laps C (L.2.1 2)
def qa_adv (L : qa_L) (n : Int32) : Int32 × qa_L :=
  if n < 1 ∨ 400 < n then (-3, L)
  else (nI (L.1.countP fun C => qa_laps C (L.2.1 2 + n)) - nI (qa_over L), L.1, upd L.2.1 2 (L.2.1 2 + n), L.2.2)
def qa_below (l : List qa_C) (s : Int32) : Nat := l.countP fun C => decide (qa_sec C < s)
def qa_live (L : qa_L) : List qa_C := L.1.filter fun C => !qa_laps C (L.2.1 2)
def qa_fresh (l : List qa_C) (C : qa_C) : qa_C := ((qa_id C, nI (qa_below l (qa_sec C) + 1), qa_beg C, qa_sun C), (qa_vs C).getLast?.toList, (qa_ci C).filter fun y => qa_has l y)
def qa_cons (L : qa_L) : Int32 × qa_L :=
  (L.2.1 7 + 1, (qa_live L).map (qa_fresh (qa_live L)), upd (upd L.2.1 6 (L.2.1 6 + nI (qa_over L))) 7 (L.2.1 7 + 1), upd L.2.2 ((L.2.1 7).toNatClampNeg + 1) (L.2.1 2))
/-! what is asked -/
def qa_rank (l : List qa_C) (r : Int32) : Option qa_C := l.find? fun C => nI (qa_below l (qa_sec C)) == r
def qa_ofSec (l : List qa_C) (s : Int32) : Option qa_C := l.find? fun C => qa_sec C == s
def qa_valid (l : List qa_C) (d : Int32) : Nat := l.countP fun C => qa_hold C d
def qa_notes (l : List qa_C) : Nat := (l.map fun C => (qa_txt C).length).sum
def qa_broken (L : qa_L) : Nat := (L.1.map fun C => (qa_ci C).countP fun y => match qa_find L.1 y with
  | none => true
  | some D => !qa_hold D (L.2.1 2)).sum
/-- the longest common subsequence -/
def qa_lcs : List Nat → List Nat → Nat
  | [], _ => 0
  | _ :: _, [] => 0
  | a :: s, b :: t => if a = b then qa_lcs s t + 1 else max (qa_lcs s (b :: t)) (qa_lcs (a :: s) t)
  termination_by s t => s.length + t.length
def qa_apart (s t : List Nat) : Nat := s.length + t.length - 2 * qa_lcs s t
/-- pairs of an earlier and a later one with the same text -/
def qa_pairs : List (List Nat) → Nat
  | [] => 0
  | t :: l => l.countP (fun s => s == t) + qa_pairs l
/-- what is reached from x by cites of clauses that exist -/
def qa_steps (l : List qa_C) (x y : Int32) : Prop := ∃ C, qa_find l x = some C ∧ y ∈ qa_ci C ∧ qa_has l y = true
def qa_reach (l : List qa_C) (x y : Int32) : Prop := ∀ S : Int32 → Prop, (∀ z, qa_steps l x z → S z) → (∀ w z, S w → qa_steps l w z → S z) → S y
def qa_citing (l : List qa_C) (C : qa_C) : Nat := l.countP fun D => decide (qa_id C ∈ qa_ci D)
def qa_ahead (l : List qa_C) (C : qa_C) : Nat := l.countP fun D => decide (qa_citing l C < qa_citing l D) || (qa_citing l D == qa_citing l C && decide (qa_sec D < qa_sec C))
def qa_byCites (l : List qa_C) (r : Int32) : Option qa_C := l.find? fun C => nI (qa_ahead l C) == r
/-! what always holds -/
def qa_okC (C : qa_C) (N : Nat) : Prop :=
  (∃ i s b, i < N ∧ 1 ≤ s ∧ s ≤ 99 ∧ b ≤ 400 * N ∧ qa_id C = nI i ∧ qa_sec C = nI s ∧ qa_beg C = nI b) ∧
  (qa_sun C = -1 ∨ ∃ u, u ≤ 400 * N + 9999 ∧ qa_sun C = nI u) ∧
  (1 ≤ (qa_vs C).length ∧ (qa_vs C).length ≤ 8 ∧ ∀ v ∈ qa_vs C, (1 ≤ v.2.length ∧ v.2.length ≤ 12 ∧ ∀ a ∈ v.2, a < 7) ∧ ∃ d, d ≤ 400 * N ∧ v.1 = nI d) ∧
  (qa_ci C).length ≤ 4 ∧ (qa_ci C).Nodup ∧ ∀ y ∈ qa_ci C, ∃ i, i < N ∧ y = nI i
def qa_ok (L : qa_L) (N : Nat) : Prop :=
  (L.1.length ≤ 16 ∧ (L.1.map qa_id).Pairwise (· < ·) ∧ (L.1.map qa_sec).Nodup ∧ ∀ C ∈ L.1, qa_okC C N ∧ qa_id C < L.2.1 3) ∧
  (∃ d a e, d ≤ 400 * N ∧ a ≤ N ∧ e ≤ N ∧ L.2.1 2 = nI d ∧ L.2.1 3 = nI a ∧ L.2.1 7 = nI e) ∧
  nI L.1.length = L.2.1 3 - L.2.1 5 - L.2.1 6
