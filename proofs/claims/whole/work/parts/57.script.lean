/-! The class's script: its letters, its twelve commands, what is read of them, what they do. -/
section QSC
variable {h h1 g : ql_H} {p a cap n r N : Nat} {l w : List Nat} {σ : Nat → Nat} {C : qz_C} {b : Nat} {B : qb_T} {L : qa_L}
abbrev qx_C : Type := Nat × Int32 × Int32 × Int32
variable {Cs : Nat → qx_C} {K : qx_C}
def qx_fs (σ : Nat → Nat) (K : qx_C) : List Value := [.ref (σ (100 + K.1)), .int K.2.1, .int K.2.2.1, .int K.2.2.2]
def qs_at (σ : Nat → Nat) (h : ql_H) (p a cap : Nat) (l : List Nat) (Cs : Nat → qx_C) (n r : Nat) : Prop :=
  h.2 p = some (.inr (10, [.ref (p + 1), .ref (p + 3), .int (nI n), .int (nI r)])) ∧ (∃ F : Nat → Option Nat, h.2 (p + 3) = some (.inl (7, 12, .inr (.inr (.inr (.inr F))))) ∧ ∀ j, j < 12 → F j = some (p + 4 + j)) ∧ (∀ j, j < 12 → h.2 (p + 4 + j) = some (.inr (7, qx_fs σ (Cs j))) ∧ (Cs j).1 < 10) ∧ qu_at h (p + 1) a cap l ∧ (a = p + 2 ∨ p + 16 ≤ a)
/-- but for its cells without its row -/
def qs_fr (p : Nat) (h h1 : ql_H) : Prop := h1.1 = h.1 ∧ ∀ q, q ≠ p → (q < p + 4 ∨ p + 16 ≤ q) → h1.2 q = h.2 q
theorem qs_fr.rf : qs_fr p h h := ⟨rfl, fun _ _ _ => rfl⟩
theorem qs_fr.tr {h2 : ql_H} (f : qs_fr p h h1) (g : qs_fr p h1 h2) : qs_fr p h h2 := ⟨g.1.trans f.1, fun q h1 h2 => (g.2 q h1 h2).trans (f.2 q h1 h2)⟩
theorem qs_fr.fr (f : qs_fr p h h1) : qp_fr p (p + 16) h h1 := ⟨f.1, fun q hq => f.2 q (by omega) (by omega)⟩
theorem qs_pn (H : qs_at σ h p a cap l Cs n r) {m : Nat} {Q : ql_H → Prop} (k : ∀ h1, qs_at σ h1 p a cap l Cs m r → qs_fr p h h1 → Q h1) : ql_pV h (some p) 10 2 (.int (nI m)) Q := by
  obtain ⟨a1, ⟨F, a2, a3⟩, a4, a5, a6⟩ := H
  rw [qp_pV a1 (by show 2 < 4; omega)]
  exact k _ ⟨qp_up_s, ⟨F, (qp_up_n (by omega)).trans a2, a3⟩, fun j hj => ⟨(qp_up_n (by omega)).trans (a4 j hj).1, (a4 j hj).2⟩, a5.kept (qp_up_n (by omega)) (qp_up_n (by omega)), a6⟩ ⟨rfl, fun q hq _ => qp_up_n hq⟩
theorem qs_pr (H : qs_at σ h p a cap l Cs n r) {m : Nat} {Q : ql_H → Prop} (k : ∀ h1, qs_at σ h1 p a cap l Cs n m → qs_fr p h h1 → Q h1) : ql_pV h (some p) 10 3 (.int (nI m)) Q := by
  obtain ⟨a1, ⟨F, a2, a3⟩, a4, a5, a6⟩ := H
  rw [qp_pV a1 (by show 3 < 4; omega)]
  exact k _ ⟨qp_up_s, ⟨F, (qp_up_n (by omega)).trans a2, a3⟩, fun j hj => ⟨(qp_up_n (by omega)).trans (a4 j hj).1, (a4 j hj).2⟩, a5.kept (qp_up_n (by omega)) (qp_up_n (by omega)), a6⟩ ⟨rfl, fun q hq _ => qp_up_n hq⟩
/-- a command's cell written -/
theorem qs_pc (H : qs_at σ h p a cap l Cs n r) {i f : Nat} (hi : i < 12) {v : Value} {K : qx_C} (e : (qx_fs σ (Cs i)).set f v = qx_fs σ K) (hf : f < 4) (hK : K.1 < 10) {Q : ql_H → Prop} (k : ∀ h1, qs_at σ h1 p a cap l (va_up Cs i K) n r → qs_fr p h h1 → Q h1) : ql_pV h (some (p + 4 + i)) 7 f v Q := by
  obtain ⟨a1, ⟨F, a2, a3⟩, a4, a5, a6⟩ := H
  rw [qp_pV (a4 i hi).1 hf, e]
  refine k _ ⟨(qp_up_n (by omega)).trans a1, ⟨F, (qp_up_n (by omega)).trans a2, a3⟩, fun j hj => ?_, a5.kept (qp_up_n (by omega)) (qp_up_n (by omega)), a6⟩ ⟨rfl, fun q _ hq => qp_up_n (by omega)⟩
  by_cases z : j = i
  · subst z
    rw [va_up_self]
    exact ⟨qp_up_s, hK⟩
  · rw [va_up_ne _ _ z]
    exact ⟨(qp_up_n (by omega)).trans (a4 j hj).1, (a4 j hj).2⟩
theorem qs_rv (H : qs_at σ h p a cap l Cs n r) {K : Nat → Prop} : ql_rv h (some p) 10 K = K p := qp_rv H.1
theorem qs_r0 (H : qs_at σ h p a cap l Cs n r) {K : Option Nat → Prop} : ql_gR h (some p) 10 0 K = K (some (p + 1)) := qp_gR H.1 rfl
theorem qs_r1 (H : qs_at σ h p a cap l Cs n r) {K : Option Nat → Prop} : ql_gR h (some p) 10 1 K = K (some (p + 3)) := qp_gR H.1 rfl
theorem qs_gn (H : qs_at σ h p a cap l Cs n r) {K : Int32 → Prop} : ql_gI h (some p) 10 2 K = K (nI n) := qp_gI H.1 rfl
theorem qs_gr (H : qs_at σ h p a cap l Cs n r) {K : Int32 → Prop} : ql_gI h (some p) 10 3 K = K (nI r) := qp_gI H.1 rfl
theorem qs_sv (H : qs_at σ h p a cap l Cs n r) {K : Nat → Prop} : ql_rv h (some (p + 1)) 1 K = K (p + 1) := qu_rv H.2.2.2.1
theorem qs_ln (H : qs_at σ h p a cap l Cs n r) {K : Int32 → Prop} : ql_len h (some (p + 3)) 7 K = K (nI 12) := by
  obtain ⟨F, a2, a3⟩ := H.2.1
  exact qp_len a2
theorem qs_lR (H : qs_at σ h p a cap l Cs n r) {i : Nat} (hi : i < 12) {K : Option Nat → Prop} : ql_lR h (some (p + 3)) 7 (nI i) K = K (some (p + 4 + i)) := by
  obtain ⟨F, a2, a3⟩ := H.2.1
  rw [qp_lR a2 hi (by omega), a3 i hi]
theorem qs_l70 (H : qs_at σ h p a cap l Cs n r) : l.length ≤ 70 := by
  obtain ⟨y, f, _, _, _, _, h5, h6, _⟩ := H.2.2.2.1
  omega
theorem qs_l128 (H : qs_at σ h p a cap l Cs n r) : ∀ c ∈ l, c < 128 := by
  obtain ⟨y, f, _, _, _, _, _, _, h7, _⟩ := H.2.2.2.1
  exact h7
theorem qe_X8_isNext (H : qs_at σ h p a cap l Cs n r) {i c : Nat} (hr : r ≤ l.length) (hi : i < 100) (hc : c < 65536) {Q : Int32 → ql_H → Prop} (k : Q (qp_b (qz_is l (r + i) c)) h) : qw_X8_isNext p (nI i) (nI c) h Q := by
  have l70 := qs_l70 H
  unfold qw_X8_isNext
  rw [qs_gr H, qs_r0 H, qs_sv H]
  refine qe_J4_len H.2.2.2.1 ?_
  rw [nI_add]
  by_cases z : l.length ≤ r + i
  · refine qp_iT (nI_le z (by omega)) ⟨ql_nz0, ?_⟩
    have e : qz_is l (r + i) c = false := by
      unfold qz_is
      rw [List.getElem?_eq_none z]
      rfl
    rw [e] at k
    exact k
  · refine qp_iF (nI_ge (by omega) (by omega)) ?_
    have hl : r + i < l.length := by omega
    have c128 := qs_l128 H _ (List.getElem_mem hl)
    rw [qs_r0 H, qs_sv H]
    refine qe_J4_chr H.2.2.2.1 hl ?_
    rw [qz_is_some hl] at k
    refine qp_if (fun y => ⟨ql_nz1, ?_⟩) fun y => ⟨ql_nz0, ?_⟩
    · rw [decide_eq_true ((nI_eq (by omega) (by omega)).mp y)] at k
      exact k
    · rw [decide_eq_false (fun q => y (by rw [q]))] at k
      exact k
theorem qe_X8_readSign (H : qs_at σ h p a cap l Cs n r) {c : Nat} (hr : r ≤ l.length) (hc : c < 65536) {Q : Int32 → ql_H → Prop} (k0 : qz_is l r c = false → Q 0 h) (k : qz_is l r c = true → ∀ h1, qs_at σ h1 p a cap l Cs n (r + 1) → qs_fr p h h1 → Q 1 h1) : qw_X8_readSign p (nI c) h Q := by
  unfold qw_X8_readSign
  rw [qs_rv H]
  refine qe_X8_isNext H (i := 0) hr (by omega) hc ?_
  rw [Nat.add_zero]
  cases e : qz_is l r c with
  | false => exact qp_iT rfl ⟨ql_nz0, k0 e⟩
  | true =>
    refine qp_iF qp_1 ?_
    rw [qs_gr H, nI_1]
    exact qs_pr H fun h1 H1 f1 => ⟨ql_nz1, k e h1 H1 f1⟩
theorem qe_X8_isNextIn (H : qs_at σ h p a cap l Cs n r) {x y : Nat} (hr : r ≤ l.length) (hx : x < 65536) (hy : y < 65536) {Q : Int32 → ql_H → Prop} (k : Q (qp_b (qz_in l r x y)) h) : qw_X8_isNextIn p (nI x) (nI y) h Q := by
  have l70 := qs_l70 H
  unfold qw_X8_isNextIn
  rw [qs_gr H, qs_r0 H, qs_sv H]
  refine qe_J4_len H.2.2.2.1 ?_
  by_cases z : r = l.length
  · refine qp_iT (nI_le (by omega) (by omega)) ⟨ql_nz0, ?_⟩
    rw [z, qz_in_end] at k
    exact k
  · have hl : r < l.length := by omega
    have c128 := qs_l128 H _ (List.getElem_mem hl)
    refine qp_iF (nI_ge hl (by omega)) ?_
    rw [qs_r0 H, qs_gr H, qs_sv H]
    refine qe_J4_chr H.2.2.2.1 hl ?_
    rw [qz_in_some hl] at k
    refine qp_if (fun u => ⟨ql_nz0, ?_⟩) fun u => ?_
    · have u := (nI_ltI (by omega) (by omega)).mp u
      rw [decide_eq_false (by omega)] at k
      exact k
    · have u : x ≤ l[r] := by
        rcases Nat.lt_or_ge l[r] x with q | q
        · exact absurd (nI_lt q (by omega)) u
        · exact q
      rw [decide_eq_true u] at k
      rw [qs_r0 H, qs_gr H, qs_sv H]
      refine qe_J4_chr H.2.2.2.1 hl ?_
      refine qp_if (fun v => ⟨ql_nz0, ?_⟩) fun v => ⟨ql_nz1, ?_⟩
      · have v := (nI_ltI (by omega) (by omega)).mp v
        rw [decide_eq_false (p := l[r] ≤ y) (by omega)] at k
        exact k
      · have v : l[r] ≤ y := by
          rcases Nat.lt_or_ge y l[r] with q | q
          · exact absurd (nI_lt q (by omega)) v
          · exact q
        rw [decide_eq_true v] at k
        exact k
def qx_n (x : Option Nat) : Int32 := match x with
  | none => -1
  | some x => nI x
theorem qe_X8_readNumber (H : qs_at σ h p a cap l Cs n r) (hr : r ≤ l.length) {Q : Int32 → ql_H → Prop} (k : ∀ h1, qs_at σ h1 p a cap l Cs n (qz_nm l 3 r none).2 → qs_fr p h h1 → (∀ x, (qz_nm l 3 r none).1 = some x → x < 1000) → Q (qx_n (qz_nm l 3 r none).1) h1) : qw_X8_readNumber p h Q := by
  have l70 := qs_l70 H
  have hL : ∀ d fu g q x, d ≤ 3 → d < fu → qs_at σ g p a cap l Cs n q → qs_fr p h g → q ≤ l.length → (∀ y, x = some y → y < 10 ^ (3 - d)) → qz_nm l d q x = qz_nm l 3 r none → qw_X8_readNumber_4 p Q fu (qx_n x) (nI (3 - d)) g := by
    intro d
    induction d with
    | zero =>
      intro fu g q x _ hf G f hq hx e
      obtain ⟨fu, rfl⟩ : ∃ z, fu = z + 1 := ⟨fu - 1, by omega⟩
      unfold qw_X8_readNumber_4
      have e : (x, q) = qz_nm l 3 r none := e
      rw [← e] at k
      exact qp_iT (by decide) (k g G f hx)
    | succ d ih =>
      intro fu g q x hd hf G f hq hx e
      obtain ⟨fu, rfl⟩ : ∃ z, fu = z + 1 := ⟨fu - 1, by omega⟩
      have e : (if qz_in l q 48 57 then qz_nm l d (q + 1) (some (10 * x.getD 0 + l.getD q 0 - 48)) else (x, q)) = qz_nm l 3 r none := e
      unfold qw_X8_readNumber_4
      refine qp_iF (nI_ge (b := 3) (a := 3 - (d + 1)) (by omega) (by omega)) ?_
      rw [qs_rv G]
      refine qe_X8_isNextIn G (x := 48) (y := 57) hq (by omega) (by omega) ?_
      cases z : qz_in l q 48 57 with
      | false =>
        rw [z] at e
        have e : (x, q) = qz_nm l 3 r none := e
        rw [← e] at k
        refine qp_iT rfl (k g G f fun y hy => Nat.lt_of_lt_of_le (hx y hy) ?_)
        rcases (show d = 0 ∨ d = 1 ∨ d = 2 by omega) with v | v | v <;> subst v <;> decide
      | true =>
        rw [z, if_pos rfl] at e
        have hl := qz_in_lt z
        have z2 := z
        rw [qz_in_some hl, Bool.and_eq_true] at z2
        have u1 : 48 ≤ l[q] := of_decide_eq_true z2.1
        have u2 : l[q] ≤ 57 := of_decide_eq_true z2.2
        have eg : l.getD q 0 = l[q] := by
          rw [List.getD_eq_getElem?_getD, List.getElem?_eq_getElem hl]
          rfl
        rw [eg] at e
        refine qp_iF qp_1 ?_
        rw [qs_r0 G, qs_gr G, qs_sv G]
        refine qe_J4_chr G.2.2.2.1 hl ?_
        rw [show nI l[q] - (48 : Int32) = nI (l[q] - 48) from pk_sub (b := 48) u1]
        have es : nI (3 - (d + 1)) + (1 : Int32) = nI (3 - d) := by
          rw [nI_1]
          congr 1
          omega
        cases x with
        | none =>
          refine qp_iT rfl ?_
          unfold qw_X8_readNumber_50
          rw [qs_gr G, nI_1, es]
          refine qs_pr G fun g1 G1 f1 => ?_
          refine ih fu g1 (q + 1) (some (l[q] - 48)) (by omega) (by omega) G1 (f.tr f1) hl (fun y hy => ?_) ?_
          · obtain rfl := Option.some.inj hy
            refine Nat.lt_of_lt_of_le (show l[q] - 48 < 10 by omega) ?_
            rcases (show d = 0 ∨ d = 1 ∨ d = 2 by omega) with v | v | v <;> subst v <;> decide
          · rw [← e]
            congr 2
            show l[q] - 48 = 10 * 0 + l[q] - 48
            omega
        | some y =>
          have hy := hx y rfl
          have hy3 : y < 10 ^ 2 := Nat.lt_of_lt_of_le hy (by rcases (show d = 0 ∨ d = 1 ∨ d = 2 by omega) with v | v | v <;> subst v <;> decide)
          refine qp_iF (qp_nI_m1 (by omega)) ?_
          unfold qw_X8_readNumber_50
          rw [qs_gr G, nI_1, es]
          have ev : (qx_n (some y) * (10 : Int32)) + nI (l[q] - 48) = qx_n (some (10 * y + l[q] - 48)) := by
            show nI y * nI 10 + nI (l[q] - 48) = nI (10 * y + l[q] - 48)
            rw [pk_mul, nI_add]
            congr 1
            omega
          rw [ev]
          refine qs_pr G fun g1 G1 f1 => ?_
          refine ih fu g1 (q + 1) (some (10 * y + l[q] - 48)) (by omega) (by omega) G1 (f.tr f1) hl (fun y2 hy2 => ?_) e
          obtain rfl := Option.some.inj hy2
          rcases (show d = 0 ∨ d = 1 ∨ d = 2 by omega) with v | v | v <;> subst v
          · have hy : y < 10 ^ 2 := hy
            show 10 * y + l[q] - 48 < 10 ^ 3
            omega
          · have hy : y < 10 ^ 1 := hy
            show 10 * y + l[q] - 48 < 10 ^ 2
            omega
          · have hy : y < 10 ^ 0 := hy
            show 10 * y + l[q] - 48 < 10 ^ 1
            omega
  exact hL 3 ql_FU h r none (Nat.le_refl _) (by unfold ql_FU; omega) H qs_fr.rf hr (fun y hy => by cases hy) rfl
/-- a form's letter as a part -/
def qx_e (x : Nat) : Nat := if x = 49 then 1049 else if x = 50 then 1050 else if x = 110 then 1110 else x
/-- the command's cell says what was read of w -/
def qx_r (w : List Nat) (K : qx_C) (C : qz_C) : Prop := K.1 = C.1 ∧ (1049 ∈ w → K.2.1 = nI C.2.1) ∧ (1050 ∈ w → K.2.2.1 = nI C.2.2.1) ∧ (1110 ∈ w → K.2.2.2 = nI C.2.2.2)
theorem qx_mem {w : List Nat} {x y : Nat} (h : x ∈ w ++ [y]) (n : x ≠ y) : x ∈ w := by
  rcases List.mem_append.mp h with z | z
  · exact z
  · exact absurd (List.mem_singleton.mp z) n
theorem qe_X8_readPart (H : qs_at σ h p a cap l Cs n r) (hr : r ≤ l.length) {i : Nat} (hi : i < 12) {x : Nat} (hx : x < 128) (R : qx_r w (Cs i) C) {Q : Int32 → ql_H → Prop} (k0 : (qz_part l (qx_e x) r C).1 = false → ∀ h1 K, qs_at σ h1 p a cap l (va_up Cs i K) n (qz_part l (qx_e x) r C).2.1 → qs_fr p h h1 → Q 0 h1) (k : (qz_part l (qx_e x) r C).1 = true → ∀ h1 K, qs_at σ h1 p a cap l (va_up Cs i K) n (qz_part l (qx_e x) r C).2.1 → qs_fr p h h1 → qx_r (w ++ [qx_e x]) K (qz_part l (qx_e x) r C).2.2 → Q 1 h1) : qw_X8_readPart p (nI x) (some (p + 4 + i)) h Q := by
  have hK := (H.2.2.1 i hi).2
  obtain ⟨R1, R2, R3, R4⟩ := R
  have ne : ∀ y, y < 128 → x ≠ y → ¬ nI x = nI y := fun y hy n q => n ((nI_eq (by omega) (by omega)).mp q)
  unfold qw_X8_readPart
  by_cases x1 : x = 49
  · subst x1
    refine qp_iT rfl ?_
    have ep : qz_part l (qx_e 49) r C = ((qz_nm l 3 r none).1.isSome, (qz_nm l 3 r none).2, C.1, (qz_nm l 3 r none).1.getD 0, C.2.2) := rfl
    rw [ep] at k0 k
    rw [qs_rv H]
    refine qe_X8_readNumber H hr fun h1 H1 f1 b1 => ?_
    refine qs_pc H1 hi (f := 1) (v := .int (qx_n (qz_nm l 3 r none).1)) (K := ((Cs i).1, qx_n (qz_nm l 3 r none).1, (Cs i).2.2)) rfl (by omega) hK fun h2 H2 f2 => ?_
    rw [qp_gI (k := 1) (x := qx_n (qz_nm l 3 r none).1) (by have := (H2.2.2.1 i hi).1; rw [va_up_self] at this; exact this) rfl]
    cases e : (qz_nm l 3 r none).1 with
    | none =>
      rw [e] at k0 H2
      exact qp_iT rfl ⟨ql_nz0, k0 rfl h2 _ H2 (f1.tr f2)⟩
    | some y =>
      have hy := b1 y e
      rw [e] at k H2
      refine qp_iF (qp_nI_m1 (by omega)) ⟨ql_nz1, k rfl h2 _ H2 (f1.tr f2) ⟨R1, fun _ => rfl, fun z => R3 (qx_mem z (by decide)), fun z => R4 (qx_mem z (by decide))⟩⟩
  refine qp_iF (ne 49 (by omega) x1) ?_
  by_cases x2 : x = 50
  · subst x2
    refine qp_iT rfl ?_
    have ep : qz_part l (qx_e 50) r C = ((qz_nm l 3 r none).1.isSome, (qz_nm l 3 r none).2, C.1, C.2.1, (qz_nm l 3 r none).1.getD 0, C.2.2.2) := rfl
    rw [ep] at k0 k
    rw [qs_rv H]
    refine qe_X8_readNumber H hr fun h1 H1 f1 b1 => ?_
    refine qs_pc H1 hi (f := 2) (v := .int (qx_n (qz_nm l 3 r none).1)) (K := ((Cs i).1, (Cs i).2.1, qx_n (qz_nm l 3 r none).1, (Cs i).2.2.2)) rfl (by omega) hK fun h2 H2 f2 => ?_
    rw [qp_gI (k := 2) (x := qx_n (qz_nm l 3 r none).1) (by have := (H2.2.2.1 i hi).1; rw [va_up_self] at this; exact this) rfl]
    cases e : (qz_nm l 3 r none).1 with
    | none =>
      rw [e] at k0 H2
      exact qp_iT rfl ⟨ql_nz0, k0 rfl h2 _ H2 (f1.tr f2)⟩
    | some y =>
      have hy := b1 y e
      rw [e] at k H2
      refine qp_iF (qp_nI_m1 (by omega)) ⟨ql_nz1, k rfl h2 _ H2 (f1.tr f2) ⟨R1, fun z => R2 (qx_mem z (by decide)), fun _ => rfl, fun z => R4 (qx_mem z (by decide))⟩⟩
  refine qp_iF (ne 50 (by omega) x2) ?_
  have same : qs_at σ h p a cap l (va_up Cs i (Cs i)) n r := by
    have e : va_up Cs i (Cs i) = Cs := by
      funext j
      by_cases z : j = i
      · subst z
        exact va_up_self ..
      · exact va_up_ne _ _ z
    rw [e]
    exact H
  by_cases x3 : x = 110
  · subst x3
    refine qp_iT rfl ?_
    have ep : qz_part l (qx_e 110) r C = if qz_in l r 97 103 then (true, r + 1, C.1, C.2.1, C.2.2.1, l.getD r 0) else (false, r, C) := rfl
    rw [ep] at k0 k
    rw [qs_rv H]
    unfold qw_X8_readNote
    rw [qs_rv H]
    refine qe_X8_isNextIn H (x := 97) (y := 103) hr (by omega) (by omega) ?_
    cases e : qz_in l r 97 103 with
    | false =>
      rw [e] at k0
      exact qp_iT rfl ⟨ql_nz0, ql_nz0, k0 rfl h (Cs i) same qs_fr.rf⟩
    | true =>
      rw [e] at k
      have hl := qz_in_lt e
      have c128 := qs_l128 H _ (List.getElem_mem hl)
      have eg : l.getD r 0 = l[r] := by
        rw [List.getD_eq_getElem?_getD, List.getElem?_eq_getElem hl]
        rfl
      rw [eg] at k
      refine qp_iF qp_1 ?_
      rw [qs_r0 H, qs_gr H, qs_sv H]
      refine qe_J4_chr H.2.2.2.1 hl ⟨pk_charN (by omega), ?_⟩
      refine qs_pc H hi (f := 3) (v := .int (nI l[r])) (K := ((Cs i).1, (Cs i).2.1, (Cs i).2.2.1, nI l[r])) rfl (by omega) hK fun h1 H1 f1 => ?_
      rw [qs_gr H1, nI_1]
      exact qs_pr H1 fun h2 H2 f2 => ⟨ql_nz1, ql_nz1, k rfl h2 _ H2 (f1.tr f2) ⟨R1, fun z => R2 (qx_mem z (by decide)), fun z => R3 (qx_mem z (by decide)), fun _ => rfl⟩⟩
  refine qp_iF (ne 110 (by omega) x3) ?_
  have ee : qx_e x = x := by
    unfold qx_e
    rw [if_neg x1, if_neg x2, if_neg x3]
  have ep : qz_part l (qx_e x) r C = if qz_is l r x then (true, r + 1, C) else (false, r, C) := by
    rw [ee]
    exact qz_part_sign (by omega)
  rw [ep] at k0 k
  rw [qs_rv H]
  refine qe_X8_readSign H hr (by omega) (fun e => ⟨ql_nz0, ?_⟩) fun e h1 H1 f1 => ⟨ql_nz1, ?_⟩
  · rw [e] at k0
    exact k0 rfl h (Cs i) same qs_fr.rf
  · rw [e] at k
    have same1 : qs_at σ h1 p a cap l (va_up Cs i (Cs i)) n (r + 1) := by
      have e : va_up Cs i (Cs i) = Cs := by
        funext j
        by_cases z : j = i
        · subst z
          exact va_up_self ..
        · exact va_up_ne _ _ z
      rw [e]
      exact H1
    refine k rfl h1 (Cs i) same1 f1 ⟨R1, fun z => R2 (qx_mem z (by rw [ee]; omega)), fun z => R3 (qx_mem z (by rw [ee]; omega)), fun z => R4 (qx_mem z (by rw [ee]; omega))⟩
theorem qx_upup {i : Nat} {K K2 : qx_C} : va_up (va_up Cs i K) i K2 = va_up Cs i K2 := bx_uu _ _ _ _
/-- the forms -/
theorem qx_fm : ∀ k, k < 10 → ql_fm k < 25 ∧ qz_fm.getD k [] = (qz_s (ql_fm k)).map qx_e ∧ ∀ c ∈ qz_s (ql_fm k), c < 128 := by decide
theorem qx_kw : ∀ k, k < 10 → ql_kw k < 25 ∧ qz_kw[k]? = some (qz_s (ql_kw k)) ∧ (qz_s (ql_kw k)).length < 8 ∧ ∀ c ∈ qz_s (ql_kw k), c < 128 := by decide
theorem qe_X8_readForm (H : qs_at σ h p a cap l Cs n r) (hr : r ≤ l.length) {i : Nat} (hi : i < 12) (R : qx_r [] (Cs i) C) (hC : C.1 < 10) {Q : Int32 → ql_H → Prop} (k : ∀ h1 K, qs_at σ h1 p a cap l (va_up Cs i K) n (qz_seq l (qz_fm.getD C.1 []) r C).2.1 → qs_fr p h h1 → ((qz_seq l (qz_fm.getD C.1 []) r C).1 = true → qx_r (qz_fm.getD C.1 []) K (qz_seq l (qz_fm.getD C.1 []) r C).2.2) → Q (qp_b (qz_seq l (qz_fm.getD C.1 []) r C).1) h1) : qw_X8_readForm σ p (some (p + 4 + i)) h Q := by
  have hcell := (H.2.2.1 i hi).1
  have hK := (H.2.2.1 i hi).2
  obtain ⟨f1, f2, f3⟩ := qx_fm C.1 hC
  have f8 := (qz_s_sh _ f1).2
  unfold qw_X8_readForm
  rw [qp_gR (k := 0) (x := σ (100 + (Cs i).1)) hcell rfl, R.1]
  refine ⟨C.1, hC, rfl, ?_⟩
  have hL : ∀ d j fu g q K C2, j + d = (qz_s (ql_fm C.1)).length → d < fu → qs_at σ g p a cap l (va_up Cs i K) n q → qs_fr p h g → q ≤ l.length → qx_r ((qz_fm.getD C.1 []).take j) K C2 → qz_seq l ((qz_fm.getD C.1 []).drop j) q C2 = qz_seq l (qz_fm.getD C.1 []) r C → qw_X8_readForm_10 σ p Q fu (some (p + 4 + i)) (some (σ (200 + ql_fm C.1))) (nI j) g := by
    intro d
    induction d with
    | zero =>
      intro j fu g q K C2 hj hf G f hq R e
      obtain ⟨fu, rfl⟩ : ∃ z, fu = z + 1 := ⟨fu - 1, by omega⟩
      unfold qw_X8_readForm_10
      refine ⟨_, f1, rfl, qe_J0_length f1 (qp_iT (nI_le (by omega) (by omega)) ⟨ql_nz1, ?_⟩)⟩
      have len : (qz_fm.getD C.1 []).length = (qz_s (ql_fm C.1)).length := by rw [f2, List.length_map]
      rw [List.drop_of_length_le (by omega)] at e
      rw [List.take_of_length_le (by omega)] at R
      have e : (true, q, C2) = qz_seq l (qz_fm.getD C.1 []) r C := e
      rw [← e] at k
      exact k g K G f fun _ => R
    | succ d ih =>
      intro j fu g q K C2 hj hf G f hq R e
      obtain ⟨fu, rfl⟩ : ∃ z, fu = z + 1 := ⟨fu - 1, by omega⟩
      have hj2 : j < (qz_s (ql_fm C.1)).length := by omega
      have len : (qz_fm.getD C.1 []).length = (qz_s (ql_fm C.1)).length := by rw [f2, List.length_map]
      have hj3 : j < (qz_fm.getD C.1 []).length := by omega
      unfold qw_X8_readForm_10
      refine ⟨_, f1, rfl, qe_J0_length f1 (qp_iF (nI_ge hj2 (by omega)) ⟨_, f1, rfl, qe_J0_charAt f1 hj2 ?_⟩)⟩
      have ech : (qz_s (ql_fm C.1)).getD j 0 = (qz_s (ql_fm C.1))[j] := by
        rw [List.getD_eq_getElem?_getD, List.getElem?_eq_getElem hj2]
        rfl
      have ec : (qz_fm.getD C.1 [])[j] = qx_e ((qz_s (ql_fm C.1)).getD j 0) := by
        rw [ech]
        exact qt_gm f2 hj3 hj2
      have c128 : (qz_s (ql_fm C.1)).getD j 0 < 128 := by
        rw [ech]
        exact f3 _ (List.getElem_mem hj2)
      rw [List.drop_eq_getElem_cons hj3, ec] at e
      have e : (if (qz_part l (qx_e ((qz_s (ql_fm C.1)).getD j 0)) q C2).1 then qz_seq l ((qz_fm.getD C.1 []).drop (j + 1)) (qz_part l (qx_e ((qz_s (ql_fm C.1)).getD j 0)) q C2).2.1 (qz_part l (qx_e ((qz_s (ql_fm C.1)).getD j 0)) q C2).2.2 else qz_part l (qx_e ((qz_s (ql_fm C.1)).getD j 0)) q C2) = qz_seq l (qz_fm.getD C.1 []) r C := e
      have pp := qz_part_p (l := l) (qx_e ((qz_s (ql_fm C.1)).getD j 0)) q C2 hq
      rw [qs_rv G]
      have R' : qx_r ((qz_fm.getD C.1 []).take j) (va_up Cs i K i) C2 := by
        rw [va_up_self]
        exact R
      refine qe_X8_readPart G hq hi c128 R' (fun z g1 K1 G1 x1 => qp_iT rfl ⟨ql_nz0, ?_⟩) fun z g1 K1 G1 x1 R1 => qp_iF qp_1 ?_
      · rw [if_neg (by rw [z]; decide)] at e
        rw [qx_upup] at G1
        have := k g1 K1 (by rw [← e]; exact G1) (f.tr x1)
        rw [← e, z] at this
        exact this fun y => by cases y
      · rw [if_pos z] at e
        rw [qx_upup] at G1
        rw [nI_1]
        refine ih (j + 1) fu g1 _ K1 _ (by omega) (by omega) G1 (f.tr x1) pp.2 ?_ e
        rw [List.take_succ_eq_append_getElem hj3, ec]
        exact R1
  have same : qs_at σ h p a cap l (va_up Cs i (Cs i)) n r := by
    have e : va_up Cs i (Cs i) = Cs := by
      funext j
      by_cases z : j = i
      · subst z
        exact va_up_self ..
      · exact va_up_ne _ _ z
    rw [e]
    exact H
  exact hL _ 0 ql_FU h r (Cs i) C (Nat.zero_add _) (by unfold ql_FU; omega) same qs_fr.rf hr ⟨R.1, fun z => absurd z List.not_mem_nil, fun z => absurd z List.not_mem_nil, fun z => absurd z List.not_mem_nil⟩ rfl
theorem qe_X8_countSame (H : qs_at σ h p a cap l Cs n r) (hr : r ≤ l.length) {k : Nat} (hk : k < 25) {Q : Int32 → ql_H → Prop} (K : Q (nI (qz_cs l r (qz_s k))) h) : qw_X8_countSame σ p (some (σ (200 + k))) h Q := by
  have k8 := (qz_s_sh k hk).2
  have hL : ∀ d j fu, j + d = (qz_s k).length → d < fu → r + j ≤ l.length → qz_cs l r (qz_s k) = j + qz_cs l (r + j) ((qz_s k).drop j) → qw_X8_countSame_2 σ p Q fu (some (σ (200 + k))) (nI j) h := by
    intro d
    induction d with
    | zero =>
      intro j fu hj hf hq e
      obtain ⟨fu, rfl⟩ : ∃ z, fu = z + 1 := ⟨fu - 1, by omega⟩
      unfold qw_X8_countSame_2
      refine ⟨k, hk, rfl, qe_J0_length hk (qp_iT (nI_le (by omega) (by omega)) ?_)⟩
      rw [List.drop_of_length_le (by omega)] at e
      rw [e] at K
      exact K
    | succ d ih =>
      intro j fu hj hf hq e
      obtain ⟨fu, rfl⟩ : ∃ z, fu = z + 1 := ⟨fu - 1, by omega⟩
      have hj2 : j < (qz_s k).length := by omega
      have e2 : (qz_s k).drop j = (qz_s k).getD j 0 :: (qz_s k).drop (j + 1) := by
        rw [List.getD_eq_getElem?_getD, List.getElem?_eq_getElem hj2]
        exact List.drop_eq_getElem_cons hj2
      have c256 := (qz_s_ch k hk j hj2).2
      unfold qw_X8_countSame_2
      refine ⟨k, hk, rfl, qe_J0_length hk (qp_iF (nI_ge hj2 (by omega)) ⟨k, hk, rfl, qe_J0_charAt hk hj2 ?_⟩)⟩
      rw [qs_rv H]
      refine qe_X8_isNext H hr (by omega) (by omega) ?_
      cases z : qz_is l (r + j) ((qz_s k).getD j 0) with
      | false =>
        refine qp_iT rfl ?_
        rw [e2, qz_cs_no z] at e
        rw [e] at K
        exact K
      | true =>
        refine qp_iF qp_1 ?_
        rw [nI_1]
        refine ih (j + 1) fu (by omega) (by omega) (qz_is_lt z) ?_
        rw [e2, qz_cs_yes z, show r + j + 1 = r + (j + 1) by omega] at e
        omega
  exact hL _ 0 ql_FU (Nat.zero_add _) (by unfold ql_FU; omega) hr (by rw [Nat.zero_add]; rfl)
theorem qe_X8_readKeyword (H : qs_at σ h p a cap l Cs n r) (hr : r ≤ l.length) {i : Nat} (hi : i < 12) {Q : Int32 → ql_H → Prop} (k0 : (qz_key l r qz_kw 0 0).1 = none → ∀ h1, qs_at σ h1 p a cap l Cs n (qz_key l r qz_kw 0 0).2 → qs_fr p h h1 → Q 0 h1) (k : ∀ j, j < 10 → (qz_key l r qz_kw 0 0).1 = some j → ∀ h1, qs_at σ h1 p a cap l (va_up Cs i (j, (Cs i).2)) n (qz_key l r qz_kw 0 0).2 → qs_fr p h h1 → Q 1 h1) : qw_X8_readKeyword σ p (some (p + 4 + i)) h Q := by
  have hL : ∀ d j fu m, j + d = 10 → d < fu → m < 10 → qz_key l r (qz_kw.drop j) j m = qz_key l r qz_kw 0 0 → qw_X8_readKeyword_13 σ p Q fu (some (p + 4 + i)) (nI m) (nI 10) (nI j) h := by
    intro d
    induction d with
    | zero =>
      intro j fu m hj hf hm e
      obtain ⟨fu, rfl⟩ : ∃ z, fu = z + 1 := ⟨fu - 1, by omega⟩
      unfold qw_X8_readKeyword_13
      refine qp_iT (nI_le (by omega) (by omega)) ?_
      rw [List.drop_of_length_le (by show 10 ≤ j; omega)] at e
      have e : ((none : Option Nat), r + m) = qz_key l r qz_kw 0 0 := e
      rw [← e] at k0
      rw [qs_gr H, nI_add]
      exact qs_pr H fun h1 H1 f1 => ⟨ql_nz0, k0 rfl h1 H1 f1⟩
    | succ d ih =>
      intro j fu m hj hf hm e
      obtain ⟨fu, rfl⟩ : ∃ z, fu = z + 1 := ⟨fu - 1, by omega⟩
      have hj10 : j < 10 := by omega
      obtain ⟨w1, w2, w3, w4⟩ := qx_kw j hj10
      have ew : qz_kw.drop j = qz_s (ql_kw j) :: qz_kw.drop (j + 1) := by
        obtain ⟨hl, el⟩ := List.getElem?_eq_some_iff.mp w2
        rw [List.drop_eq_getElem_cons hl, el]
      rw [ew] at e
      have e : (if qz_cs l r (qz_s (ql_kw j)) = (qz_s (ql_kw j)).length then (some j, r + (qz_s (ql_kw j)).length) else qz_key l r (qz_kw.drop (j + 1)) (j + 1) (max m (qz_cs l r (qz_s (ql_kw j))))) = qz_key l r qz_kw 0 0 := e
      have cle := qz_cs_le (l := l) (qz_s (ql_kw j)) r
      unfold qw_X8_readKeyword_13
      refine qp_iF (nI_ge hj10 (by omega)) ⟨vp_in_nI hj10 (by omega), ?_⟩
      rw [nI_clamp (by omega)]
      refine ⟨j, hj10, rfl, ?_⟩
      dsimp only
      rw [qs_rv H]
      refine qe_X8_countSame H hr w1 (qp_max (by omega) (by omega) ⟨j, hj10, rfl, _, w1, rfl, qe_J0_length w1 ?_⟩)
      by_cases z : qz_cs l r (qz_s (ql_kw j)) = (qz_s (ql_kw j)).length
      · refine qp_iT (by rw [z]) ?_
        rw [if_pos z] at e
        rw [← e] at k
        refine qs_pc H hi (f := 0) (v := va_rf (some (σ (100 + j)))) (K := (j, (Cs i).2)) rfl (by omega) hj10 fun h1 H1 f1 => ?_
        rw [qs_gr H1, nI_add, z]
        exact qs_pr H1 fun h2 H2 f2 => ⟨ql_nz1, k j hj10 rfl h2 H2 (f1.tr f2)⟩
      · refine qp_iF (fun q => z ((nI_eq (by omega) (by omega)).mp q)) ?_
        rw [if_neg z] at e
        rw [nI_1]
        exact ih (j + 1) fu _ (by omega) (by omega) (by omega) e
  exact hL 10 0 ql_FU 0 (Nat.zero_add _) (by unfold ql_FU; omega) (by omega) rfl
theorem qz_key_p (hr : r ≤ l.length) : (qz_key l r qz_kw 0 0).2 ≤ l.length := by
  cases e : qz_key l r qz_kw 0 0 with
  | mk o q =>
    cases o with
    | none => exact qz_key_no hr qz_kw 0 0 q hr e
    | some i =>
      obtain ⟨w, hw, e1, e2, e3⟩ := qz_key_adv hr qz_kw _ _ _ _ e
      exact e2
/-- a command told as it was read -/
def qx_tm (K : qx_C) (C : qz_C) : Prop := qx_r (qz_fm.getD C.1 []) K C
theorem qe_X8_read (H : qs_at σ h p a cap l Cs n r) {Q : Int32 → ql_H → Prop} (k : ∀ h1 Cs1 n1, qs_at σ h1 p a cap l Cs1 n1 (qz_read l).2.1 → qs_fr p h h1 → ((qz_read l).1 = true → n1 = (qz_read l).2.2.length ∧ ∀ i (hi : i < (qz_read l).2.2.length), qx_tm (Cs1 i) (qz_read l).2.2[i]) → Q (qp_b (qz_read l).1) h1) : qw_X8_read σ p h Q := by
  have l70 := qs_l70 H
  have l128 : ∀ c ∈ l, c < 65536 := fun c hc => by
    have := qs_l128 H c hc
    omega
  unfold qw_X8_read
  refine qs_pr (m := 0) H fun ha Ha fa => ?_
  refine qs_pn (m := 0) Ha fun hb Hb fb => ?_
  rw [qs_r1 Hb, qs_ln Hb]
  have hL : ∀ d c fu g q cs Cs1, c + d = 12 → cs.length = c → d < fu → qs_at σ g p a cap l Cs1 c q → qs_fr p h g → q ≤ l.length → (∀ i (hi : i < cs.length), qx_tm (Cs1 i) cs[i]) → qz_rd l d q cs = qz_read l → qw_X8_read_20 σ p Q fu (some (p + 3)) (nI 12) (nI c) g := by
    intro d
    induction d with
    | zero =>
      intro c fu g q cs Cs1 hc hcs hf G f hq tm e
      obtain ⟨fu, rfl⟩ : ∃ z, fu = z + 1 := ⟨fu - 1, by omega⟩
      unfold qw_X8_read_20
      refine qp_iT (nI_le (by omega) (by omega)) ⟨ql_nz0, ?_⟩
      have e : (false, q, cs) = qz_read l := e
      rw [← e] at k
      exact k g Cs1 c G f fun z => by cases z
    | succ d ih =>
      intro c fu g q cs Cs1 hc hcs hf G f hq tm e
      obtain ⟨fu, rfl⟩ : ∃ z, fu = z + 1 := ⟨fu - 1, by omega⟩
      have hc12 : c < 12 := by omega
      have e : (if (qz_cmd l q).1 then (if (qz_cmd l q).2.1 = l.length then (true, (qz_cmd l q).2.1, cs ++ [(qz_cmd l q).2.2]) else if qz_is l (qz_cmd l q).2.1 59 then qz_rd l d ((qz_cmd l q).2.1 + 1) (cs ++ [(qz_cmd l q).2.2]) else (false, (qz_cmd l q).2.1, cs ++ [(qz_cmd l q).2.2])) else (false, (qz_cmd l q).2.1, cs)) = qz_read l := e
      unfold qw_X8_read_20
      refine qp_iF (nI_ge hc12 (by omega)) ?_
      rw [qs_lR G hc12, qs_rv G]
      have kp := qz_key_p (l := l) hq
      refine qe_X8_readKeyword G hq hc12 (fun z g1 G1 x1 => qp_iT rfl ⟨ql_nz0, ?_⟩) fun j hj z g1 G1 x1 => qp_iF qp_1 ?_
      · have ec : qz_cmd l q = (false, (qz_key l q qz_kw 0 0).2, 0, 0, 0, 0) := by
          unfold qz_cmd
          generalize qz_key l q qz_kw 0 0 = o at z ⊢
          obtain ⟨o, q2⟩ := o
          have z : o = none := z
          subst z
          rfl
        rw [ec] at e
        have e : (false, (qz_key l q qz_kw 0 0).2, cs) = qz_read l := e
        rw [← e] at k
        exact k g1 Cs1 c G1 (f.tr x1) fun y => by cases y
      · have ec : qz_cmd l q = qz_seq l (qz_fm.getD j []) (qz_key l q qz_kw 0 0).2 (j, 0, 0, 0) := by
          unfold qz_cmd
          generalize qz_key l q qz_kw 0 0 = o at z ⊢
          obtain ⟨o, q2⟩ := o
          have z : o = some j := z
          subst z
          rfl
        rw [qs_rv G1]
        have ok := fun z => qz_cmd_ok l128 hq z
        refine qe_X8_readForm G1 kp hc12 (C := (j, 0, 0, 0)) (by rw [va_up_self]; exact ⟨rfl, fun z => absurd z List.not_mem_nil, fun z => absurd z List.not_mem_nil, fun z => absurd z List.not_mem_nil⟩) hj fun g2 K2 G2 x2 R2 => ?_
        have ec' : qz_seq l (qz_fm.getD ((j, 0, 0, 0) : qz_C).1 []) (qz_key l q qz_kw 0 0).2 (j, 0, 0, 0) = qz_cmd l q := ec.symm
        rw [ec'] at G2 R2 ⊢
        rw [qx_upup] at G2
        by_cases y : (qz_cmd l q).1 = true
        · have ok := ok y
          rw [y]
          rw [if_pos y] at e
          refine qp_iF qp_1 ?_
          rw [qs_gn G2, nI_1]
          refine qs_pn G2 fun g3 G3 x3 => ?_
          have fr3 := f.tr (x1.tr (x2.tr x3))
          rw [qs_gr G3, qs_r0 G3, qs_sv G3]
          have tm2 : ∀ i (hi : i < (cs ++ [(qz_cmd l q).2.2]).length), qx_tm (va_up Cs1 c K2 i) (cs ++ [(qz_cmd l q).2.2])[i] := fun i hi => by
            by_cases u : i = cs.length
            · subst u
              rw [qt_g1 (l := cs ++ [(qz_cmd l q).2.2]) rfl hi rfl, hcs, va_up_self]
              have e1 : (qz_cmd l q).2.2.1 = j := by
                rw [ec]
                exact (qz_seq_ok l128 (qz_fm.getD j []) _ (j, 0, 0, 0) (show (0 : Nat) < 65536 by decide)).1
              have := R2 y
              unfold qx_tm
              rw [e1]
              exact this
            · have hi2 : i < cs.length := by
                rw [List.length_append] at hi
                have : i < cs.length + 1 := hi
                omega
              rw [qt_gl (l := cs ++ [(qz_cmd l q).2.2]) rfl hi hi2, va_up_ne _ _ (by omega)]
              exact tm i hi2
          have len : (cs ++ [(qz_cmd l q).2.2]).length = c + 1 := by rw [List.length_append, hcs]; rfl
          refine qe_J4_len G3.2.2.2.1 ?_
          have q70 := ok.1.2
          refine qp_if (fun u => ⟨ql_nz1, ?_⟩) fun u => ?_
          · rw [if_pos ((nI_eq (by omega) (by omega)).mp u)] at e
            rw [← e] at k
            exact k g3 _ _ G3 fr3 fun _ => ⟨len.symm, tm2⟩
          · rw [if_neg (fun v => u (by rw [v]))] at e
            rw [qs_rv G3]
            refine qe_X8_readSign G3 (c := 59) ok.1.2 (by omega) (fun v => qp_iT rfl ⟨ql_nz0, ?_⟩) fun v g4 G4 x4 => qp_iF qp_1 ?_
            · rw [if_neg (by rw [v]; decide)] at e
              rw [← e] at k
              exact k g3 _ _ G3 fr3 fun z => by cases z
            · rw [if_pos v] at e
              exact ih (c + 1) fu g4 _ _ _ (by omega) len (by omega) G4 (fr3.tr x4) (qz_is_lt v) tm2 e
        · have y := Bool.eq_false_iff.mpr y
          rw [y] at e ⊢
          refine qp_iT rfl ⟨ql_nz0, ?_⟩
          have e : (false, (qz_cmd l q).2.1, cs) = qz_read l := e
          rw [← e] at k
          exact k g2 _ c G2 (f.tr (x1.tr x2)) fun z => by cases z
  exact hL 12 0 ql_FU hb 0 [] Cs rfl rfl (by unfold ql_FU; omega) Hb (fa.tr fb) (Nat.zero_le _) (fun i hi => absurd hi (Nat.not_lt_zero i)) rfl
/-! the commands done -/
theorem qx_sm : ∀ k, k < 10 → ql_sm k = nI (if k = 8 then 0 else if k = 9 then 9 else k + 1) := by decide
theorem qe_X4_applyTo {c : Nat} (hc : h.2 c = some (.inr (7, qx_fs σ K))) (hK : K.1 < 10) (G : qb_at h b B) (R : qr_L B L) (w : qa_w L N) (hN : N < 2 ^ 20) (t : qx_tm K C) {Q : Int32 → ql_H → Prop} (k : ∀ h1 B1, qb_at h1 b B1 → qr_L B1 (qz_do L C).2 → qp_fr b (b + 67) h h1 → Q (qz_do L C).1 h1) : qw_X4_applyTo σ c (some b) h Q := by
  obtain ⟨t0, t1, t2, t3⟩ := t
  have hd := w.1.1
  obtain ⟨e, he, ee⟩ := w.2.2.2
  rw [t0] at hK
  have c10 : C.1 = 0 ∨ C.1 = 1 ∨ C.1 = 2 ∨ C.1 = 3 ∨ C.1 = 4 ∨ C.1 = 5 ∨ C.1 = 6 ∨ C.1 = 7 ∨ C.1 = 8 ∨ C.1 = 9 := by omega
  unfold qw_X4_applyTo
  rw [qp_gR (k := 0) (x := σ (100 + K.1)) hc rfl, t0]
  refine ⟨C.1, hK, rfl, ?_⟩
  unfold qw_Jx29ce0_ordinal_8abf5
  refine ⟨C.1, hK, rfl, vp_in_nI hK (by omega), ?_⟩
  rw [nI_clamp (by omega), qx_sm _ hK]
  unfold qz_do at k
  have g1 : ∀ {K1 : Int32 → Prop}, ql_gI h (some c) 7 1 K1 = K1 K.2.1 := qp_gI hc rfl
  have g2 : ∀ {K1 : Int32 → Prop}, ql_gI h (some c) 7 2 K1 = K1 K.2.2.1 := qp_gI hc rfl
  have g3 : ∀ {K1 : Int32 → Prop}, ql_gI h (some c) 7 3 K1 = K1 K.2.2.2 := qp_gI hc rfl
  rcases c10 with z | z | z | z | z | z | z | z | z | z <;> rw [z] at t1 t2 t3 k ⊢
  · refine qp_iT (by decide) ?_
    rw [g1, g3, t1 (by decide), t3 (by decide), qb_rv G]
    exact qe_X1_tryAdd G R k
  · refine qp_iF (by decide) (qp_iT (by decide) ?_)
    rw [g1, g2, g3, t1 (by decide), t2 (by decide), t3 (by decide), qb_rv G]
    exact qe_X1_tryInsert G R hd k
  · refine qp_iF (by decide) (qp_iF (by decide) (qp_iT (by decide) ?_))
    rw [g1, g2, g3, t1 (by decide), t2 (by decide), t3 (by decide), qb_rv G]
    exact qe_X1_tryReplace G R hd k
  · refine qp_iF (by decide) (qp_iF (by decide) (qp_iF (by decide) (qp_iT (by decide) ?_)))
    rw [g1, g2, t1 (by decide), t2 (by decide), qb_rv G]
    exact qe_X1_tryDelete G R hd k
  · refine qp_iF (by decide) (qp_iF (by decide) (qp_iF (by decide) (qp_iF (by decide) (qp_iT (by decide) ?_))))
    rw [g1, g2, t1 (by decide), t2 (by decide), qb_rv G]
    exact qe_X1_trySunset G R hd k
  · refine qp_iF (by decide) (qp_iF (by decide) (qp_iF (by decide) (qp_iF (by decide) (qp_iF (by decide) (qp_iT (by decide) ?_)))))
    rw [g1, g2, t1 (by decide), t2 (by decide), qb_rv G]
    exact qe_X1_tryCite G R hd (w.id1 hN) k
  · refine qp_iF (by decide) (qp_iF (by decide) (qp_iF (by decide) (qp_iF (by decide) (qp_iF (by decide) (qp_iF (by decide) (qp_iT (by decide) ?_))))))
    rw [g1, g2, t1 (by decide), t2 (by decide), qb_rv G]
    exact qe_X1_tryUncite G R hd k
  · refine qp_iF (by decide) (qp_iF (by decide) (qp_iF (by decide) (qp_iF (by decide) (qp_iF (by decide) (qp_iF (by decide) (qp_iF (by decide) (qp_iT (by decide) ?_)))))))
    rw [g1, t1 (by decide), qb_rv G]
    exact qe_X1_tryRepeal G R hd k
  · refine qp_iF (by decide) (qp_iF (by decide) (qp_iF (by decide) (qp_iF (by decide) (qp_iF (by decide) (qp_iF (by decide) (qp_iF (by decide) (qp_iF (by decide) (qp_iF (by decide) ?_))))))))
    rw [qb_rv G]
    exact qe_X1_makeEdition G R w.1.2.1 (e := e) (by omega) ee k
  · refine qp_iF (by decide) (qp_iF (by decide) (qp_iF (by decide) (qp_iF (by decide) (qp_iF (by decide) (qp_iF (by decide) (qp_iF (by decide) (qp_iF (by decide) (qp_iT (by decide) ?_))))))))
    rw [g1, t1 (by decide), qb_rv G]
    exact qe_X1_tryAdvance G R k
theorem qe_X8_applyTo {cs : List qz_C} (H : qs_at σ h p a cap l Cs cs.length r) (h12 : cs.length ≤ 12) (tm : ∀ i (hi : i < cs.length), qx_tm (Cs i) cs[i]) (G : qb_at h b B) (R : qr_L B L) (w : qa_w L N) (hN : N + 12 < 2 ^ 20) (ap : b + 67 ≤ p ∨ p + 16 ≤ b) (apa : a < b ∨ b + 67 ≤ a) {Q : Int32 → ql_H → Prop} (k : ∀ h1 B1 L1, qb_at h1 b B1 → qr_L B1 L1 → qp_fr b (b + 67) h h1 → qz_run cs 0 L = .inr L1 → Q (-1) h1) (k0 : ∀ h1 B1 L1 j, qb_at h1 b B1 → qr_L B1 L1 → qp_fr b (b + 67) h h1 → j < cs.length → qz_run cs 0 L = .inl j → Q (nI j) h1) : qw_X8_applyTo σ p (some b) h Q := by
  have kp : ∀ g, qp_fr b (b + 67) h g → qs_at σ g p a cap l Cs cs.length r := fun g f => by
    obtain ⟨a1, ⟨F, a2, a3⟩, a4, a5, a6⟩ := H
    exact ⟨(f.2 _ (by omega)).trans a1, ⟨F, (f.2 _ (by omega)).trans a2, a3⟩, fun j hj => ⟨(f.2 _ (by omega)).trans (a4 j hj).1, (a4 j hj).2⟩, a5.kept (f.2 _ (by omega)) (f.2 _ (by omega)), a6⟩
  have hL : ∀ d j fu g B1 L1, j + d = cs.length → d < fu → qb_at g b B1 → qr_L B1 L1 → qp_fr b (b + 67) h g → qa_w L1 (N + j) → qz_run (cs.drop j) j L1 = qz_run cs 0 L → qw_X8_applyTo_2 σ p Q fu (some b) (nI j) g := by
    intro d
    induction d with
    | zero =>
      intro j fu g B1 L1 hj hf G1 R1 f w1 e
      obtain ⟨fu, rfl⟩ : ∃ z, fu = z + 1 := ⟨fu - 1, by omega⟩
      unfold qw_X8_applyTo_2
      rw [qs_gn (kp g f)]
      refine qp_iT (nI_le (by omega) (by omega)) (k g B1 L1 G1 R1 f ?_)
      rw [← e, List.drop_of_length_le (by omega)]
      rfl
    | succ d ih =>
      intro j fu g B1 L1 hj hf G1 R1 f w1 e
      obtain ⟨fu, rfl⟩ : ∃ z, fu = z + 1 := ⟨fu - 1, by omega⟩
      have hjl : j < cs.length := by omega
      have K1 := kp g f
      rw [List.drop_eq_getElem_cons hjl] at e
      have e : (if (qz_do L1 cs[j]).1 < 0 then .inl j else qz_run (cs.drop (j + 1)) (j + 1) (qz_do L1 cs[j]).2) = qz_run cs 0 L := e
      unfold qw_X8_applyTo_2
      rw [qs_gn K1]
      refine qp_iF (nI_ge hjl (by omega)) ?_
      rw [qs_r1 K1, qs_ln K1]
      refine qp_iF (nI_ge (by omega) (by omega)) ?_
      have cell := K1.2.2.1 j (by omega)
      rw [qs_r1 K1, qs_lR K1 (by omega), qp_rv cell.1]
      refine qe_X4_applyTo cell.1 cell.2 G1 R1 w1 (by omega) (tm j hjl) fun g1 B2 G2 R2 x2 => ?_
      by_cases y : (qz_do L1 cs[j]).1 < 0
      · rw [if_pos y] at e
        exact qp_iF (fun q => absurd y (Int32.not_lt.mpr q)) (k0 g1 B2 _ j G2 R2 (f.tr x2) hjl e.symm)
      · rw [if_neg y] at e
        refine qp_iT (Int32.not_lt.mp y) ?_
        rw [nI_1]
        exact ih (j + 1) fu g1 B2 _ (by omega) (by omega) G2 R2 (f.tr x2) (qz_do_ok w1 (show N + j < 2 ^ 20 by omega)) e
  exact hL cs.length 0 ql_FU h B L (Nat.zero_add _) (by unfold ql_FU; omega) G R qp_fr.rf w rfl
end QSC
