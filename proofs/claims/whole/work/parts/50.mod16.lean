/-! The reference's reading: a command. -/
section QKC
variable {h hh h1 : ql_H} {m n p : Nat} {M MM M1 : qk_T} {l s : List Nat} {σ : Nat → Nat} {R : Bool × Nat × qz_C} {C : qz_C} {Q : Int32 → ql_H → Prop}
/-- under way in command n, at p -/
def qk_sd (h : ql_H) (m : Nat) (M : qk_T) (l : List Nat) (n : Nat) (hh : ql_H) (MM : qk_T) (p : Nat) : Prop := qk_at hh m MM ∧ qp_fr m (m + 10) h hh ∧ qk_pz M MM p ∧ (∀ i, i < 4 * n → MM.2 17 i = M.2 17 i) ∧ p ≤ l.length
theorem qk_word (T : qk_ty M l) (hn : M.1 18 = nI n) (hn2 : n ≤ 12) (D : qk_sd h m M l n hh MM p) {k wh : Nat} (hk : k < 25) {w : List Nat} (ew : qz_s k = w) (hw : ∀ c ∈ w, c < 1000) (eR : R = qz_seq l (w ++ s) p C) (fail : ∀ h1 M1 q, qk_sd h m M l n h1 M1 q → R = (false, q, C) → Q 0 h1) (next : ∀ h1 M1 q, qk_sd h m M l n h1 M1 q → M1.2 17 (4 * n) = nI wh → R = qz_seq l s q C → Q 1 h1) : qw_X12_isWord σ m (nI wh) (some (σ (200 + k))) hh Q := by
  obtain ⟨H, f, P, low, hp⟩ := D
  subst ew
  refine qe_X12_isWord H (T.of P) P.1 hp ((P.2.1 18 (by decide)).trans hn) hn2 hk fun h1 M1 H1 f1 P1 e17 => ?_
  have lo1 : ∀ i, i < 4 * n → M1.2 17 i = M.2 17 i := fun i hi => by
    rw [e17, pk_un (by omega)]
    exact low i hi
  rw [qz_seq_word C s _ p hw] at eR
  have pl := qz_cs_p (l := l) (qz_s k) p hp
  by_cases z : qz_cs l p (qz_s k) = (qz_s k).length
  · rw [decide_eq_true z]
    rw [if_pos z] at eR
    refine next h1 M1 _ ⟨H1, f.tr f1, P.tr P1, lo1, pl⟩ (by rw [e17, pk_us]) ?_
    rw [eR, z]
  · rw [decide_eq_false z]
    rw [if_neg z] at eR
    exact fail h1 M1 _ ⟨H1, f.tr f1, P.tr P1, lo1, pl⟩ eR
theorem qz_part_sign {c : Nat} (hc : c < 1000) : qz_part l c p C = if qz_is l p c then (true, p + 1, C) else (false, p, C) := by
  unfold qz_part
  rw [if_neg (by omega), if_neg (by omega), if_neg (by omega)]
theorem qz_seq_no {c : Nat} (hc : c < 1000) (z : qz_is l p c = false) : qz_seq l (c :: s) p C = (false, p, C) := by
  show (if (qz_part l c p C).1 then qz_seq l s (qz_part l c p C).2.1 (qz_part l c p C).2.2 else qz_part l c p C) = _
  rw [qz_part_sign hc, z]
  rfl
theorem qz_seq_yes {c : Nat} (hc : c < 1000) (z : qz_is l p c = true) : qz_seq l (c :: s) p C = qz_seq l s (p + 1) C := by
  show (if (qz_part l c p C).1 then qz_seq l s (qz_part l c p C).2.1 (qz_part l c p C).2.2 else qz_part l c p C) = _
  rw [qz_part_sign hc, z]
  rfl
theorem qz_seq_1 : qz_seq l (1049 :: s) p C = if (qz_nm l 3 p none).1.isSome then qz_seq l s (qz_nm l 3 p none).2 (C.1, (qz_nm l 3 p none).1.getD 0, C.2.2) else (false, (qz_nm l 3 p none).2, C.1, (qz_nm l 3 p none).1.getD 0, C.2.2) := by
  show (if (qz_part l 1049 p C).1 then qz_seq l s (qz_part l 1049 p C).2.1 (qz_part l 1049 p C).2.2 else qz_part l 1049 p C) = _
  have e : qz_part l 1049 p C = ((qz_nm l 3 p none).1.isSome, (qz_nm l 3 p none).2, C.1, (qz_nm l 3 p none).1.getD 0, C.2.2) := if_pos rfl
  rw [e]
  cases (qz_nm l 3 p none).1.isSome <;> rfl
theorem qz_seq_2 : qz_seq l (1050 :: s) p C = if (qz_nm l 3 p none).1.isSome then qz_seq l s (qz_nm l 3 p none).2 (C.1, C.2.1, (qz_nm l 3 p none).1.getD 0, C.2.2.2) else (false, (qz_nm l 3 p none).2, C.1, C.2.1, (qz_nm l 3 p none).1.getD 0, C.2.2.2) := by
  show (if (qz_part l 1050 p C).1 then qz_seq l s (qz_part l 1050 p C).2.1 (qz_part l 1050 p C).2.2 else qz_part l 1050 p C) = _
  have e : qz_part l 1050 p C = ((qz_nm l 3 p none).1.isSome, (qz_nm l 3 p none).2, C.1, C.2.1, (qz_nm l 3 p none).1.getD 0, C.2.2.2) := rfl
  rw [e]
  cases (qz_nm l 3 p none).1.isSome <;> rfl
theorem qz_seq_n : qz_seq l (1110 :: s) p C = if qz_in l p 97 103 then qz_seq l s (p + 1) (C.1, C.2.1, C.2.2.1, l.getD p 0) else (false, p, C) := by
  show (if (qz_part l 1110 p C).1 then qz_seq l s (qz_part l 1110 p C).2.1 (qz_part l 1110 p C).2.2 else qz_part l 1110 p C) = _
  have e : qz_part l 1110 p C = (if qz_in l p 97 103 then (true, p + 1, C.1, C.2.1, C.2.2.1, l.getD p 0) else (false, p, C)) := rfl
  rw [e]
  cases qz_in l p 97 103 <;> rfl
theorem qk_skip (T : qk_ty M l) (D : qk_sd h m M l n hh MM p) {c : Nat} (hc : c < 1000) (fail : qk_sd h m M l n hh MM p → qz_is l p c = false → (∀ s C, qz_seq l (c :: s) p C = (false, p, C)) → Q 0 hh) (next : ∀ h1 M1, qk_sd h m M l n h1 M1 (p + 1) → M1.2 = MM.2 → qz_is l p c = true → (∀ s C, qz_seq l (c :: s) p C = qz_seq l s (p + 1) C) → Q 1 h1) : qw_X12_skips m (nI c) hh Q := by
  obtain ⟨H, f, P, low, hp⟩ := id D
  refine qe_X12_skips H (T.of P) P.1 hp (by omega) (fun z => fail D z fun s C => qz_seq_no hc z) fun z h1 H1 f1 => ?_
  exact next h1 _ ⟨H1, f.tr f1, P.tr (qk_pz.at _), low, qz_is_lt z⟩ rfl z fun s C => qz_seq_yes hc z
theorem qk_fig1 (T : qk_ty M l) (hn2 : n ≤ 12) (D : qk_sd h m M l n hh MM p) (eR : R = qz_seq l (32 :: 1049 :: s) p C) (fail : ∀ h1 M1 q C', qk_sd h m M l n h1 M1 q → R = (false, q, C') → Q 0 h1) (next : ∀ h1 M1 q x, qk_sd h m M l n h1 M1 q → (∀ i, i ≠ 4 * n + 1 → M1.2 17 i = MM.2 17 i) → M1.2 17 (4 * n + 1) = nI x → R = qz_seq l s q (C.1, x, C.2.2) → Q 1 h1) : qw_X12_figures m (nI (4 * n + 1)) hh Q := by
  obtain ⟨H, f, P, low, hp⟩ := id D
  refine qe_X12_figures H (T.of P) P.1 hp (by omega) (fun z => fail hh MM p C D (by rw [eR, qz_seq_no (by omega) z])) fun z h1 M1 H1 f1 P1 e17 v17 => ?_
  rw [qz_seq_yes (by omega) z, qz_seq_1] at eR
  have pl := (qz_nm_p (l := l) 3 (p + 1) none (qz_is_lt z)).2
  have D1 : qk_sd h m M l n h1 M1 (qz_nm l 3 (p + 1) none).2 := ⟨H1, f.tr f1, P.tr P1, fun i hi => (e17 i (by omega)).trans (low i hi), pl⟩
  cases w : (qz_nm l 3 (p + 1) none).1.isSome with
  | false =>
    rw [w, if_neg (by decide)] at eR
    exact fail h1 M1 _ _ D1 eR
  | true =>
    rw [w, if_pos rfl] at eR
    exact next h1 M1 _ _ D1 e17 (v17 w) eR
theorem qk_fig2 (T : qk_ty M l) (hn2 : n ≤ 12) (D : qk_sd h m M l n hh MM p) (eR : R = qz_seq l (32 :: 1050 :: s) p C) (fail : ∀ h1 M1 q C', qk_sd h m M l n h1 M1 q → R = (false, q, C') → Q 0 h1) (next : ∀ h1 M1 q x, qk_sd h m M l n h1 M1 q → (∀ i, i ≠ 4 * n + 2 → M1.2 17 i = MM.2 17 i) → M1.2 17 (4 * n + 2) = nI x → R = qz_seq l s q (C.1, C.2.1, x, C.2.2.2) → Q 1 h1) : qw_X12_figures m (nI (4 * n + 2)) hh Q := by
  obtain ⟨H, f, P, low, hp⟩ := id D
  refine qe_X12_figures H (T.of P) P.1 hp (by omega) (fun z => fail hh MM p C D (by rw [eR, qz_seq_no (by omega) z])) fun z h1 M1 H1 f1 P1 e17 v17 => ?_
  rw [qz_seq_yes (by omega) z, qz_seq_2] at eR
  have pl := (qz_nm_p (l := l) 3 (p + 1) none (qz_is_lt z)).2
  have D1 : qk_sd h m M l n h1 M1 (qz_nm l 3 (p + 1) none).2 := ⟨H1, f.tr f1, P.tr P1, fun i hi => (e17 i (by omega)).trans (low i hi), pl⟩
  cases w : (qz_nm l 3 (p + 1) none).1.isSome with
  | false =>
    rw [w, if_neg (by decide)] at eR
    exact fail h1 M1 _ _ D1 eR
  | true =>
    rw [w, if_pos rfl] at eR
    exact next h1 M1 _ _ D1 e17 (v17 w) eR
theorem qk_both (T : qk_ty M l) (hn2 : n ≤ 12) (D : qk_sd h m M l n hh MM p) (eR : R = qz_seq l (32 :: 1049 :: 32 :: 1050 :: s) p C) (fail : ∀ h1 M1 q C', qk_sd h m M l n h1 M1 q → R = (false, q, C') → Q 0 h1) (next : ∀ h1 M1 q x y, qk_sd h m M l n h1 M1 q → M1.2 17 (4 * n) = MM.2 17 (4 * n) → M1.2 17 (4 * n + 1) = nI x → M1.2 17 (4 * n + 2) = nI y → R = qz_seq l s q (C.1, x, y, C.2.2.2) → Q 1 h1) : qw_X12_bothHere m (nI (4 * n + 1)) hh Q := by
  unfold qw_X12_bothHere
  rw [qk_rv D.1]
  refine qk_fig1 T hn2 D eR (fun h1 M1 q C' D1 e => qp_iT rfl ⟨ql_nz0, fail h1 M1 q C' D1 e⟩) fun h1 M1 q x D1 o1 v1 e1 => qp_iF qp_1 ?_
  rw [qk_rv D1.1, nI_1]
  refine qk_fig2 T hn2 D1 e1 (fun h2 M2 q C' D2 e => qp_iT rfl ⟨ql_nz0, fail h2 M2 q C' D2 e⟩) fun h2 M2 q2 y D2 o2 v2 e2 => qp_iF qp_1 ⟨ql_nz1, ?_⟩
  exact next h2 M2 q2 x y D2 ((o2 _ (by omega)).trans (o1 _ (by omega))) ((o2 _ (by omega)).trans v1) v2 e2
theorem qk_noteN (T : qk_ty M l) (hn2 : n ≤ 12) (D : qk_sd h m M l n hh MM p) (eR : R = qz_seq l (1110 :: s) p C) (fail : ∀ h1 M1 q C', qk_sd h m M l n h1 M1 q → R = (false, q, C') → Q 0 h1) (next : ∀ h1 M1 q x, qk_sd h m M l n h1 M1 q → (∀ i, i ≠ 4 * n + 3 → M1.2 17 i = MM.2 17 i) → M1.2 17 (4 * n + 3) = nI x → R = qz_seq l s q (C.1, C.2.1, C.2.2.1, x) → Q 1 h1) : qw_X12_noteHere m (nI (4 * n + 3)) hh Q := by
  obtain ⟨H, f, P, low, hp⟩ := id D
  rw [qz_seq_n] at eR
  refine qe_X12_noteHere H (T.of P) P.1 hp (by omega) (fun z => fail hh MM p C D (by rw [eR, z, if_neg (by decide)])) fun z h1 M1 H1 f1 P1 e17 => ?_
  rw [z, if_pos rfl] at eR
  refine next h1 M1 _ _ ⟨H1, f.tr f1, P.tr P1, fun i hi => ?_, qz_in_lt z⟩ (fun i hi => by rw [e17, pk_un hi]) (by rw [e17, pk_us]) eR
  rw [e17, pk_un (by omega)]
  exact low i hi
/-- told as read -/
def qk_tm (t : Nat → Int32) (n : Nat) (C : qz_C) : Prop := t (4 * n) = nI C.1 ∧ (1049 ∈ qz_fm.getD C.1 [] → t (4 * n + 1) = nI C.2.1) ∧ (1050 ∈ qz_fm.getD C.1 [] → t (4 * n + 2) = nI C.2.2.1) ∧ (1110 ∈ qz_fm.getD C.1 [] → t (4 * n + 3) = nI C.2.2.2)
/-- the command's end -/
def qk_ce (h : ql_H) (m : Nat) (M : qk_T) (l : List Nat) (n : Nat) (R : Bool × Nat × qz_C) (Q : Int32 → ql_H → Prop) : Prop := ∀ h1 M1, qk_sd h m M l n h1 M1 R.2.1 → (R.1 = true → qk_tm (M1.2 17) n R.2.2) → Q (qp_b R.1) h1
theorem qk_ce.no (K : qk_ce h m M l n R Q) {q : Nat} {C' : qz_C} (D : qk_sd h m M l n hh MM q) (e : R = (false, q, C')) : Q 0 hh := by
  subst e
  exact K hh MM D fun z => by cases z
theorem qk_ce.ok (K : qk_ce h m M l n R Q) {q : Nat} {C' : qz_C} (D : qk_sd h m M l n hh MM q) (e : R = (true, q, C')) (t : qk_tm (MM.2 17) n C') : Q 1 hh := by
  subst e
  exact K hh MM D fun _ => t
theorem qk_x1 : ((4 : Int32) * nI n) + (1 : Int32) = nI (4 * n + 1) := by
  rw [show (4 : Int32) = nI 4 from rfl, pk_mul, nI_1]
theorem qk_x3 : (nI (4 * n + 1)) + (2 : Int32) = nI (4 * n + 3) := by
  rw [show (2 : Int32) = nI 2 from rfl, nI_add]
end QKC
