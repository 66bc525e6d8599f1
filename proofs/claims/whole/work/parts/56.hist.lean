/-! A book copied onto another; the books kept in their ring. -/
section QHI
variable {h h1 : ql_H} {c c2 b b2 o : Nat} {C C2 : qc_T} {B B2 : qb_T} {L : qa_L} {Bk : Nat → qb_T} {π : Nat → Nat} {ω n s : Nat} {P : List qa_L}
def qc_eq (C C2 : qc_T) : Prop := (∀ j, j < 5 → C.1 j = C2.1 j) ∧ (∀ j, j < 8 → C.2.1 j = C2.2.1 j) ∧ (∀ j, j < 8 → C.2.2.1 j = C2.2.2.1 j) ∧ ∀ j, j < 4 → C.2.2.2 j = C2.2.2.2 j
def qb_eq (B B2 : qb_T) : Prop := (∀ i, i < 16 → qc_eq (B.1 i) (B2.1 i)) ∧ (∀ j, 1 ≤ j → j < 8 → B.2.1 j = B2.2.1 j) ∧ ∀ j, j < 6 → B.2.2 j = B2.2.2 j
theorem qr_C.eq {A : qa_C} (R : qr_C C2 A) (e : qc_eq C C2) : qr_C C A := by
  obtain ⟨⟨r0, r1, r2, r3, r4⟩, ⟨v1, v2⟩, ⟨x1, x2⟩, sh⟩ := R
  obtain ⟨e1, e2, e3, e4⟩ := e
  have s8 := sh.1.2.1
  have s4 := sh.2.1
  refine ⟨⟨(e1 0 (by omega)).trans r0, (e1 1 (by omega)).trans r1, (e1 2 (by omega)).trans r2, (e1 3 (by omega)).trans r3, (e1 4 (by omega)).trans r4⟩, ⟨fun j hj => ⟨(e2 j (by omega)).trans (v1 j hj).1, ?_⟩, fun j h1 h2 => (e3 j h2).trans (v2 j h1 h2)⟩, ⟨fun j hj => (e4 j (by omega)).trans (x1 j hj), fun j h1 h2 => (e4 j h2).trans (x2 j h1 h2)⟩, sh⟩
  rw [e3 j (by omega)]
  exact (v1 j hj).2
theorem qr_L.eq (R : qr_L B2 L) (e : qb_eq B B2) : qr_L B L := by
  obtain ⟨S, RS, P, F1, F2⟩ := R
  obtain ⟨e1, e2, e3⟩ := e
  refine ⟨S, fun i hi => ⟨fun A hA => ((RS i hi).1 A hA).eq (e1 i hi), fun z => ((e1 i hi).1 0 (by omega)).trans ((RS i hi).2 z)⟩, P, ⟨(e2 1 (by omega) (by omega)).trans F1.1, fun j h1 h2 => (e2 j (by omega) h2).trans (F1.2 j h1 h2)⟩, fun e he hE t h1 h2 h3 => (e3 _ (Nat.mod_lt _ (by omega))).trans (F2 e he hE t h1 h2 h3)⟩
def qb_ex (B : qb_T) : Prop := ∀ i, i < 16 → (B.1 i).1 0 = 0 ∨ (B.1 i).1 0 = 1
theorem qr_L.ex (R : qr_L B L) : qb_ex B := by
  obtain ⟨S, RS, _⟩ := R
  exact fun i hi => RS.ex i hi
theorem qh_cp (C2 C : qc_T) : qc_eq (qc_cp C2 C) C2 := by
  refine ⟨fun j hj => ?_, fun j hj => sb_cpy0 hj, fun j hj => ?_, fun j hj => sb_cpy0 hj⟩
  · rcases (show j = 0 ∨ j = 1 ∨ j = 2 ∨ j = 3 ∨ j = 4 by omega) with z | z | z | z | z <;> subst z <;> rfl
  · exact (pk_cpy_in (Nat.zero_le j) (by omega)).trans (congrArg C2.2.2.1 (by omega))
theorem qh_X3_copyFrom (H : qc_at h c C) (G : qc_at h c2 C2) (ap : c + 4 ≤ c2 ∨ c2 + 4 ≤ c) (ex : C2.1 0 = 0 ∨ C2.1 0 = 1) {Q : ql_H → Prop} (k : ∀ h1 C1, qc_at h1 c C1 → qc_eq C1 C2 → qp_fr c (c + 4) h h1 → Q h1) : qw_X3_copyFrom c (some c2) h Q :=
  qe_X3_copyFrom H G (by omega) ex fun h1 K f => k h1 _ K (qh_cp C2 C) f
theorem qb_cpE (H : qb_at h b B) (G : qb_at h b2 B2) {Q : ql_H → Prop} (k : ∀ h1 f, qb_at h1 b (B.1, B.2.1, f) → qp_fr b (b + 67) h h1 → (∀ j, j < 6 → f j = B2.2.2 j) → Q h1) : ql_cpI h (some (b2 + 2)) 0 (some (b + 2)) 0 (6 : Int32) 0 .int Q := by
  refine qp_cpI (n := 6) G.2.2.1 H.2.2.1 (Nat.le_refl _) (Nat.le_refl _) (by omega) (fun _ _ => rfl) ?_
  exact k _ (va_cpy B2.2.2 B.2.2 0 0 6) ⟨(qp_up_n (by omega)).trans H.1, (qp_up_n (by omega)).trans H.2.1, qp_up_s, fun i hi => (H.2.2.2 i hi).kept fun q h1 h2 => qp_up_n (by omega)⟩ (qp_fr.up (by omega) (by omega)) fun j hj => sb_cpy0 hj
theorem qe_X1_copyFrom (H : qb_at h b B) (G : qb_at h b2 B2) (ap : b + 67 ≤ b2 ∨ b2 + 67 ≤ b) (ex : qb_ex B2) {Q : ql_H → Prop} (k : ∀ h1 B1, qb_at h1 b B1 → qb_eq B1 B2 → qp_fr b (b + 67) h h1 → Q h1) : qw_X1_copyFrom b (some b2) h Q := by
  have kp : ∀ g, qp_fr b (b + 67) h g → qb_at g b2 B2 := fun g f => G.kept fun q h1 h2 => f.2 q (by omega)
  have hL : ∀ d i fu g B1, i + d = 16 → d < fu → qb_at g b B1 → (∀ j, j < i → qc_eq (B1.1 j) (B2.1 j)) → qp_fr b (b + 67) h g → qw_X1_copyFrom_2 b Q fu (some b2) (nI i) g := by
    intro d
    induction d with
    | zero =>
      intro i fu g B1 hi hf H0 e f0
      obtain ⟨fu, rfl⟩ : ∃ z, fu = z + 1 := ⟨fu - 1, by omega⟩
      unfold qw_X1_copyFrom_2
      refine qp_iT (nI_le (a := 16) (by omega) (by omega)) ?_
      rw [qb_f (kp g f0) 1]
      refine qb_p H0 1 fun g1 H1 x1 => ?_
      have f1 := f0.tr x1
      rw [qb_f (kp g1 f1) 2]
      refine qb_p H1 2 fun g2 H2 x2 => ?_
      have f2 := f1.tr x2
      rw [qb_f (kp g2 f2) 3]
      refine qb_p H2 3 fun g3 H3 x3 => ?_
      have f3 := f2.tr x3
      rw [qb_f (kp g3 f3) 4]
      refine qb_p H3 4 fun g4 H4 x4 => ?_
      have f4 := f3.tr x4
      rw [qb_f (kp g4 f4) 5]
      refine qb_p H4 5 fun g5 H5 x5 => ?_
      have f5 := f4.tr x5
      rw [qb_f (kp g5 f5) 6]
      refine qb_p H5 6 fun g6 H6 x6 => ?_
      have f6 := f5.tr x6
      rw [qb_f (kp g6 f6) 7]
      refine qb_p H6 7 fun g7 H7 x7 => ?_
      have f7 := f6.tr x7
      rw [qb_r8 (kp g7 f7), qb_r8 H7]
      refine qb_cpE H7 (kp g7 f7) fun g8 fe H8 x8 e8 => ?_
      refine k g8 _ H8 ⟨fun j hj => e j (by omega), fun j h1 hj => ?_, e8⟩ (f7.tr x8)
      rcases (show j = 1 ∨ j = 2 ∨ j = 3 ∨ j = 4 ∨ j = 5 ∨ j = 6 ∨ j = 7 by omega) with z | z | z | z | z | z | z <;> subst z <;> rfl
    | succ d ih =>
      intro i fu g B1 hi hf H0 e f0
      obtain ⟨fu, rfl⟩ : ∃ z, fu = z + 1 := ⟨fu - 1, by omega⟩
      unfold qw_X1_copyFrom_2
      refine qp_iF (nI_ge (b := 16) (a := i) (by omega) (by omega)) ?_
      have hi16 : i < 16 := by omega
      have G0 := kp g f0
      rw [qb_r0 H0, qb_lC H0 hi16, qb_r0 G0, qb_lC G0 hi16, qc_rv (H0.2.2.2 i hi16)]
      refine qh_X3_copyFrom (H0.2.2.2 i hi16) (G0.2.2.2 i hi16) (by omega) (ex i hi16) fun g1 C1 K1 e1 x1 => ?_
      obtain ⟨H1, y1⟩ := H0.cl hi16 K1 x1
      rw [nI_1]
      refine ih (i + 1) fu g1 _ (by omega) (by omega) H1 (fun j hj => ?_) (f0.tr y1)
      by_cases z : j = i
      · subst z
        rw [qb_clS]
        exact e1
      · show qc_eq (va_up B1.1 i C1 j) _
        rw [va_up_ne _ _ z]
        exact e j (by omega)
  exact hL 16 0 ql_FU h B (Nat.zero_add _) (by unfold ql_FU; omega) H (fun j hj => absurd hj (Nat.not_lt_zero j)) qp_fr.rf
/-! the ring: nine books at o + 2 + 67 t; place j of eight holds book π j, beside it book ω; the newest is at place n, s of them are known -/
def qn_at (h : ql_H) (o : Nat) (Bk : Nat → qb_T) (π : Nat → Nat) (ω n s : Nat) : Prop :=
  (∃ F : Nat → Option Nat, h.2 o = some (.inr (9, [.ref (o + 1), .ref (o + 2 + 67 * ω), .int (nI n), .int (nI s)])) ∧ h.2 (o + 1) = some (.inl (6, 8, .inr (.inr (.inr (.inr F))))) ∧ ∀ j, j < 8 → F j = some (o + 2 + 67 * π j)) ∧ (∀ t, t < 9 → qb_at h (o + 2 + 67 * t) (Bk t)) ∧ (ω < 9 ∧ (∀ j, j < 8 → π j < 9 ∧ π j ≠ ω) ∧ ∀ i j, i < 8 → j < 8 → π i = π j → i = j) ∧ n < 8 ∧ s ≤ 8
theorem qn_at.kept (H : qn_at h o Bk π ω n s) (e : ∀ q, o ≤ q → q < o + 605 → h1.2 q = h.2 q) : qn_at h1 o Bk π ω n s := by
  obtain ⟨⟨F, a1, a2, a3⟩, b, c⟩ := H
  exact ⟨⟨F, (e _ (by omega) (by omega)).trans a1, (e _ (by omega) (by omega)).trans a2, a3⟩, fun t ht => (b t ht).kept fun q h1 h2 => e q (by omega) (by omega), c⟩
/-- book t's cells changed -/
theorem qn_at.bk (H : qn_at h o Bk π ω n s) {t : Nat} {B1 : qb_T} (ht : t < 9) (K : qb_at h1 (o + 2 + 67 * t) B1) (f : qp_fr (o + 2 + 67 * t) (o + 2 + 67 * t + 67) h h1) : qn_at h1 o (va_up Bk t B1) π ω n s := by
  obtain ⟨⟨F, a1, a2, a3⟩, b, c⟩ := H
  refine ⟨⟨F, (f.2 _ (by omega)).trans a1, (f.2 _ (by omega)).trans a2, a3⟩, fun u hu => ?_, c⟩
  by_cases e : u = t
  · subst e
    rw [va_up_self]
    exact K
  · rw [va_up_ne _ _ e]
    exact (b u hu).kept fun q h1 h2 => f.2 q (by rcases Nat.lt_or_ge u t with z | z <;> omega)
/-- what the known ones are: the i-th before the newest -/
def qn_P (Bk : Nat → qb_T) (π : Nat → Nat) (n : Nat) (P : List qa_L) : Prop := ∀ i (hi : i < P.length), qr_L (Bk (π ((n + 8 - i) % 8))) (P[P.length - 1 - i]'(by omega))
theorem qe_X6_open (H : qn_at h o Bk π ω n s) (G : qb_at h b B) (R : qr_L B L) (ap : b + 67 ≤ o ∨ o + 605 ≤ b) {Q : ql_H → Prop} (k : ∀ h1 B1, qn_at h1 o (va_up Bk ω B1) π ω n s → qr_L B1 L → qp_fr o (o + 605) h h1 → Q h1) : qw_X6_open o (some b) h Q := by
  obtain ⟨⟨F, a1, a2, a3⟩, bb, c⟩ := id H
  have hω := c.1.1
  unfold qw_X6_open
  rw [qp_gR (k := 1) a1 rfl, qb_rv (bb ω hω)]
  refine qe_X1_copyFrom (bb ω hω) G (by omega) R.ex fun h1 B1 K e f => ?_
  exact k h1 B1 (H.bk hω K f) (R.eq e) (f.mono (by omega) (by omega))
/-- the refused change taken back -/
theorem qe_X6_abandon (H : qn_at h o Bk π ω n s) (G : qb_at h b B) (R : qr_L (Bk ω) L) (ap : b + 67 ≤ o ∨ o + 605 ≤ b) {Q : ql_H → Prop} (k : ∀ h1 B1, qb_at h1 b B1 → qr_L B1 L → qp_fr b (b + 67) h h1 → Q h1) : qw_X6_abandon o (some b) h Q := by
  obtain ⟨⟨F, a1, a2, a3⟩, bb, c⟩ := id H
  have hω := c.1.1
  unfold qw_X6_abandon
  rw [qp_gR (k := 1) a1 rfl, qb_rv G]
  refine qe_X1_copyFrom G (bb ω hω) (by omega) R.ex fun h1 B1 K e f => ?_
  exact k h1 B1 K (R.eq e) f
theorem qa_push_len : (qa_push P L).length = min (P.length + 1) 8 := by
  unfold qa_push
  rw [List.length_drop, List.length_append]
  show P.length + 1 - (P.length - 7) = _
  omega
theorem qa_push_get {i : Nat} (hi : i < (qa_push P L).length) (h8 : P.length ≤ 8) : (∀ z : i = 0, (qa_push P L)[(qa_push P L).length - 1 - i]'(by omega) = L) ∧ ∀ (z : 0 < i) (hj : P.length - 1 - (i - 1) < P.length), (qa_push P L)[(qa_push P L).length - 1 - i]'(by omega) = P[P.length - 1 - (i - 1)] := by
  have len := qa_push_len (P := P) (L := L)
  have e : (qa_push P L)[(qa_push P L).length - 1 - i]? = (P ++ [L])[P.length - i]? := by
    unfold qa_push at *
    rw [List.getElem?_drop]
    congr 1
    omega
  constructor
  · intro z
    subst z
    rw [List.getElem?_eq_getElem (by omega)] at e
    refine Option.some.inj (e.trans ?_)
    rw [Nat.sub_zero, List.getElem?_append_right (Nat.le_refl _), Nat.sub_self]
    rfl
  · intro z hj
    rw [List.getElem?_eq_getElem (by omega), List.getElem?_append_left (by omega), show P.length - i = P.length - 1 - (i - 1) by omega, List.getElem?_eq_getElem hj] at e
    exact Option.some.inj e
theorem qe_X6_keep (H : qn_at h o Bk π ω n s) (hP : qn_P Bk π n P) (hs : P.length = s) (R : qr_L (Bk ω) L) {Q : ql_H → Prop} (k : ∀ h1 π1 ω1 n1, qn_at h1 o Bk π1 ω1 n1 (qa_push P L).length → qn_P Bk π1 n1 (qa_push P L) → qp_fr o (o + 605) h h1 → Q h1) : qw_X6_keep o h Q := by
  obtain ⟨⟨F, a1, a2, a3⟩, bb, ⟨hω, hπ, inj⟩, hn, h8⟩ := id H
  unfold qw_X6_keep
  rw [qp_gI (k := 2) a1 rfl, nI_1]
  refine qs_floorMod (d := 8) (by omega) (by omega) (by omega) ?_
  generalize hn1 : (n + 1) % 8 = n1
  have n18 : n1 < 8 := by omega
  rw [qp_pV a1 (by show 2 < 4; omega)]
  have g1 : (ql_up h o (.inr (9, [Value.ref (o + 1), .ref (o + 2 + 67 * ω), .int (nI n), .int (nI s)].set 2 (.int (nI n1))))).2 o = some (.inr (9, [.ref (o + 1), .ref (o + 2 + 67 * ω), .int (nI n1), .int (nI s)])) := qp_up_s
  generalize hh1 : ql_up h o (.inr (9, [Value.ref (o + 1), .ref (o + 2 + 67 * ω), .int (nI n), .int (nI s)].set 2 (.int (nI n1)))) = x1 at g1
  have e1 : ∀ q, q ≠ o → x1.2 q = h.2 q := fun q hq => by rw [← hh1]; exact qp_up_n hq
  have z1 : x1.1 = h.1 := by rw [← hh1]; rfl
  have g2 : x1.2 (o + 1) = some (.inl (6, 8, .inr (.inr (.inr (.inr F))))) := (e1 _ (by omega)).trans a2
  rw [qp_gR (k := 0) g1 rfl, qp_gI (k := 2) g1 rfl, qp_lR g2 n18 (by omega), qp_gR (k := 0) g1 rfl, qp_gI (k := 2) g1 rfl, qp_gR (k := 1) g1 rfl, a3 n1 n18]
  have gω : x1.2 (o + 2 + 67 * ω) = some (.inr (4, qb_fs (Bk ω) (o + 2 + 67 * ω))) := (e1 _ (by omega)).trans (bb ω hω).1
  rw [qp_sR gω g2 n18 (by omega)]
  have g3 : (ql_up x1 (o + 1) (.inl (6, 8, .inr (.inr (.inr (.inr (va_up F n1 (some (o + 2 + 67 * ω)))))))) ).2 o = some (.inr (9, [.ref (o + 1), .ref (o + 2 + 67 * ω), .int (nI n1), .int (nI s)])) := (qp_up_n (by omega)).trans g1
  rw [qp_pV g3 (by show 1 < 4; omega)]
  rw [qp_gI (k := 3) qp_up_s rfl, nI_1]
  refine qp_min (b := 8) (by omega) (by omega) ?_
  rw [qp_pV qp_up_s (by show 3 < 4; omega)]
  have len := qa_push_len (P := P) (L := L)
  have fr : ∀ q, q ≠ o → q ≠ o + 1 → ∀ o1 o2 o3 : ql_O, (ql_up (ql_up (ql_up x1 (o + 1) o1) o o2) o o3).2 q = h.2 q := fun q h1 h2 o1 o2 o3 => (qp_up_n h1).trans ((qp_up_n h1).trans ((qp_up_n h2).trans (e1 q h1)))
  refine k _ (fun j => if j = n1 then ω else π j) (π n1) n1 ⟨⟨va_up F n1 (some (o + 2 + 67 * ω)), ?_, (qp_up_n (by omega)).trans ((qp_up_n (by omega)).trans qp_up_s), fun j hj => ?_⟩, fun t ht => (bb t ht).kept fun q h1 h2 => fr q (by omega) (by omega) _ _ _, ⟨(hπ n1 n18).1, fun j hj => ?_, fun i j hi hj e => ?_⟩, n18, by omega⟩ (fun i hi => ?_) ⟨?_, fun q hq => fr q (by omega) (by omega) _ _ _⟩
  · rw [len, hs]
    exact qp_up_s
  · by_cases e : j = n1
    · subst e
      rw [va_up_self]
      show _ = some (o + 2 + 67 * (if j = j then ω else π j))
      rw [if_pos rfl]
    · rw [va_up_ne _ _ e]
      show _ = some (o + 2 + 67 * (if j = n1 then ω else π j))
      rw [if_neg e]
      exact a3 j hj
  · dsimp only
    by_cases e : j = n1
    · rw [if_pos e]
      exact ⟨hω, fun q => (hπ n1 n18).2 q.symm⟩
    · rw [if_neg e]
      exact ⟨(hπ j hj).1, fun q => e (inj j n1 hj n18 q)⟩
  · dsimp only at e
    by_cases ei : i = n1
    · by_cases ej : j = n1
      · omega
      · rw [if_pos ei, if_neg ej] at e
        exact absurd e.symm (hπ j hj).2
    · by_cases ej : j = n1
      · rw [if_neg ei, if_pos ej] at e
        exact absurd e (hπ i hi).2
      · rw [if_neg ei, if_neg ej] at e
        exact inj i j hi hj e
  · have pg := qa_push_get (P := P) (L := L) hi (by omega)
    rw [len] at hi
    by_cases e : i = 0
    · have hx : (n1 + 8 - i) % 8 = n1 := by omega
      rw [pg.1 e]
      show qr_L (Bk (if (n1 + 8 - i) % 8 = n1 then ω else π ((n1 + 8 - i) % 8))) L
      rw [if_pos hx]
      exact R
    · have hx : (n1 + 8 - i) % 8 ≠ n1 := by omega
      have hy : (n1 + 8 - i) % 8 = (n + 8 - (i - 1)) % 8 := by omega
      rw [pg.2 (by omega) (by omega)]
      show qr_L (Bk (if (n1 + 8 - i) % 8 = n1 then ω else π ((n1 + 8 - i) % 8))) _
      rw [if_neg hx, hy]
      exact hP (i - 1) (by omega)
  · show x1.1 = h.1
    exact z1
theorem qs_fm (v : Nat) (hv : v < 8) {Q : Int32 → ql_H → Prop} (k : Q (nI ((v + 7) % 8)) h) : qw_J9_floorMod_7cf53 (nI v - (1 : Int32)) (8 : Int32) h Q := by
  by_cases z : v = 0
  · subst z
    unfold qw_J9_floorMod_7cf53
    refine ⟨by decide, qp_iF (by decide) (qp_iF (by decide) ?_)⟩
    have e : ((nI 0 - 1) - (nI 0 - 1) / 8 * 8) + 8 = nI ((0 + 7) % 8) := by decide
    rw [e]
    exact k
  · obtain ⟨w, rfl⟩ : ∃ w, v = w + 1 := ⟨v - 1, by omega⟩
    rw [nI_pred]
    refine qs_floorMod (d := 8) (by omega) (by omega) (by omega) ?_
    rw [show (w + 1 + 7) % 8 = w % 8 by omega] at k
    exact k
/-- a step back -/
theorem qe_X6_stepBack (H : qn_at h o Bk π ω n s) (hP : qn_P Bk π n P) (hs : P.length = s) (G : qb_at h b B) (ap : b + 67 ≤ o ∨ o + 605 ≤ b) (h0 : 0 < P.length) {Q : ql_H → Prop} (k : ∀ h1 B1 n1 g, qb_at h1 b B1 → qr_L B1 (P[P.length - 1]'(by omega)) → qn_at h1 o Bk π ω n1 (s - 1) → qn_P Bk π n1 P.dropLast → qp_fr b (b + 67) h g → qp_fr o (o + 605) g h1 → Q h1) : qw_X6_stepBack o (some b) h Q := by
  obtain ⟨⟨F, a1, a2, a3⟩, bb, ⟨hω, hπ, inj⟩, hn, h8⟩ := id H
  have rl := hP 0 h0
  have rl : qr_L (Bk (π ((n + 8 - 0) % 8))) (P[P.length - 1]'(by omega)) := rl
  rw [show (n + 8 - 0) % 8 = n by omega] at rl
  have hπn := (hπ n hn).1
  unfold qw_X6_stepBack
  rw [qp_gR (k := 0) a1 rfl, qp_gI (k := 2) a1 rfl, qp_lR a2 hn (by omega), a3 n hn, qb_rv G]
  refine qe_X1_copyFrom G (bb _ hπn) (by omega) rl.ex fun g B1 K e f => ?_
  have a1g : g.2 o = some (.inr (9, [.ref (o + 1), .ref (o + 2 + 67 * ω), .int (nI n), .int (nI s)])) := (f.2 _ (by omega)).trans a1
  have a2g : g.2 (o + 1) = some (.inl (6, 8, .inr (.inr (.inr (.inr F))))) := (f.2 _ (by omega)).trans a2
  rw [qp_gI (k := 2) a1g rfl]
  refine qs_fm n hn ?_
  rw [qp_pV a1g (by show 2 < 4; omega), qp_gI (k := 3) qp_up_s rfl, qp_pV qp_up_s (by show 3 < 4; omega)]
  obtain ⟨s1, rfl⟩ : ∃ s1, s = s1 + 1 := ⟨s - 1, by omega⟩
  have fr : ∀ q, q ≠ o → ∀ o1 o2 : ql_O, (ql_up (ql_up g o o1) o o2).2 q = g.2 q := fun q hq _ _ => (qp_up_n hq).trans (qp_up_n hq)
  refine k _ B1 ((n + 7) % 8) g (K.kept fun q h1 h2 => fr q (by omega) _ _) (rl.eq e) ⟨⟨F, ?_, (fr _ (by omega) _ _).trans a2g, a3⟩, fun t ht => (bb t ht).kept fun q h1 h2 => (fr q (by omega) _ _).trans (f.2 q (by omega)), ⟨hω, hπ, inj⟩, by omega, by omega⟩ (fun i hi => ?_) f ⟨rfl, fun q hq => fr q (by omega) _ _⟩
  · refine qp_up_s.trans ?_
    show (some (Sum.inr (9, [.ref (o + 1), .ref (o + 2 + 67 * ω), .int (nI ((n + 7) % 8)), .int (nI (s1 + 1) - 1)])) : Option ql_O) = _
    rw [nI_pred]
    rfl
  · have hi2 : i < P.dropLast.length := hi
    have ld : P.dropLast.length = P.length - 1 := List.length_dropLast
    have := hP (i + 1) (by omega)
    have e1 : ((n + 7) % 8 + 8 - i) % 8 = (n + 8 - (i + 1)) % 8 := by omega
    have e2 : P.dropLast[P.dropLast.length - 1 - i]'(by omega) = P[P.length - 1 - (i + 1)]'(by omega) := by
      rw [List.getElem_dropLast]
      congr 1
      omega
    rw [e1, e2]
    exact this
theorem qe_X6_clear (H : qn_at h o Bk π ω n s) {Q : ql_H → Prop} (k : ∀ h1, qn_at h1 o Bk π ω n 0 → qp_fr o (o + 605) h h1 → Q h1) : qw_X6_clear o h Q := by
  obtain ⟨⟨F, a1, a2, a3⟩, bb, c, hn, h8⟩ := id H
  unfold qw_X6_clear
  rw [qp_pV a1 (by show 3 < 4; omega)]
  exact k _ ⟨⟨F, qp_up_s, (qp_up_n (by omega)).trans a2, a3⟩, fun t ht => (bb t ht).kept fun q h1 h2 => qp_up_n (by omega), c, hn, Nat.zero_le _⟩ (qp_fr.up (by omega) (by omega))
end QHI
