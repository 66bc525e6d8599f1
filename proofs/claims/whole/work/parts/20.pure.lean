/-! The abstract heap without the machine: what an instruction's condition says where the cell is known; a clause's cells; a book's cells. -/
section QP
variable {h h1 h2 : ql_H} {a b ci k kd L lo hi j : Nat} {fs : List Value} {o : ql_O}
theorem qp_gI {x : Int32} {K : Int32 → Prop} (ha : h.2 a = some (.inr (ci, fs))) (hk : fs[k]? = some (.int x)) : ql_gI h (some a) ci k K = K x := by
  simp only [ql_gI, ql_gV, ql_ob, ha, hk, ql_asI, true_and]
theorem qp_gR {x : Nat} {K : Option Nat → Prop} (ha : h.2 a = some (.inr (ci, fs))) (hk : fs[k]? = some (.ref x)) : ql_gR h (some a) ci k K = K (some x) := by
  simp only [ql_gR, ql_gV, ql_ob, ha, hk, ql_asR, true_and]
theorem qp_pV {v : Value} {K : ql_H → Prop} (ha : h.2 a = some (.inr (ci, fs))) (hk : k < fs.length) : ql_pV h (some a) ci k v K = K (ql_up h a (.inr (ci, fs.set k v))) := by
  simp only [ql_pV, ql_ob, ha, hk, true_and]
theorem qp_rv {K : Nat → Prop} (ha : h.2 a = some (.inr (ci, fs))) : ql_rv h (some a) ci K = K a := by
  simp only [ql_rv, ql_ob, ha, true_and]
theorem qp_len {K : Int32 → Prop} {f} (ha : h.2 a = some (.inl (kd, L, f))) : ql_len h (some a) kd K = K (nI L) := by
  simp only [ql_len, ql_ar, ha, true_and]
theorem qp_lI {f : Nat → Int32} {K : Int32 → Prop} (ha : h.2 a = some (.inl (kd, L, .inl f))) (hj : j < L) (hL : L < 2 ^ 31) : ql_lI h (some a) kd (nI j) K = K (f j) := by
  simp only [ql_lI, ql_ar, ha, vp_in_nI hj hL, nI_clamp (Nat.lt_trans hj hL), true_and]
theorem qp_lJ {f : Nat → Int64} {K : Int64 → Prop} (ha : h.2 a = some (.inl (1, L, .inr (.inl f)))) (hj : j < L) (hL : L < 2 ^ 31) : ql_lJ h (some a) (nI j) K = K (f j) := by
  simp only [ql_lJ, ql_ar, ha, vp_in_nI hj hL, nI_clamp (Nat.lt_trans hj hL), true_and]
theorem qp_lD {f : Nat → UInt64} {K : UInt64 → Prop} (ha : h.2 a = some (.inl (4, L, .inr (.inr (.inr (.inl f)))))) (hj : j < L) (hL : L < 2 ^ 31) : ql_lD h (some a) (nI j) K = K (f j) := by
  simp only [ql_lD, ql_ar, ha, vp_in_nI hj hL, nI_clamp (Nat.lt_trans hj hL), true_and]
theorem qp_lR {f : Nat → Option Nat} {K : Option Nat → Prop} (ha : h.2 a = some (.inl (kd, L, .inr (.inr (.inr (.inr f)))))) (hj : j < L) (hL : L < 2 ^ 31) : ql_lR h (some a) kd (nI j) K = K (f j) := by
  simp only [ql_lR, ql_ar, ha, vp_in_nI hj hL, nI_clamp (Nat.lt_trans hj hL), true_and]
theorem qp_sI {f : Nat → Int32} {v : Int32} {K : ql_H → Prop} (ha : h.2 a = some (.inl (kd, L, .inl f))) (hj : j < L) (hL : L < 2 ^ 31) : ql_sI h (some a) kd (nI j) v K = K (ql_up h a (.inl (kd, L, .inl (upd f j v)))) := by
  simp only [ql_sI, ql_ar, ha, vp_in_nI hj hL, nI_clamp (Nat.lt_trans hj hL), true_and]
theorem qp_sJ {f : Nat → Int64} {v : Int64} {K : ql_H → Prop} (ha : h.2 a = some (.inl (1, L, .inr (.inl f)))) (hj : j < L) (hL : L < 2 ^ 31) : ql_sJ h (some a) (nI j) v K = K (ql_up h a (.inl (1, L, .inr (.inl (vp_updL f j v))))) := by
  simp only [ql_sJ, ql_ar, ha, vp_in_nI hj hL, nI_clamp (Nat.lt_trans hj hL), true_and]
theorem qp_sD {f : Nat → UInt64} {v : UInt64} {K : ql_H → Prop} (ha : h.2 a = some (.inl (4, L, .inr (.inr (.inr (.inl f)))))) (hj : j < L) (hL : L < 2 ^ 31) : ql_sD h (some a) (nI j) v K = K (ql_up h a (.inl (4, L, .inr (.inr (.inr (.inl (vf_upd f j v))))))) := by
  simp only [ql_sD, ql_ar, ha, vp_in_nI hj hL, nI_clamp (Nat.lt_trans hj hL), true_and]
theorem qp_sR {f : Nat → Option Nat} {v : Nat} {K : ql_H → Prop} (hv : h.2 v = some (.inr (ci, fs))) (ha : h.2 a = some (.inl (kd, L, .inr (.inr (.inr (.inr f)))))) (hj : j < L) (hL : L < 2 ^ 31) : ql_sR h (some a) kd ci (nI j) (some v) K = K (ql_up h a (.inl (kd, L, .inr (.inr (.inr (.inr (va_up f j (some v)))))))) := by
  simp only [ql_sR, ql_ob, hv, ql_ar, ha, vp_in_nI hj hL, nI_clamp (Nat.lt_trans hj hL), true_and]
theorem qp_up_s : (ql_up h a o).2 a = some o := if_pos rfl
theorem qp_up_n (hb : b ≠ a) : (ql_up h a o).2 b = h.2 b := if_neg hb
theorem qp_mk_s : (ql_mk h o).2 h.1 = some o := if_pos rfl
theorem qp_mk_n (hb : b ≠ h.1) : (ql_mk h o).2 b = h.2 b := if_neg hb
/-- only cells from lo on and below hi differ -/
def qp_fr (lo hi : Nat) (h h' : ql_H) : Prop := h'.1 = h.1 ∧ ∀ q, (q < lo ∨ hi ≤ q) → h'.2 q = h.2 q
theorem qp_fr.rf : qp_fr lo hi h h := ⟨rfl, fun _ _ => rfl⟩
theorem qp_fr.tr (f : qp_fr lo hi h h1) (g : qp_fr lo hi h1 h2) : qp_fr lo hi h h2 := ⟨g.1.trans f.1, fun q hq => (g.2 q hq).trans (f.2 q hq)⟩
theorem qp_fr.mono {lo' hi' : Nat} (f : qp_fr lo hi h h1) (hl : lo' ≤ lo) (hh : hi ≤ hi') : qp_fr lo' hi' h h1 := ⟨f.1, fun q hq => f.2 q (by omega)⟩
theorem qp_fr.up (hl : lo ≤ a) (hh : a < hi) : qp_fr lo hi h (ql_up h a o) := ⟨rfl, fun q hq => qp_up_n (by omega)⟩
/-- a truth as an int -/
def qp_b (p : Bool) : Int32 := if p then 1 else 0
theorem qp_b0 {p : Bool} : qp_b p = 0 ↔ p = false := by cases p <;> simp [qp_b]
theorem qp_lit {n : Nat} {x : Int32} (h : nI n = x) : x = nI n := h.symm
/-! a clause: its five ints, its days, its texts, its cites -/
abbrev qc_T : Type := (Nat → Int32) × (Nat → Int32) × (Nat → Int64) × (Nat → Int32)
def qc_fs (C : qc_T) (c : Nat) : List Value := [.int (C.1 0), .int (C.1 1), .int (C.1 2), .int (C.1 3), .int (C.1 4), .ref (c + 1), .ref (c + 2), .ref (c + 3)]
def qc_at (h : ql_H) (c : Nat) (C : qc_T) : Prop := h.2 c = some (.inr (6, qc_fs C c)) ∧ h.2 (c + 1) = some (.inl (0, 8, .inl C.2.1)) ∧ h.2 (c + 2) = some (.inl (1, 8, .inr (.inl C.2.2.1))) ∧ h.2 (c + 3) = some (.inl (0, 4, .inl C.2.2.2))
def qc_sF (C : qc_T) (j : Nat) (x : Int32) : qc_T := (upd C.1 j x, C.2)
def qc_sD (C : qc_T) (j : Nat) (x : Int32) : qc_T := (C.1, upd C.2.1 j x, C.2.2)
def qc_sT (C : qc_T) (j : Nat) (x : Int64) : qc_T := (C.1, C.2.1, vp_updL C.2.2.1 j x, C.2.2.2)
def qc_sC (C : qc_T) (j : Nat) (x : Int32) : qc_T := (C.1, C.2.1, C.2.2.1, upd C.2.2.2 j x)
variable {c : Nat} {C : qc_T}
theorem qc_at.kept (H : qc_at h c C) (e : ∀ q, c ≤ q → q < c + 4 → h1.2 q = h.2 q) : qc_at h1 c C :=
  ⟨(e _ (by omega) (by omega)).trans H.1, (e _ (by omega) (by omega)).trans H.2.1, (e _ (by omega) (by omega)).trans H.2.2.1, (e _ (by omega) (by omega)).trans H.2.2.2⟩
theorem qc_fs_get (j : Nat) (hj : j < 5) : (qc_fs C c)[j]? = some (.int (C.1 j)) := by
  match j, hj with
  | 0, _ => rfl
  | 1, _ => rfl
  | 2, _ => rfl
  | 3, _ => rfl
  | 4, _ => rfl
theorem qc_fs_set (j : Nat) (x : Int32) (hj : j < 5) : (qc_fs C c).set j (.int x) = qc_fs (qc_sF C j x) c := by
  match j, hj with
  | 0, _ => rfl
  | 1, _ => rfl
  | 2, _ => rfl
  | 3, _ => rfl
  | 4, _ => rfl
theorem qc_f (H : qc_at h c C) (j : Nat) {K : Int32 → Prop} (hj : j < 5 := by decide) : ql_gI h (some c) 6 j K = K (C.1 j) := qp_gI H.1 (qc_fs_get j hj)
theorem qc_rd (H : qc_at h c C) {K : Option Nat → Prop} : ql_gR h (some c) 6 5 K = K (some (c + 1)) := qp_gR H.1 rfl
theorem qc_rt (H : qc_at h c C) {K : Option Nat → Prop} : ql_gR h (some c) 6 6 K = K (some (c + 2)) := qp_gR H.1 rfl
theorem qc_rc (H : qc_at h c C) {K : Option Nat → Prop} : ql_gR h (some c) 6 7 K = K (some (c + 3)) := qp_gR H.1 rfl
theorem qc_rv (H : qc_at h c C) {K : Nat → Prop} : ql_rv h (some c) 6 K = K c := qp_rv H.1
theorem qc_lnD (H : qc_at h c C) {K : Int32 → Prop} : ql_len h (some (c + 1)) 0 K = K (nI 8) := qp_len H.2.1
theorem qc_lnT (H : qc_at h c C) {K : Int32 → Prop} : ql_len h (some (c + 2)) 1 K = K (nI 8) := qp_len H.2.2.1
theorem qc_lnC (H : qc_at h c C) {K : Int32 → Prop} : ql_len h (some (c + 3)) 0 K = K (nI 4) := qp_len H.2.2.2
theorem qc_lD (H : qc_at h c C) {K : Int32 → Prop} (hj : j < 8) : ql_lI h (some (c + 1)) 0 (nI j) K = K (C.2.1 j) := qp_lI H.2.1 hj (by decide)
theorem qc_lT (H : qc_at h c C) {K : Int64 → Prop} (hj : j < 8) : ql_lJ h (some (c + 2)) (nI j) K = K (C.2.2.1 j) := qp_lJ H.2.2.1 hj (by decide)
theorem qc_lC (H : qc_at h c C) {K : Int32 → Prop} (hj : j < 4) : ql_lI h (some (c + 3)) 0 (nI j) K = K (C.2.2.2 j) := qp_lI H.2.2.2 hj (by decide)
theorem qc_p (H : qc_at h c C) (j : Nat) {x : Int32} {K : ql_H → Prop} (k : ∀ h1, qc_at h1 c (qc_sF C j x) → qp_fr c (c + 4) h h1 → K h1) (hj : j < 5 := by decide) : ql_pV h (some c) 6 j (.int x) K := by
  rw [qp_pV H.1 (by show j < 8; omega), qc_fs_set j x hj]
  exact k _ ⟨qp_up_s, (qp_up_n (by omega)).trans H.2.1, (qp_up_n (by omega)).trans H.2.2.1, (qp_up_n (by omega)).trans H.2.2.2⟩ (qp_fr.up (by omega) (by omega))
theorem qc_wD (H : qc_at h c C) {x : Int32} {K : ql_H → Prop} (hj : j < 8) (k : ∀ h1, qc_at h1 c (qc_sD C j x) → qp_fr c (c + 4) h h1 → K h1) : ql_sI h (some (c + 1)) 0 (nI j) x K := by
  rw [qp_sI H.2.1 hj (by decide)]
  exact k _ ⟨(qp_up_n (by omega)).trans H.1, qp_up_s, (qp_up_n (by omega)).trans H.2.2.1, (qp_up_n (by omega)).trans H.2.2.2⟩ (qp_fr.up (by omega) (by omega))
theorem qc_wT (H : qc_at h c C) {x : Int64} {K : ql_H → Prop} (hj : j < 8) (k : ∀ h1, qc_at h1 c (qc_sT C j x) → qp_fr c (c + 4) h h1 → K h1) : ql_sJ h (some (c + 2)) (nI j) x K := by
  rw [qp_sJ H.2.2.1 hj (by decide)]
  exact k _ ⟨(qp_up_n (by omega)).trans H.1, (qp_up_n (by omega)).trans H.2.1, qp_up_s, (qp_up_n (by omega)).trans H.2.2.2⟩ (qp_fr.up (by omega) (by omega))
theorem qc_wC (H : qc_at h c C) {x : Int32} {K : ql_H → Prop} (hj : j < 4) (k : ∀ h1, qc_at h1 c (qc_sC C j x) → qp_fr c (c + 4) h h1 → K h1) : ql_sI h (some (c + 3)) 0 (nI j) x K := by
  rw [qp_sI H.2.2.2 hj (by decide)]
  exact k _ ⟨(qp_up_n (by omega)).trans H.1, (qp_up_n (by omega)).trans H.2.1, (qp_up_n (by omega)).trans H.2.2.1, qp_up_s⟩ (qp_fr.up (by omega) (by omega))
/-! a book: its clauses, its seven ints (by their fields), its days of editions -/
abbrev qb_T : Type := (Nat → qc_T) × (Nat → Int32) × (Nat → Int32)
def qb_fs (B : qb_T) (b : Nat) : List Value := [.ref (b + 1), .int (B.2.1 1), .int (B.2.1 2), .int (B.2.1 3), .int (B.2.1 4), .int (B.2.1 5), .int (B.2.1 6), .int (B.2.1 7), .ref (b + 2)]
def qb_cl (b : Nat) (i : Nat) : Option Nat := if i < 16 then some (b + 3 + 4 * i) else none
def qb_at (h : ql_H) (b : Nat) (B : qb_T) : Prop := h.2 b = some (.inr (4, qb_fs B b)) ∧ h.2 (b + 1) = some (.inl (5, 16, .inr (.inr (.inr (.inr (qb_cl b)))))) ∧ h.2 (b + 2) = some (.inl (0, 6, .inl B.2.2)) ∧ ∀ i, i < 16 → qc_at h (b + 3 + 4 * i) (B.1 i)
def qb_sC (B : qb_T) (i : Nat) (C : qc_T) : qb_T := (va_up B.1 i C, B.2)
def qb_sF (B : qb_T) (j : Nat) (x : Int32) : qb_T := (B.1, upd B.2.1 j x, B.2.2)
def qb_sE (B : qb_T) (j : Nat) (x : Int32) : qb_T := (B.1, B.2.1, upd B.2.2 j x)
variable {B : qb_T} {i : Nat}
theorem qb_at.kept (H : qb_at h b B) (e : ∀ q, b ≤ q → q < b + 67 → h1.2 q = h.2 q) : qb_at h1 b B :=
  ⟨(e _ (by omega) (by omega)).trans H.1, (e _ (by omega) (by omega)).trans H.2.1, (e _ (by omega) (by omega)).trans H.2.2.1, fun i hi => (H.2.2.2 i hi).kept fun q h1 h2 => e q (by omega) (by omega)⟩
theorem qb_fs_get (j : Nat) (h0 : 0 < j) (hj : j < 8) : (qb_fs B b)[j]? = some (.int (B.2.1 j)) := by
  match j, h0, hj with
  | 1, _, _ => rfl
  | 2, _, _ => rfl
  | 3, _, _ => rfl
  | 4, _, _ => rfl
  | 5, _, _ => rfl
  | 6, _, _ => rfl
  | 7, _, _ => rfl
theorem qb_fs_set (j : Nat) (x : Int32) (h0 : 0 < j) (hj : j < 8) : (qb_fs B b).set j (.int x) = qb_fs (qb_sF B j x) b := by
  match j, h0, hj with
  | 1, _, _ => rfl
  | 2, _, _ => rfl
  | 3, _, _ => rfl
  | 4, _, _ => rfl
  | 5, _, _ => rfl
  | 6, _, _ => rfl
  | 7, _, _ => rfl
theorem qb_f (H : qb_at h b B) (j : Nat) {K : Int32 → Prop} (h0 : 0 < j := by decide) (hj : j < 8 := by decide) : ql_gI h (some b) 4 j K = K (B.2.1 j) := qp_gI H.1 (qb_fs_get j h0 hj)
theorem qb_r0 (H : qb_at h b B) {K : Option Nat → Prop} : ql_gR h (some b) 4 0 K = K (some (b + 1)) := qp_gR H.1 rfl
theorem qb_r8 (H : qb_at h b B) {K : Option Nat → Prop} : ql_gR h (some b) 4 8 K = K (some (b + 2)) := qp_gR H.1 rfl
theorem qb_rv (H : qb_at h b B) {K : Nat → Prop} : ql_rv h (some b) 4 K = K b := qp_rv H.1
theorem qb_ln (H : qb_at h b B) {K : Int32 → Prop} : ql_len h (some (b + 1)) 5 K = K (nI 16) := qp_len H.2.1
theorem qb_lC (H : qb_at h b B) {K : Option Nat → Prop} (hi : i < 16) : ql_lR h (some (b + 1)) 5 (nI i) K = K (some (b + 3 + 4 * i)) := by
  rw [qp_lR H.2.1 hi (by decide), qb_cl, if_pos hi]
theorem qb_lE (H : qb_at h b B) {K : Int32 → Prop} (hj : j < 6) : ql_lI h (some (b + 2)) 0 (nI j) K = K (B.2.2 j) := qp_lI H.2.2.1 hj (by decide)
theorem qb_p (H : qb_at h b B) (j : Nat) {x : Int32} {K : ql_H → Prop} (k : ∀ h1, qb_at h1 b (qb_sF B j x) → qp_fr b (b + 67) h h1 → K h1) (h0 : 0 < j := by decide) (hj : j < 8 := by decide) : ql_pV h (some b) 4 j (.int x) K := by
  rw [qp_pV H.1 (by show j < 9; omega), qb_fs_set j x h0 hj]
  exact k _ ⟨qp_up_s, (qp_up_n (by omega)).trans H.2.1, (qp_up_n (by omega)).trans H.2.2.1, fun i hi => (H.2.2.2 i hi).kept fun q h1 h2 => qp_up_n (by omega)⟩ (qp_fr.up (by omega) (by omega))
theorem qb_wE (H : qb_at h b B) {x : Int32} {K : ql_H → Prop} (hj : j < 6) (k : ∀ h1, qb_at h1 b (qb_sE B j x) → qp_fr b (b + 67) h h1 → K h1) : ql_sI h (some (b + 2)) 0 (nI j) x K := by
  rw [qp_sI H.2.2.1 hj (by decide)]
  exact k _ ⟨(qp_up_n (by omega)).trans H.1, (qp_up_n (by omega)).trans H.2.1, qp_up_s, fun i hi => (H.2.2.2 i hi).kept fun q h1 h2 => qp_up_n (by omega)⟩ (qp_fr.up (by omega) (by omega))
/-- clause i has changed -/
theorem qb_at.cl (H : qb_at h b B) (hi : i < 16) {C : qc_T} (HC : qc_at h1 (b + 3 + 4 * i) C) (f : qp_fr (b + 3 + 4 * i) (b + 3 + 4 * i + 4) h h1) : qb_at h1 b (qb_sC B i C) ∧ qp_fr b (b + 67) h h1 := by
  refine ⟨⟨(f.2 _ (by omega)).trans H.1, (f.2 _ (by omega)).trans H.2.1, (f.2 _ (by omega)).trans H.2.2.1, fun k hk => ?_⟩, f.mono (by omega) (by omega)⟩
  by_cases e : k = i
  · subst e
    show qc_at h1 _ (va_up B.1 k C k)
    rw [va_up_self]
    exact HC
  · show qc_at h1 _ (va_up B.1 i C k)
    rw [va_up_ne _ _ e]
    exact (H.2.2.2 k hk).kept fun q h1 h2 => f.2 q (by omega)
end QP
