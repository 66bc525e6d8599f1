/-! Texts: a number base 8, its digits one more than its notes. -/
section QT
def qt_num : List Nat → Nat
  | [] => 0
  | a :: t => (a + 1) + 8 * qt_num t
def qt_ok (t : List Nat) : Prop := (∀ a ∈ t, a < 7) ∧ t.length ≤ 12
def qt_is (T : Int64) (t : List Nat) : Prop := qt_ok t ∧ T.toBitVec.toNat = qt_num t
theorem qt_app (s t : List Nat) : qt_num (s ++ t) = qt_num s + 8 ^ s.length * qt_num t := by
  induction s with
  | nil => simp [qt_num]
  | cons a s ih =>
    rw [List.cons_append, qt_num, qt_num, ih, List.length_cons, Nat.pow_succ, Nat.mul_add, Nat.mul_comm (8 ^ s.length) 8, Nat.mul_assoc]
    omega
theorem qt_lt {t : List Nat} (h : ∀ a ∈ t, a < 7) : qt_num t < 8 ^ t.length := by
  induction t with
  | nil => simp [qt_num]
  | cons a t ih =>
    have h1 := ih fun x hx => h x (List.mem_cons_of_mem _ hx)
    have h2 := h a (List.mem_cons_self ..)
    rw [qt_num, List.length_cons, Nat.pow_succ]
    omega
theorem qt_tk {t : List Nat} {p : Nat} (h : ∀ a ∈ t, a < 7) : ∀ a ∈ t.take p, a < 7 := fun a ha => h a (List.mem_of_mem_take ha)
theorem qt_dr {t : List Nat} {p : Nat} (h : ∀ a ∈ t, a < 7) : ∀ a ∈ t.drop p, a < 7 := fun a ha => h a (List.mem_of_mem_drop ha)
theorem qt_len {t : List Nat} {p : Nat} (hp : p ≤ t.length) : (t.take p).length = p := by
  rw [List.length_take]
  exact Nat.min_eq_left hp
theorem qt_mod {t : List Nat} (h : ∀ a ∈ t, a < 7) {p : Nat} (hp : p ≤ t.length) : qt_num t % 8 ^ p = qt_num (t.take p) := by
  have e := qt_app (t.take p) (t.drop p)
  rw [List.take_append_drop, qt_len hp] at e
  have hl := qt_lt (qt_tk (p := p) h)
  rw [qt_len hp] at hl
  rw [e, Nat.add_mul_mod_self_left, Nat.mod_eq_of_lt hl]
theorem qt_div {t : List Nat} (h : ∀ a ∈ t, a < 7) {p : Nat} (hp : p ≤ t.length) : qt_num t / 8 ^ p = qt_num (t.drop p) := by
  have e := qt_app (t.take p) (t.drop p)
  rw [List.take_append_drop, qt_len hp] at e
  have hl := qt_lt (qt_tk (p := p) h)
  rw [qt_len hp] at hl
  rw [e, Nat.add_mul_div_left _ _ (Nat.pow_pos (by decide)), Nat.div_eq_of_lt hl, Nat.zero_add]
theorem qt_dig {t : List Nat} (h : ∀ a ∈ t, a < 7) {p : Nat} (hp : p < t.length) : qt_num t / 8 ^ p % 8 = t[p] + 1 := by
  rw [qt_div h (Nat.le_of_lt hp), List.drop_eq_getElem_cons hp, qt_num]
  have := h t[p] (List.getElem_mem hp)
  omega
theorem qt_dig0 {t : List Nat} (h : ∀ a ∈ t, a < 7) {p : Nat} (hp : t.length ≤ p) : qt_num t / 8 ^ p = 0 :=
  Nat.div_eq_of_lt (Nat.lt_of_lt_of_le (qt_lt h) (Nat.pow_le_pow_right (by decide) hp))
theorem qt_inj {s t : List Nat} (hs : ∀ a ∈ s, a < 7) (ht : ∀ a ∈ t, a < 7) (e : qt_num s = qt_num t) : s = t := by
  induction s generalizing t with
  | nil =>
    cases t with
    | nil => rfl
    | cons b t =>
      rw [qt_num, qt_num] at e
      omega
  | cons a s ih =>
    have h1 := hs a (List.mem_cons_self ..)
    cases t with
    | nil =>
      rw [qt_num, qt_num] at e
      omega
    | cons b t =>
      have h2 := ht b (List.mem_cons_self ..)
      rw [qt_num, qt_num] at e
      have h3 : a = b := by omega
      have h4 : qt_num s = qt_num t := by omega
      rw [h3, ih (fun x hx => hs x (List.mem_cons_of_mem _ hx)) (fun x hx => ht x (List.mem_cons_of_mem _ hx)) h4]
theorem qt_8 (p : Nat) : 2 ^ (3 * p) = 8 ^ p := by
  rw [Nat.pow_mul]
theorem qt_sr (T : Int64) {p : Nat} (hp : p < 14) : (T.toUInt64 >>> (((3 : Int32) * nI p).toInt64.toUInt64 &&& Int64.toUInt64 63)).toNat = T.toBitVec.toNat / 8 ^ p := by
  have hs : ∀ p, p < 14 → (((3 : Int32) * nI p).toInt64.toUInt64 &&& Int64.toUInt64 63).toNat % 64 = 3 * p := by decide +kernel
  rw [UInt64.toNat_shiftRight, hs p hp, Nat.shiftRight_eq_div_pow, qt_8]
  rfl
theorem qt_lo (u : UInt64) : u.toInt64.toInt32 &&& (7 : Int32) = nI (u.toNat % 8) := by
  rw [pk_and _ 3 rfl, Int64.toBitVec_toInt32, BitVec.signExtend_eq_setWidth_of_le _ (by decide), BitVec.toNat_setWidth, Nat.mod_mod_of_dvd _ (by decide)]
  rfl
theorem qt_codeAt (T : Int64) {p : Nat} (hp : p < 14) : qt_code T (nI p) = nI (T.toBitVec.toNat / 8 ^ p % 8) := by
  unfold qt_code
  rw [qt_lo, qt_sr T hp]
theorem qt_bef (T : Int64) {p : Nat} (hp : p < 14) : (T &&& (((1 : Int64) <<< (((3 : Int32) * nI p).toInt64 &&& 63)) - (1 : Int64))).toBitVec.toNat = T.toBitVec.toNat % 8 ^ p := by
  have hm : ∀ p, p < 14 → (((1 : Int64) <<< (((3 : Int32) * nI p).toInt64 &&& 63)) - (1 : Int64)).toBitVec.toNat = 2 ^ (3 * p) - 1 := by decide +kernel
  rw [Int64.toBitVec_and, BitVec.toNat_and, hm p hp, Nat.and_two_pow_sub_one_eq_mod, qt_8]
theorem qt_sl (T : Int64) {p : Nat} (hp : p < 14) : (T <<< (((3 : Int32) * nI p).toInt64 &&& 63)).toBitVec.toNat = T.toBitVec.toNat * 8 ^ p % 2 ^ 64 := by
  have hs : ∀ p, p < 14 → ((((3 : Int32) * nI p).toInt64 &&& 63).toBitVec.smod 64).toNat = 3 * p := by decide +kernel
  rw [Int64.toBitVec_shiftLeft, BitVec.shiftLeft_eq', BitVec.toNat_shiftLeft, hs p hp, Nat.shiftLeft_eq, qt_8]
theorem qt_or {m p : Nat} (c : Nat) (h : m < 8 ^ p) : m ||| c * 8 ^ p = m + c * 8 ^ p := by
  rw [← qt_8] at h ⊢
  rw [Nat.or_comm, Nat.mul_comm, ← Nat.two_pow_add_eq_or_of_lt h, Nat.add_comm]
theorem qt_of {a : Nat} (ha : a < 7) : (((nI (97 + a)) - (97 : Int32)) + (1 : Int32)).toInt64.toBitVec.toNat = a + 1 := by
  have hs : ∀ a, a < 7 → (((nI (97 + a)) - (97 : Int32)) + (1 : Int32)).toInt64.toBitVec.toNat = a + 1 := by decide +kernel
  exact hs a ha
theorem qt_p12 {t : List Nat} (h : qt_ok t) : qt_num t < 8 ^ 12 := Nat.lt_of_lt_of_le (qt_lt h.1) (Nat.pow_le_pow_right (by decide) h.2)
/-! taking in, taking out -/
def qt_ins (t : List Nat) (p a : Nat) : List Nat := t.take p ++ a :: t.drop p
def qt_del (t : List Nat) (p : Nat) : List Nat := t.take p ++ t.drop (p + 1)
def qt_set (t : List Nat) (p a : Nat) : List Nat := t.take p ++ a :: t.drop (p + 1)
theorem qt_ins_len {t : List Nat} {p a : Nat} (hp : p ≤ t.length) : (qt_ins t p a).length = t.length + 1 := by
  simp only [qt_ins, List.length_append, List.length_cons, List.length_take, List.length_drop]
  omega
theorem qt_del_len {t : List Nat} {p : Nat} (hp : p < t.length) : (qt_del t p).length = t.length - 1 := by
  simp only [qt_del, List.length_append, List.length_take, List.length_drop]
  omega
theorem qt_set_len {t : List Nat} {p a : Nat} (hp : p < t.length) : (qt_set t p a).length = t.length := by
  simp only [qt_set, List.length_append, List.length_cons, List.length_take, List.length_drop]
  omega
theorem qt_ins_ok {t : List Nat} {p a : Nat} (h : qt_ok t) (hl : t.length < 12) (hp : p ≤ t.length) (ha : a < 7) : qt_ok (qt_ins t p a) := by
  refine ⟨fun x hx => ?_, by rw [qt_ins_len hp]; omega⟩
  rcases List.mem_append.mp hx with hx | hx
  · exact qt_tk h.1 x hx
  · rcases List.mem_cons.mp hx with hx | hx
    · omega
    · exact qt_dr h.1 x hx
theorem qt_del_ok {t : List Nat} {p : Nat} (h : qt_ok t) (hp : p < t.length) : qt_ok (qt_del t p) := by
  have := h.2
  refine ⟨fun x hx => ?_, by rw [qt_del_len hp]; omega⟩
  rcases List.mem_append.mp hx with hx | hx
  · exact qt_tk h.1 x hx
  · exact qt_dr h.1 x hx
theorem qt_set_ok {t : List Nat} {p a : Nat} (h : qt_ok t) (hp : p < t.length) (ha : a < 7) : qt_ok (qt_set t p a) := by
  refine ⟨fun x hx => ?_, by rw [qt_set_len hp]; exact h.2⟩
  rcases List.mem_append.mp hx with hx | hx
  · exact qt_tk h.1 x hx
  · rcases List.mem_cons.mp hx with hx | hx
    · omega
    · exact qt_dr h.1 x hx
theorem qt_set_ins {t : List Nat} {p a : Nat} (hp : p < t.length) : qt_ins (qt_del t p) p a = qt_set t p a := by
  have hl := qt_len (Nat.le_of_lt hp)
  unfold qt_ins qt_del qt_set
  rw [List.take_append_of_le_length (by omega), List.drop_append_of_le_length (by omega), List.take_of_length_le (by omega), List.drop_of_length_le (by omega), List.nil_append]
variable {h : ql_H} {T : Int64} {t : List Nat}
theorem qt_is.dig {p : Nat} (I : qt_is T t) (hp : p < t.length) : qt_code T (nI p) = nI (t[p] + 1) := by
  have := I.1.2
  rw [qt_codeAt T (by omega), I.2, qt_dig I.1.1 hp]
theorem qt_is.end_ (I : qt_is T t) : qt_code T (nI t.length) = 0 := by
  have := I.1.2
  rw [qt_codeAt T (by omega), I.2, qt_dig0 I.1.1 (Nat.le_refl _)]
  rfl
theorem qe_X9_lenOf (I : qt_is T t) {Q : Int32 → ql_H → Prop} (k : Q (nI t.length) h) : qw_X9_lengthOf T h Q := by
  refine qe_X9_lengthOf I.1.2 (fun j hj => ?_) (fun _ => I.end_) k
  rw [I.dig hj]
  have := I.1.1 _ (List.getElem_mem hj)
  exact nI_ne0 (by omega) (by omega)
theorem qe_X9_noteOf (I : qt_is T t) {p : Nat} (hp : p < t.length) {Q : Int32 → ql_H → Prop} (k : Q (nI (97 + t[p])) h) : qw_X9_noteOf T (nI p) h Q := by
  unfold qw_X9_noteOf qw_X9_codeAt
  have e := I.dig hp
  unfold qt_code at e
  rw [e]
  have ha := I.1.1 _ (List.getElem_mem hp)
  have hs : ∀ a, a < 7 → ((((97 : Int32) + nI (a + 1)) - (1 : Int32)).toUInt32 % 65536).toInt32 = nI (97 + a) := by decide +kernel
  dsimp only
  rw [hs _ ha]
  exact ⟨(pk_charN (by omega)).1, k⟩
theorem qe_X9_withDeleted (I : qt_is T t) {p : Nat} (hp : p < t.length) {Q : Int64 → ql_H → Prop} (k : ∀ T2, qt_is T2 (qt_del t p) → Q T2 h) : qw_X9_withDeleted T (nI p) h Q := by
  have hl := I.1.2
  unfold qw_X9_withDeleted qw_X9_before
  rw [nI_1]
  refine k _ ⟨qt_del_ok I.1 hp, ?_⟩
  have e1 := qt_sl (T.toUInt64 >>> (((3 : Int32) * nI (p + 1)).toInt64.toUInt64 &&& Int64.toUInt64 63)).toInt64 (p := p) (by omega)
  have e2 : (T.toUInt64 >>> (((3 : Int32) * nI (p + 1)).toInt64.toUInt64 &&& Int64.toUInt64 63)).toInt64.toBitVec.toNat = qt_num t / 8 ^ (p + 1) := by
    rw [← I.2]
    exact qt_sr T (by omega)
  rw [Int64.toBitVec_or, BitVec.toNat_or, qt_bef T (by omega), e1, e2, I.2, qt_div I.1.1 (p := p + 1) (by omega), qt_mod I.1.1 (Nat.le_of_lt hp)]
  have b1 : qt_num (t.drop (p + 1)) * 8 ^ p < 2 ^ 64 := by
    have b2 : qt_num t / 8 ^ (p + 1) * 8 ^ (p + 1) ≤ qt_num t := Nat.div_mul_le_self _ _
    rw [qt_div I.1.1 (p := p + 1) (by omega)] at b2
    have b3 := qt_p12 I.1
    have b4 : qt_num (t.drop (p + 1)) * 8 ^ p ≤ qt_num (t.drop (p + 1)) * 8 ^ (p + 1) := Nat.mul_le_mul_left _ (Nat.pow_le_pow_right (by decide) (by omega))
    omega
  have b5 := qt_lt (qt_tk (p := p) I.1.1)
  rw [qt_len (Nat.le_of_lt hp)] at b5
  rw [Nat.mod_eq_of_lt b1, qt_or _ b5, qt_del, qt_app, qt_len (Nat.le_of_lt hp), Nat.mul_comm]
theorem qe_X9_withInserted (I : qt_is T t) {p a : Nat} (hp : p ≤ t.length) (hl : t.length < 12) (ha : a < 7) {Q : Int64 → ql_H → Prop} (k : ∀ T2, qt_is T2 (qt_ins t p a) → Q T2 h) : qw_X9_withInserted T (nI p) (nI (97 + a)) h Q := by
  unfold qw_X9_withInserted qw_X9_before qw_X9_ofNote
  rw [nI_1]
  refine k _ ⟨qt_ins_ok I.1 hl hp ha, ?_⟩
  have e1 := qt_sl (T.toUInt64 >>> (((3 : Int32) * nI p).toInt64.toUInt64 &&& Int64.toUInt64 63)).toInt64 (p := p + 1) (by omega)
  have e2 : (T.toUInt64 >>> (((3 : Int32) * nI p).toInt64.toUInt64 &&& Int64.toUInt64 63)).toInt64.toBitVec.toNat = qt_num t / 8 ^ p := by
    rw [← I.2]
    exact qt_sr T (by omega)
  rw [Int64.toBitVec_or, BitVec.toNat_or, Int64.toBitVec_or, BitVec.toNat_or, qt_bef T (by omega), e1, e2, qt_sl _ (by omega), qt_of ha, I.2, qt_div I.1.1 hp, qt_mod I.1.1 hp]
  have b0 : (8 : Nat) ^ p ≤ 8 ^ 11 := Nat.pow_le_pow_right (by decide) (by omega)
  have b1 : qt_num (t.drop p) * 8 ^ (p + 1) < 2 ^ 64 := by
    have b2 : qt_num t / 8 ^ p * 8 ^ p ≤ qt_num t := Nat.div_mul_le_self _ _
    rw [qt_div I.1.1 hp] at b2
    have b3 := qt_p12 I.1
    rw [Nat.pow_succ, ← Nat.mul_assoc]
    omega
  have b3 : (a + 1) * 8 ^ p < 2 ^ 64 := by
    have : (a + 1) * 8 ^ p ≤ 7 * 8 ^ 11 := Nat.mul_le_mul (by omega) b0
    omega
  have b5 := qt_lt (qt_tk (p := p) I.1.1)
  rw [qt_len hp] at b5
  have b6 : qt_num (t.take p) + (a + 1) * 8 ^ p < 8 ^ (p + 1) := by
    have : (a + 1) * 8 ^ p ≤ 7 * 8 ^ p := Nat.mul_le_mul_right _ (by omega)
    rw [Nat.pow_succ]
    omega
  rw [Nat.mod_eq_of_lt b1, Nat.mod_eq_of_lt b3, qt_or _ b5, qt_or _ b6, qt_ins, qt_app, qt_len hp, qt_num, Nat.mul_add, Nat.pow_succ, Nat.mul_comm (8 ^ p) (a + 1), Nat.mul_comm (qt_num (t.drop p)), Nat.mul_assoc, Nat.add_assoc]
theorem qe_X9_withReplaced (I : qt_is T t) {p a : Nat} (hp : p < t.length) (ha : a < 7) {Q : Int64 → ql_H → Prop} (k : ∀ T2, qt_is T2 (qt_set t p a) → Q T2 h) : qw_X9_withReplaced T (nI p) (nI (97 + a)) h Q := by
  have hl := I.1.2
  unfold qw_X9_withReplaced
  refine qe_X9_withDeleted I hp fun T2 I2 => ?_
  refine qe_X9_withInserted I2 (by rw [qt_del_len hp]; omega) (by rw [qt_del_len hp]; omega) ha fun T3 I3 => ?_
  rw [qt_set_ins hp] at I3
  exact k T3 I3
theorem qt_eq {T1 T2 : Int64} {t1 t2 : List Nat} (h1 : qt_is T1 t1) (h2 : qt_is T2 t2) : T1 = T2 ↔ t1 = t2 := by
  constructor
  · intro e
    refine qt_inj h1.1.1 h2.1.1 ?_
    rw [← h1.2, ← h2.2, e]
  · intro e
    refine Int64.toBitVec_inj.mp (BitVec.eq_of_toNat_eq ?_)
    rw [h1.2, h2.2, e]
theorem qt_z : qt_is 0 [] := ⟨⟨fun a h => (List.not_mem_nil h).elim, Nat.zero_le _⟩, rfl⟩
end QT
