/-! How both sides begin; the law from its first call to its last. -/
section QIN
variable {σ : Nat → Nat} {h h1 g : ql_H} {a b c o p n N L9 a0 : Nat} {Q : ql_H → Prop}
theorem qi_pV {ci k : Nat} {fs : List Value} {v : Value} {K : ql_H → Prop} (hc : g.2 c = some (.inr (ci, fs))) (hk : k < fs.length) (fs2 : List Value) (e : fs.set k v = fs2) (kk : ∀ g1, g1.2 c = some (.inr (ci, fs2)) → g1.1 = g.1 → (∀ q, q ≠ c → g1.2 q = g.2 q) → K g1) : ql_pV g (some c) ci k v K := by
  rw [qp_pV hc hk, e]
  exact kk _ qp_up_s rfl fun q hq => qp_up_n hq
theorem qi_nw {ob : ql_O} {K : Option Nat → ql_H → Prop} (ha : g.1 = a) (kk : ∀ g1, g1.2 a = some ob → g1.1 = a + 1 → (∀ q, q ≠ a → g1.2 q = g.2 q) → K (some a) g1) : ql_nw g ob K := by
  subst ha
  exact kk _ qp_mk_s rfl fun q hq => qp_mk_n hq
/-! a clause -/
def qc_z0 : qc_T := (fun j => if j = 1 then -1 else if j = 4 then -1 else 0, fun _ => 0, fun _ => 0, fun _ => 0)
theorem qe_X3_init (hc : h.2 c = some (.inr (6, [.int 0, .int 0, .int 0, .int 0, .int 0, .null, .null, .null]))) (hn : h.1 = c + 1) (k : ∀ h1, qc_at h1 c qc_z0 → h1.1 = c + 4 → (∀ q, q < c → h1.2 q = h.2 q) → Q h1) : qw_X3_init c h Q := by
  unfold qw_X3_init
  refine qi_pV hc (Nat.le_of_ble_eq_true rfl) [.int 0, .int 0, .int 0, .int 0, .int 0, .null, .null, .null] rfl fun g1 c1 n1 e1 => ?_
  refine qi_pV c1 (Nat.le_of_ble_eq_true rfl) [.int 0, .int (-1), .int 0, .int 0, .int 0, .null, .null, .null] rfl fun g2 c2 n2 e2 => ?_
  refine qi_pV c2 (Nat.le_of_ble_eq_true rfl) [.int 0, .int (-1), .int 0, .int 0, .int 0, .null, .null, .null] rfl fun g3 c3 n3 e3 => ?_
  refine qi_pV c3 (Nat.le_of_ble_eq_true rfl) [.int 0, .int (-1), .int 0, .int 0, .int 0, .null, .null, .null] rfl fun g4 c4 n4 e4 => ?_
  refine qi_pV c4 (Nat.le_of_ble_eq_true rfl) [.int 0, .int (-1), .int 0, .int 0, .int (-1), .null, .null, .null] rfl fun g5 c5 n5 e5 => ?_
  refine qi_nw (a := c + 1) (by omega) fun g6 a6 n6 e6 => ?_
  refine qi_pV ((e6 c (by omega)).trans c5) (Nat.le_of_ble_eq_true rfl) [.int 0, .int (-1), .int 0, .int 0, .int (-1), .ref (c + 1), .null, .null] rfl fun g7 c7 n7 e7 => ?_
  refine qi_nw (a := c + 2) (by omega) fun g8 a8 n8 e8 => ?_
  refine qi_pV ((e8 c (by omega)).trans c7) (Nat.le_of_ble_eq_true rfl) [.int 0, .int (-1), .int 0, .int 0, .int (-1), .ref (c + 1), .ref (c + 2), .null] rfl fun g9 c9 n9 e9 => ?_
  refine qi_nw (a := c + 3) (by omega) fun g10 a10 n10 e10 => ?_
  refine qi_pV ((e10 c (by omega)).trans c9) (Nat.le_of_ble_eq_true rfl) [.int 0, .int (-1), .int 0, .int 0, .int (-1), .ref (c + 1), .ref (c + 2), .ref (c + 3)] rfl fun g11 c11 n11 e11 => ?_
  refine k g11 ⟨c11, (e11 _ (by omega)).trans ((e10 _ (by omega)).trans ((e9 _ (by omega)).trans ((e8 _ (by omega)).trans ((e7 _ (by omega)).trans a6)))), (e11 _ (by omega)).trans ((e10 _ (by omega)).trans ((e9 _ (by omega)).trans a8)), (e11 _ (by omega)).trans a10⟩ (by omega) fun q hq => ?_
  exact (e11 _ (by omega)).trans ((e10 _ (by omega)).trans ((e9 _ (by omega)).trans ((e8 _ (by omega)).trans ((e7 _ (by omega)).trans ((e6 _ (by omega)).trans ((e5 _ (by omega)).trans ((e4 _ (by omega)).trans ((e3 _ (by omega)).trans ((e2 _ (by omega)).trans (e1 _ (by omega)))))))))))
/-! a book -/
def qb_0 : qb_T := (fun _ => qc_z0, fun _ => 0, fun _ => 0)
def qa_0 : qa_L := ([], fun _ => 0, fun _ => 0)
theorem qr_0 : qr_L qb_0 qa_0 := by
  refine ⟨fun _ => none, fun i hi => ⟨fun A e => (by cases e), fun _ => rfl⟩, ?_, ⟨rfl, fun _ _ _ => rfl⟩, fun e he hE t h1 h2 h3 => ?_⟩
  · have : qs_ls (fun _ => none) 16 = [] := rfl
    rw [this]
    exact List.Perm.refl _
  · have : e = 0 := ((nI_eq (a := 0) (b := e) (by omega) (by omega)).mp hE).symm
    omega
def qb_h (b : Nat) : List Value := [.ref (b + 1), .int 0, .int 0, .int 0, .int 0, .int 0, .int 0, .int 0, .ref (b + 2)]
theorem qe_X1_init (hb : h.2 b = some (.inr (4, [.null, .int 0, .int 0, .int 0, .int 0, .int 0, .int 0, .int 0, .null]))) (hn : h.1 = b + 1) (k : ∀ h1, qb_at h1 b qb_0 → h1.1 = b + 67 → (∀ q, q < b → h1.2 q = h.2 q) → Q h1) : qw_X1_init b h Q := by
  unfold qw_X1_init
  refine qi_nw (a := b + 1) hn fun g1 a1 n1 e1 => ?_
  refine qi_pV ((e1 b (by omega)).trans hb) (Nat.le_of_ble_eq_true rfl) [.ref (b + 1), .int 0, .int 0, .int 0, .int 0, .int 0, .int 0, .int 0, .null] rfl fun g2 c2 n2 e2 => ?_
  refine qi_pV c2 (Nat.le_of_ble_eq_true rfl) [.ref (b + 1), .int 0, .int 0, .int 0, .int 0, .int 0, .int 0, .int 0, .null] rfl fun g3 c3 n3 e3 => ?_
  refine qi_pV c3 (Nat.le_of_ble_eq_true rfl) [.ref (b + 1), .int 0, .int 0, .int 0, .int 0, .int 0, .int 0, .int 0, .null] rfl fun g4 c4 n4 e4 => ?_
  refine qi_pV c4 (Nat.le_of_ble_eq_true rfl) [.ref (b + 1), .int 0, .int 0, .int 0, .int 0, .int 0, .int 0, .int 0, .null] rfl fun g5 c5 n5 e5 => ?_
  refine qi_pV c5 (Nat.le_of_ble_eq_true rfl) [.ref (b + 1), .int 0, .int 0, .int 0, .int 0, .int 0, .int 0, .int 0, .null] rfl fun g6 c6 n6 e6 => ?_
  refine qi_pV c6 (Nat.le_of_ble_eq_true rfl) [.ref (b + 1), .int 0, .int 0, .int 0, .int 0, .int 0, .int 0, .int 0, .null] rfl fun g7 c7 n7 e7 => ?_
  refine qi_pV c7 (Nat.le_of_ble_eq_true rfl) [.ref (b + 1), .int 0, .int 0, .int 0, .int 0, .int 0, .int 0, .int 0, .null] rfl fun g8 c8 n8 e8 => ?_
  refine qi_pV c8 (Nat.le_of_ble_eq_true rfl) [.ref (b + 1), .int 0, .int 0, .int 0, .int 0, .int 0, .int 0, .int 0, .null] rfl fun g9 c9 n9 e9 => ?_
  refine qi_nw (a := b + 2) (by omega) fun g10 a10 n10 e10 => ?_
  refine qi_pV ((e10 b (by omega)).trans c9) (Nat.le_of_ble_eq_true rfl) (qb_h b) rfl fun g11 c11 n11 e11 => ?_
  have fr : ∀ q, q ≠ b → q ≠ b + 1 → q ≠ b + 2 → g11.2 q = h.2 q := fun q q1 q2 q3 => (e11 _ q1).trans ((e10 _ q3).trans ((e9 _ q1).trans ((e8 _ q1).trans ((e7 _ q1).trans ((e6 _ q1).trans ((e5 _ q1).trans ((e4 _ q1).trans ((e3 _ q1).trans ((e2 _ q1).trans (e1 _ q2))))))))))
  have ar : g11.2 (b + 1) = some (.inl (5, 16, .inr (.inr (.inr (.inr (fun _ => none)))))) := (e11 _ (by omega)).trans ((e10 _ (by omega)).trans ((e9 _ (by omega)).trans ((e8 _ (by omega)).trans ((e7 _ (by omega)).trans ((e6 _ (by omega)).trans ((e5 _ (by omega)).trans ((e4 _ (by omega)).trans ((e3 _ (by omega)).trans ((e2 _ (by omega)).trans a1)))))))))
  have ed : g11.2 (b + 2) = some (.inl (0, 6, .inl fun _ => 0)) := (e11 _ (by omega)).trans a10
  have hL : ∀ d i fu g F, i + d = 16 → d < fu → g.2 b = some (.inr (4, qb_h b)) → g.2 (b + 1) = some (.inl (5, 16, .inr (.inr (.inr (.inr F))))) → (∀ j, F j = if j < i then some (b + 3 + 4 * j) else none) → g.2 (b + 2) = some (.inl (0, 6, .inl fun _ => 0)) → (∀ j, j < i → qc_at g (b + 3 + 4 * j) qc_z0) → g.1 = b + 3 + 4 * i → (∀ q, q < b → g.2 q = h.2 q) → qw_X1_init_58 b Q fu (nI i) g := by
    intro d
    induction d with
    | zero =>
      intro i fu g F hi hf c1 c2 hF c3 hc gn e
      obtain ⟨fu, rfl⟩ : ∃ z, fu = z + 1 := ⟨fu - 1, by omega⟩
      unfold qw_X1_init_58
      rw [qp_gR (k := 0) c1 rfl, qp_len c2]
      refine qp_iT (nI_le (by omega) (by omega)) ?_
      have e16 : i = 16 := by omega
      subst e16
      have eF : F = qb_cl b := by
        funext j
        exact hF j
      subst eF
      exact k g ⟨c1, c2, c3, hc⟩ (by omega) e
    | succ d ih =>
      intro i fu g F hi hf c1 c2 hF c3 hc gn e
      obtain ⟨fu, rfl⟩ : ∃ z, fu = z + 1 := ⟨fu - 1, by omega⟩
      have hi16 : i < 16 := by omega
      unfold qw_X1_init_58
      rw [qp_gR (k := 0) c1 rfl, qp_len c2]
      refine qp_iF (nI_ge hi16 (by omega)) ?_
      rw [qp_gR (k := 0) c1 rfl]
      refine qi_nw (a := b + 3 + 4 * i) gn fun g1 a1 n1 e1 => ?_
      refine qe_X3_init a1 n1 fun g2 K2 n2 e2 => ?_
      have b1 : g2.2 b = some (.inr (4, qb_h b)) := (e2 _ (by omega)).trans ((e1 _ (by omega)).trans c1)
      have b2 : g2.2 (b + 1) = some (.inl (5, 16, .inr (.inr (.inr (.inr F))))) := (e2 _ (by omega)).trans ((e1 _ (by omega)).trans c2)
      rw [qp_sR K2.1 b2 hi16 (by omega), nI_1]
      refine ih (i + 1) fu _ _ (by omega) (by omega) ((qp_up_n (by omega)).trans b1) qp_up_s (fun j => ?_) ((qp_up_n (by omega)).trans ((e2 _ (by omega)).trans ((e1 _ (by omega)).trans c3))) (fun j hj => ?_) (by show g2.1 = _; omega) fun q hq => (qp_up_n (by omega)).trans ((e2 _ (by omega)).trans ((e1 _ (by omega)).trans (e q hq)))
      · by_cases z : j = i
        · subst z
          rw [va_up_self, if_pos (Nat.lt_succ_self _)]
        · rw [va_up_ne _ _ z, hF j]
          by_cases y : j < i
          · rw [if_pos y, if_pos (by omega)]
          · rw [if_neg y, if_neg (by omega)]
      · by_cases z : j = i
        · subst z
          exact K2.kept fun q h1 h2 => qp_up_n (by omega)
        · exact (hc j (by omega)).kept fun q h1 h2 => (qp_up_n (by omega)).trans ((e2 _ (by omega)).trans (e1 _ (by omega)))
  exact hL 16 0 17 g11 _ (Nat.zero_add _) (by omega) c11 ar (fun j => by rw [if_neg (Nat.not_lt_zero j)]) ed (fun j hj => absurd hj (Nat.not_lt_zero j)) (by omega) fun q hq => fr q (by omega) (by omega) (by omega)
/-! the ring -/
theorem qe_X6_init (ho : h.2 o = some (.inr (9, [.null, .null, .int 0, .int 0]))) (hn : h.1 = o + 1) (k : ∀ h1, qn_at h1 o (fun _ => qb_0) (fun j => j + 1) 0 0 0 → h1.1 = o + 605 → (∀ q, q < o → h1.2 q = h.2 q) → Q h1) : qw_X6_init o h Q := by
  unfold qw_X6_init
  refine qi_nw (a := o + 1) hn fun g1 a1 n1 e1 => ?_
  refine qi_pV ((e1 o (by omega)).trans ho) (Nat.le_of_ble_eq_true rfl) [.ref (o + 1), .null, .int 0, .int 0] rfl fun g2 c2 n2 e2 => ?_
  refine qi_nw (a := o + 2) (by omega) fun g3 a3 n3 e3 => ?_
  refine qe_X1_init a3 n3 fun g4 K4 n4 e4 => ?_
  refine qi_pV ((e4 o (by omega)).trans ((e3 o (by omega)).trans c2)) (Nat.le_of_ble_eq_true rfl) [.ref (o + 1), .ref (o + 2), .int 0, .int 0] rfl fun g5 c5 n5 e5 => ?_
  refine qi_pV c5 (Nat.le_of_ble_eq_true rfl) [.ref (o + 1), .ref (o + 2), .int 0, .int 0] rfl fun g6 c6 n6 e6 => ?_
  refine qi_pV c6 (Nat.le_of_ble_eq_true rfl) [.ref (o + 1), .ref (o + 2), .int 0, .int 0] rfl fun g7 c7 n7 e7 => ?_
  have K7 : qb_at g7 (o + 2) qb_0 := K4.kept fun q h1 h2 => (e7 _ (by omega)).trans ((e6 _ (by omega)).trans (e5 _ (by omega)))
  have ar : g7.2 (o + 1) = some (.inl (6, 8, .inr (.inr (.inr (.inr (fun _ => none)))))) := (e7 _ (by omega)).trans ((e6 _ (by omega)).trans ((e5 _ (by omega)).trans ((e4 _ (by omega)).trans ((e3 _ (by omega)).trans ((e2 _ (by omega)).trans a1)))))
  have fr : ∀ q, q < o → g7.2 q = h.2 q := fun q hq => (e7 _ (by omega)).trans ((e6 _ (by omega)).trans ((e5 _ (by omega)).trans ((e4 _ (by omega)).trans ((e3 _ (by omega)).trans ((e2 _ (by omega)).trans (e1 _ (by omega)))))))
  have hL : ∀ d i fu g F, i + d = 8 → d < fu → g.2 o = some (.inr (9, [.ref (o + 1), .ref (o + 2), .int 0, .int 0])) → g.2 (o + 1) = some (.inl (6, 8, .inr (.inr (.inr (.inr F))))) → (∀ j, j < i → F j = some (o + 2 + 67 * (j + 1))) → (∀ j, j < i + 1 → qb_at g (o + 2 + 67 * j) qb_0) → g.1 = o + 2 + 67 * (i + 1) → (∀ q, q < o → g.2 q = h.2 q) → qw_X6_init_36 o Q fu (nI i) g := by
    intro d
    induction d with
    | zero =>
      intro i fu g F hi hf c1 c2 hF hc gn e
      obtain ⟨fu, rfl⟩ : ∃ z, fu = z + 1 := ⟨fu - 1, by omega⟩
      unfold qw_X6_init_36
      rw [qp_gR (k := 0) c1 rfl, qp_len c2]
      refine qp_iT (nI_le (by omega) (by omega)) ?_
      refine k g ⟨⟨F, c1, c2, fun j hj => hF j (by omega)⟩, fun t ht => hc t (by omega), ⟨by omega, fun j hj => ⟨(show j + 1 < 9 by omega), (show j + 1 ≠ 0 by omega)⟩, fun i j _ _ e => (by have e : i + 1 = j + 1 := e; omega)⟩, by omega, by omega⟩ (by omega) e
    | succ d ih =>
      intro i fu g F hi hf c1 c2 hF hc gn e
      obtain ⟨fu, rfl⟩ : ∃ z, fu = z + 1 := ⟨fu - 1, by omega⟩
      have hi16 : i < 8 := by omega
      unfold qw_X6_init_36
      rw [qp_gR (k := 0) c1 rfl, qp_len c2]
      refine qp_iF (nI_ge hi16 (by omega)) ?_
      rw [qp_gR (k := 0) c1 rfl]
      refine qi_nw (a := o + 2 + 67 * (i + 1)) gn fun g1 a1 n1 e1 => ?_
      refine qe_X1_init a1 n1 fun g2 K2 n2 e2 => ?_
      have b1 : g2.2 o = some (.inr (9, [.ref (o + 1), .ref (o + 2), .int 0, .int 0])) := (e2 _ (by omega)).trans ((e1 _ (by omega)).trans c1)
      have b2 : g2.2 (o + 1) = some (.inl (6, 8, .inr (.inr (.inr (.inr F))))) := (e2 _ (by omega)).trans ((e1 _ (by omega)).trans c2)
      rw [qp_sR K2.1 b2 hi16 (by omega), nI_1]
      refine ih (i + 1) fu _ _ (by omega) (by omega) ((qp_up_n (by omega)).trans b1) qp_up_s (fun j hj => ?_) (fun j hj => ?_) (by show g2.1 = _; omega) fun q hq => (qp_up_n (by omega)).trans ((e2 _ (by omega)).trans ((e1 _ (by omega)).trans (e q hq)))
      · by_cases z : j = i
        · subst z
          exact va_up_self ..
        · rw [va_up_ne _ _ z]
          exact hF j (by omega)
      · by_cases z : j = i + 1
        · subst z
          exact K2.kept fun q h1 h2 => qp_up_n (by omega)
        · exact (hc j (by omega)).kept fun q h1 h2 => (qp_up_n (by omega)).trans ((e2 _ (by omega)).trans (e1 _ (by omega)))
  exact hL 8 0 9 g7 _ (Nat.zero_add _) (by omega) c7 ar (fun j hj => absurd hj (Nat.not_lt_zero j)) (fun j hj => by obtain rfl : j = 0 := (by omega); exact K7) (by omega) fr
/-! a StringBuilder -/
theorem qe_J4_init (hu : h.2 a = some (.inr (1, [.null, .int 0, .int 0, .int 0]))) (hn : h.1 = a + 1) (k : ∀ h1, qu_at h1 a (a + 1) 16 [] → h1.1 = a + 2 → (∀ q, q < a → h1.2 q = h.2 q) → Q h1) : qw_J4_init_da8c8 a h Q := by
  unfold qw_J4_init_da8c8
  show qw_J5_init_d00df a (16 : Int32) h _
  unfold qw_J5_init_d00df
  refine qp_iF qp_1 ⟨⟨by decide, by decide⟩, ?_⟩
  rw [show ((16 : Int32)).toNatClampNeg = 16 from by decide]
  refine qi_nw (a := a + 1) hn fun g1 a1 n1 e1 => ?_
  refine qi_pV ((e1 a (by omega)).trans hu) (Nat.le_of_ble_eq_true rfl) [.ref (a + 1), .int 0, .int 0, .int 0] rfl fun g2 c2 n2 e2 => ?_
  refine qi_pV c2 (Nat.le_of_ble_eq_true rfl) [.ref (a + 1), .int 0, .int 0, .int 0] rfl fun g3 c3 n3 e3 => ?_
  exact k g3 ⟨0, fun _ => 0, c3, (e3 _ (by omega)).trans ((e2 _ (by omega)).trans a1), fun j hj => absurd hj (Nat.not_lt_zero j), by omega, Nat.zero_le _, Or.inl rfl, fun c hc => absurd hc List.not_mem_nil, sb_fit0⟩ (by omega) fun q hq => (e3 _ (by omega)).trans ((e2 _ (by omega)).trans (e1 _ (by omega)))
/-! the script -/
theorem qe_X8_init (hp : h.2 p = some (.inr (10, [.null, .null, .int 0, .int 0]))) (hn : h.1 = p + 1) (k : ∀ h1, qs_at σ h1 p (p + 2) 16 [] (fun _ => (8, 0, 0, 97)) 0 0 → h1.1 = p + 16 → (∀ q, q < p → h1.2 q = h.2 q) → Q h1) : qw_X8_init σ p h Q := by
  unfold qw_X8_init
  refine qi_nw (a := p + 1) hn fun g1 a1 n1 e1 => ?_
  refine qe_J4_init a1 n1 fun g2 U2 n2 e2 => ?_
  refine qi_pV ((e2 p (by omega)).trans ((e1 p (by omega)).trans hp)) (Nat.le_of_ble_eq_true rfl) [.ref (p + 1), .null, .int 0, .int 0] rfl fun g3 c3 n3 e3 => ?_
  refine qi_nw (a := p + 3) (by omega) fun g4 a4 n4 e4 => ?_
  refine qi_pV ((e4 p (by omega)).trans c3) (Nat.le_of_ble_eq_true rfl) [.ref (p + 1), .ref (p + 3), .int 0, .int 0] rfl fun g5 c5 n5 e5 => ?_
  refine qi_pV c5 (Nat.le_of_ble_eq_true rfl) [.ref (p + 1), .ref (p + 3), .int 0, .int 0] rfl fun g6 c6 n6 e6 => ?_
  refine qi_pV c6 (Nat.le_of_ble_eq_true rfl) [.ref (p + 1), .ref (p + 3), .int 0, .int 0] rfl fun g7 c7 n7 e7 => ?_
  have U7 : qu_at g7 (p + 1) (p + 2) 16 [] := U2.kept ((e7 _ (by omega)).trans ((e6 _ (by omega)).trans ((e5 _ (by omega)).trans ((e4 _ (by omega)).trans (e3 _ (by omega)))))) ((e7 _ (by omega)).trans ((e6 _ (by omega)).trans ((e5 _ (by omega)).trans ((e4 _ (by omega)).trans (e3 _ (by omega))))))
  have ar : g7.2 (p + 3) = some (.inl (7, 12, .inr (.inr (.inr (.inr (fun _ => none)))))) := (e7 _ (by omega)).trans ((e6 _ (by omega)).trans ((e5 _ (by omega)).trans a4))
  have fr : ∀ q, q < p → g7.2 q = h.2 q := fun q hq => (e7 _ (by omega)).trans ((e6 _ (by omega)).trans ((e5 _ (by omega)).trans ((e4 _ (by omega)).trans ((e3 _ (by omega)).trans ((e2 _ (by omega)).trans (e1 _ (by omega)))))))
  have hL : ∀ d i fu g F, i + d = 12 → d < fu → g.2 p = some (.inr (10, [.ref (p + 1), .ref (p + 3), .int 0, .int 0])) → g.2 (p + 3) = some (.inl (7, 12, .inr (.inr (.inr (.inr F))))) → (∀ j, j < i → F j = some (p + 4 + j)) → (∀ j, j < i → g.2 (p + 4 + j) = some (.inr (7, qx_fs σ (8, 0, 0, 97)))) → qu_at g (p + 1) (p + 2) 16 [] → g.1 = p + 4 + i → (∀ q, q < p → g.2 q = h.2 q) → qw_X8_init_36 σ p Q fu (nI i) g := by
    intro d
    induction d with
    | zero =>
      intro i fu g F hi hf c1 c2 hF hc U gn e
      obtain ⟨fu, rfl⟩ : ∃ z, fu = z + 1 := ⟨fu - 1, by omega⟩
      unfold qw_X8_init_36
      rw [qp_gR (k := 1) c1 rfl, qp_len c2]
      refine qp_iT (nI_le (by omega) (by omega)) ?_
      exact k g ⟨c1, ⟨F, c2, fun j hj => hF j (by omega)⟩, fun j hj => ⟨hc j (by omega), (by decide : 8 < 10)⟩, U, Or.inl rfl⟩ (by omega) e
    | succ d ih =>
      intro i fu g F hi hf c1 c2 hF hc U gn e
      obtain ⟨fu, rfl⟩ : ∃ z, fu = z + 1 := ⟨fu - 1, by omega⟩
      have hi16 : i < 12 := by omega
      unfold qw_X8_init_36
      rw [qp_gR (k := 1) c1 rfl, qp_len c2]
      refine qp_iF (nI_ge hi16 (by omega)) ?_
      rw [qp_gR (k := 1) c1 rfl]
      refine qi_nw (a := p + 4 + i) gn fun g1 a1 n1 e1 => ?_
      show qw_X4_init σ (p + 4 + i) g1 _
      unfold qw_X4_init
      refine qi_pV a1 (Nat.le_of_ble_eq_true rfl) [.ref (σ (100 + 8)), .int 0, .int 0, .int 0] rfl fun g2 k2 n2 e2 => ?_
      refine qi_pV k2 (Nat.le_of_ble_eq_true rfl) [.ref (σ (100 + 8)), .int 0, .int 0, .int 0] rfl fun g3 k3 n3 e3 => ?_
      refine qi_pV k3 (Nat.le_of_ble_eq_true rfl) [.ref (σ (100 + 8)), .int 0, .int 0, .int 0] rfl fun g4 k4 n4 e4 => ?_
      refine ⟨pk_charN (q := 97) (by omega), ?_⟩
      refine qi_pV k4 (Nat.le_of_ble_eq_true rfl) (qx_fs σ (8, 0, 0, 97)) rfl fun g5 k5 n5 e5 => ?_
      have fx : ∀ q, q ≠ p + 4 + i → g5.2 q = g.2 q := fun q hq => (e5 _ hq).trans ((e4 _ hq).trans ((e3 _ hq).trans ((e2 _ hq).trans (e1 _ hq))))
      have b2 : g5.2 (p + 3) = some (.inl (7, 12, .inr (.inr (.inr (.inr F))))) := (fx _ (by omega)).trans c2
      dsimp only
      rw [qp_sR k5 b2 hi16 (by omega), nI_1]
      refine ih (i + 1) fu _ _ (by omega) (by omega) ((qp_up_n (by omega)).trans ((fx _ (by omega)).trans c1)) qp_up_s (fun j hj => ?_) (fun j hj => ?_) (U.kept ((qp_up_n (by omega)).trans (fx _ (by omega))) ((qp_up_n (by omega)).trans (fx _ (by omega)))) (by show g5.1 = _; omega) fun q hq => (qp_up_n (by omega)).trans ((fx _ (by omega)).trans (e q hq))
      · by_cases z : j = i
        · subst z
          exact va_up_self ..
        · rw [va_up_ne _ _ z]
          exact hF j (by omega)
      · by_cases z : j = i
        · subst z
          exact (qp_up_n (by omega)).trans k5
        · exact (qp_up_n (by omega)).trans ((fx _ (by omega)).trans (hc j (by omega)))
  exact hL 12 0 13 g7 _ (Nat.zero_add _) (by omega) c7 ar (fun j hj => absurd hj (Nat.not_lt_zero j)) (fun j hj => absurd hj (Nat.not_lt_zero j)) U7 (by omega) fr
/-! tables -/
theorem qe_X5_init (hd : h.2 a = some (.inr (8, [.null]))) (hn : h.1 = a + 1) (k : ∀ h1, qd_at h1 a (fun _ _ => 0) → h1.1 = a + 15 → (∀ q, q < a → h1.2 q = h.2 q) → Q h1) : qw_X5_init a h Q := by
  unfold qw_X5_init ql_nm
  have m : ∀ q, (ql_mm h 13 13).2 q = if q = h.1 then some (.inl (8, 13, .inr (.inr (.inr (.inr (fun i => if i < 13 then some (h.1 + 1 + i) else none)))))) else if h.1 < q ∧ q ≤ h.1 + 13 then some (.inl (0, 13, .inl (fun _ => 0))) else h.2 q := fun _ => rfl
  have hc : (ql_mm h 13 13).2 a = some (.inr (8, [.null])) := by
    rw [m, if_neg (by omega), if_neg (by omega)]
    exact hd
  refine qi_pV hc (Nat.le_of_ble_eq_true rfl) [.ref (a + 1)] (by rw [hn]; rfl) fun g1 c1 n1 e1 => ?_
  refine k g1 ⟨c1, ?_, fun i hi => ?_⟩ ?_ fun q hq => ?_
  · rw [e1 _ (by omega), m, if_pos hn.symm]
    have : (fun i => if i < 13 then some (h.1 + 1 + i) else none) = qd_rows a := by
      funext i
      unfold qd_rows
      rw [hn]
    rw [this]
  · rw [e1 _ (by omega), m, if_neg (by omega), if_pos (by omega)]
  · rw [n1]
    show h.1 + 1 + 13 = _
    omega
  · rw [e1 _ (by omega), m, if_neg (by omega), if_neg (by omega)]
theorem qe_X10_init (hd : h.2 a = some (.inr (11, [.null, .null]))) (hn : h.1 = a + 1) (k : ∀ h1, qh_at h1 a (fun _ => 0) (fun _ => 0) → h1.1 = a + 3 → (∀ q, q < a → h1.2 q = h.2 q) → Q h1) : qw_X10_init a h Q := by
  unfold qw_X10_init
  refine qi_nw (a := a + 1) hn fun g1 a1 n1 e1 => ?_
  refine qi_pV ((e1 a (by omega)).trans hd) (Nat.le_of_ble_eq_true rfl) [.ref (a + 1), .null] rfl fun g2 c2 n2 e2 => ?_
  refine qi_nw (a := a + 2) (by omega) fun g3 a3 n3 e3 => ?_
  refine qi_pV ((e3 a (by omega)).trans c2) (Nat.le_of_ble_eq_true rfl) [.ref (a + 1), .ref (a + 2)] rfl fun g4 c4 n4 e4 => ?_
  exact k g4 ⟨c4, (e4 _ (by omega)).trans ((e3 _ (by omega)).trans ((e2 _ (by omega)).trans a1)), (e4 _ (by omega)).trans a3⟩ (by omega) fun q hq => (e4 _ (by omega)).trans ((e3 _ (by omega)).trans ((e2 _ (by omega)).trans (e1 _ (by omega))))
theorem qe_X2_init (hd : h.2 a = some (.inr (5, [.null, .null, .null]))) (hn : h.1 = a + 1) (k : ∀ h1, qg_at h1 a (fun _ => 0) (fun _ => 0) (fun _ => 0) → h1.1 = a + 4 → (∀ q, q < a → h1.2 q = h.2 q) → Q h1) : qw_X2_init a h Q := by
  unfold qw_X2_init
  refine qi_nw (a := a + 1) hn fun g1 a1 n1 e1 => ?_
  refine qi_pV ((e1 a (by omega)).trans hd) (Nat.le_of_ble_eq_true rfl) [.ref (a + 1), .null, .null] rfl fun g2 c2 n2 e2 => ?_
  refine qi_nw (a := a + 2) (by omega) fun g3 a3 n3 e3 => ?_
  refine qi_pV ((e3 a (by omega)).trans c2) (Nat.le_of_ble_eq_true rfl) [.ref (a + 1), .ref (a + 2), .null] rfl fun g4 c4 n4 e4 => ?_
  refine qi_nw (a := a + 3) (by omega) fun g5 a5 n5 e5 => ?_
  refine qi_pV ((e5 a (by omega)).trans c4) (Nat.le_of_ble_eq_true rfl) [.ref (a + 1), .ref (a + 2), .ref (a + 3)] rfl fun g6 c6 n6 e6 => ?_
  exact k g6 ⟨c6, (e6 _ (by omega)).trans ((e5 _ (by omega)).trans ((e4 _ (by omega)).trans ((e3 _ (by omega)).trans ((e2 _ (by omega)).trans a1)))), (e6 _ (by omega)).trans ((e5 _ (by omega)).trans ((e4 _ (by omega)).trans a3)), (e6 _ (by omega)).trans a5⟩ (by omega) fun q hq => (e6 _ (by omega)).trans ((e5 _ (by omega)).trans ((e4 _ (by omega)).trans ((e3 _ (by omega)).trans ((e2 _ (by omega)).trans (e1 _ (by omega))))))
end QIN
