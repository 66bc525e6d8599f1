/-! How both sides begin; the law from its first call to its last. -/
section QIN
variable {σ : Nat → Nat} {h h1 g : ql_H} {a b c o p n N L9 a0 : Nat} {Q : ql_H → Prop}
theorem qi_pV {ci k : Nat} {fs : List Value} {v : Value} {K : ql_H → Prop} (hc : g.2 c = some (.inr (ci, fs))) (hk : k < fs.length) (fs2 : List Value) (e : fs.set k v = fs2) (kk : ∀ g1, g1.2 c = some (.inr (ci, fs2)) → g1.1 = g.1 → (∀ q, q ≠ c → g1.2 q = g.2 q) → K g1) : ql_pV g (some c) ci k v K := by
  rw [qp_pV hc hk, e]
  exact kk _ qp_up_s rfl fun q hq => qp_up_n hq
theorem qi_nw {ob : ql_O} {K : Option Nat → ql_H → Prop} (ha : g.1 = a) (kk : ∀ g1, g1.2 a = some ob → g1.1 = a + 1 → (∀ q, q ≠ a → g1.2 q = g.2 q) → K (some a) g1) : ql_nw g ob K := by
  subst ha
  exact kk _ qp_mk_s rfl fun q hq => qp_mk_n hq
/-! a clause -/
def qc_0 : qc_T := (fun j => if j = 1 then -1 else if j = 4 then -1 else 0, fun _ => 0, fun _ => 0, fun _ => 0)
theorem qe_X3_init (hc : h.2 c = some (.inr (6, [.int 0, .int 0, .int 0, .int 0, .int 0, .null, .null, .null]))) (hn : h.1 = c + 1) (k : ∀ h1, qc_at h1 c qc_0 → h1.1 = c + 4 → (∀ q, q < c → h1.2 q = h.2 q) → Q h1) : qw_X3_init c h Q := by
  unfold qw_X3_init
  refine qi_pV hc (by decide) [.int 0, .int 0, .int 0, .int 0, .int 0, .null, .null, .null] rfl fun g1 c1 n1 e1 => ?_
  refine qi_pV c1 (by decide) [.int 0, .int (-1), .int 0, .int 0, .int 0, .null, .null, .null] rfl fun g2 c2 n2 e2 => ?_
  refine qi_pV c2 (by decide) [.int 0, .int (-1), .int 0, .int 0, .int 0, .null, .null, .null] rfl fun g3 c3 n3 e3 => ?_
  refine qi_pV c3 (by decide) [.int 0, .int (-1), .int 0, .int 0, .int 0, .null, .null, .null] rfl fun g4 c4 n4 e4 => ?_
  refine qi_pV c4 (by decide) [.int 0, .int (-1), .int 0, .int 0, .int (-1), .null, .null, .null] rfl fun g5 c5 n5 e5 => ?_
  refine qi_nw (a := c + 1) (by omega) fun g6 a6 n6 e6 => ?_
  refine qi_pV ((e6 c (by omega)).trans c5) (by decide) [.int 0, .int (-1), .int 0, .int 0, .int (-1), .ref (c + 1), .null, .null] rfl fun g7 c7 n7 e7 => ?_
  refine qi_nw (a := c + 2) (by omega) fun g8 a8 n8 e8 => ?_
  refine qi_pV ((e8 c (by omega)).trans c7) (by decide) [.int 0, .int (-1), .int 0, .int 0, .int (-1), .ref (c + 1), .ref (c + 2), .null] rfl fun g9 c9 n9 e9 => ?_
  refine qi_nw (a := c + 3) (by omega) fun g10 a10 n10 e10 => ?_
  refine qi_pV ((e10 c (by omega)).trans c9) (by decide) [.int 0, .int (-1), .int 0, .int 0, .int (-1), .ref (c + 1), .ref (c + 2), .ref (c + 3)] rfl fun g11 c11 n11 e11 => ?_
  refine k g11 ⟨c11, (e11 _ (by omega)).trans ((e10 _ (by omega)).trans ((e9 _ (by omega)).trans ((e8 _ (by omega)).trans ((e7 _ (by omega)).trans a6)))), (e11 _ (by omega)).trans ((e10 _ (by omega)).trans ((e9 _ (by omega)).trans a8)), (e11 _ (by omega)).trans a10⟩ (by omega) fun q hq => ?_
  exact (e11 _ (by omega)).trans ((e10 _ (by omega)).trans ((e9 _ (by omega)).trans ((e8 _ (by omega)).trans ((e7 _ (by omega)).trans ((e6 _ (by omega)).trans ((e5 _ (by omega)).trans ((e4 _ (by omega)).trans ((e3 _ (by omega)).trans ((e2 _ (by omega)).trans (e1 _ (by omega)))))))))))
/-! a book -/
def qb_0 : qb_T := (fun _ => qc_0, fun _ => 0, fun _ => 0)
def qa_0 : qa_L := ([], fun _ => 0, fun _ => 0)
theorem qr_0 : qr_L qb_0 qa_0 := by
  refine ⟨fun _ => none, fun i hi => ⟨fun A e => (by cases e), fun _ => rfl⟩, ?_, ⟨rfl, fun _ _ _ => rfl⟩, fun e he hE t h1 h2 h3 => ?_⟩
  · have : qs_ls (fun _ => none) 16 = [] := rfl
    rw [this]
    exact List.Perm.refl _
  · have : e = 0 := ((nI_eq (a := 0) (b := e) (by omega) (by omega)).mp hE).symm
    omega
def qb_h (b : Nat) : List Value := [.ref (b + 1), .int 0, .int 0, .int 0, .int 0, .int 0, .int 0, .int 0, .ref (b + 2)]
theorem qe_X1_init (hb : h.2 b = some (.inr (4, [.null, .int 0, .int 0, .int 0, .int 0, .int 0, .int 0, .int 0, .null]))) (hn : h.1 = b + 1) (k : ∀ h1, qb_at h1 b qb_0 → h1.1 = b + 67 → (∀ q, q < b → h1.2 q = h.2 q) → Q h1) : qw_X1_init b h Q := by
  unfold qw_X1_init
  refine qi_nw (a := b + 1) hn fun g1 a1 n1 e1 => ?_
  refine qi_pV ((e1 b (by omega)).trans hb) (by decide) [.ref (b + 1), .int 0, .int 0, .int 0, .int 0, .int 0, .int 0, .int 0, .null] rfl fun g2 c2 n2 e2 => ?_
  refine qi_pV c2 (by decide) [.ref (b + 1), .int 0, .int 0, .int 0, .int 0, .int 0, .int 0, .int 0, .null] rfl fun g3 c3 n3 e3 => ?_
  refine qi_pV c3 (by decide) [.ref (b + 1), .int 0, .int 0, .int 0, .int 0, .int 0, .int 0, .int 0, .null] rfl fun g4 c4 n4 e4 => ?_
  refine qi_pV c4 (by decide) [.ref (b + 1), .int 0, .int 0, .int 0, .int 0, .int 0, .int 0, .int 0, .null] rfl fun g5 c5 n5 e5 => ?_
  refine qi_pV c5 (by decide) [.ref (b + 1), .int 0, .int 0, .int 0, .int 0, .int 0, .int 0, .int 0, .null] rfl fun g6 c6 n6 e6 => ?_
  refine qi_pV c6 (by decide) [.ref (b + 1), .int 0, .int 0, .int 0, .int 0, .int 0, .int 0, .int 0, .null] rfl fun g7 c7 n7 e7 => ?_
  refine qi_pV c7 (by decide) [.ref (b + 1), .int 0, .int 0, .int 0, .int 0, .int 0, .int 0, .int 0, .null] rfl fun g8 c8 n8 e8 => ?_
  refine qi_pV c8 (by decide) [.ref (b + 1), .int 0, .int 0, .int 0, .int 0, .int 0, .int 0, .int 0, .null] rfl fun g9 c9 n9 e9 => ?_
  refine qi_nw (a := b + 2) (by omega) fun g10 a10 n10 e10 => ?_
  refine qi_pV ((e10 b (by omega)).trans c9) (by decide) (qb_h b) rfl fun g11 c11 n11 e11 => ?_
  have fr : ∀ q, q ≠ b → q ≠ b + 1 → q ≠ b + 2 → g11.2 q = h.2 q := fun q q1 q2 q3 => (e11 _ q1).trans ((e10 _ q3).trans ((e9 _ q1).trans ((e8 _ q1).trans ((e7 _ q1).trans ((e6 _ q1).trans ((e5 _ q1).trans ((e4 _ q1).trans ((e3 _ q1).trans ((e2 _ q1).trans (e1 _ q2))))))))))
  have ar : g11.2 (b + 1) = some (.inl (5, 16, .inr (.inr (.inr (.inr (fun _ => none)))))) := (e11 _ (by omega)).trans ((e10 _ (by omega)).trans ((e9 _ (by omega)).trans ((e8 _ (by omega)).trans ((e7 _ (by omega)).trans ((e6 _ (by omega)).trans ((e5 _ (by omega)).trans ((e4 _ (by omega)).trans ((e3 _ (by omega)).trans ((e2 _ (by omega)).trans a1)))))))))
  have ed : g11.2 (b + 2) = some (.inl (0, 6, .inl fun _ => 0)) := (e11 _ (by omega)).trans a10
  have hL : ∀ d i fu g F, i + d = 16 → d < fu → g.2 b = some (.inr (4, qb_h b)) → g.2 (b + 1) = some (.inl (5, 16, .inr (.inr (.inr (.inr F))))) → (∀ j, F j = if j < i then some (b + 3 + 4 * j) else none) → g.2 (b + 2) = some (.inl (0, 6, .inl fun _ => 0)) → (∀ j, j < i → qc_at g (b + 3 + 4 * j) qc_0) → g.1 = b + 3 + 4 * i → (∀ q, q < b → g.2 q = h.2 q) → qw_X1_init_58 b Q fu (nI i) g := by
    intro d
    induction d with
    | zero =>
      intro i fu g F hi hf c1 c2 hF c3 hc gn e
      obtain ⟨fu, rfl⟩ : ∃ z, fu = z + 1 := ⟨fu - 1, by omega⟩
      unfold qw_X1_init_58
      rw [qp_gR (k := 0) c1 rfl, qp_len c2]
      refine qp_iT (nI_le (by omega) (by omega)) ?_
      have e16 : i = 16 := by omega
      subst e16
      have eF : F = qb_cl b := by
        funext j
        exact hF j
      subst eF
      exact k g ⟨c1, c2, c3, hc⟩ (by omega) e
    | succ d ih =>
      intro i fu g F hi hf c1 c2 hF c3 hc gn e
      obtain ⟨fu, rfl⟩ : ∃ z, fu = z + 1 := ⟨fu - 1, by omega⟩
      have hi16 : i < 16 := by omega
      unfold qw_X1_init_58
      rw [qp_gR (k := 0) c1 rfl, qp_len c2]
      refine qp_iF (nI_ge hi16 (by omega)) ?_
      rw [qp_gR (k := 0) c1 rfl]
      refine qi_nw (a := b + 3 + 4 * i) gn fun g1 a1 n1 e1 => ?_
      refine qe_X3_init a1 n1 fun g2 K2 n2 e2 => ?_
      have b1 : g2.2 b = some (.inr (4, qb_h b)) := (e2 _ (by omega)).trans ((e1 _ (by omega)).trans c1)
      have b2 : g2.2 (b + 1) = some (.inl (5, 16, .inr (.inr (.inr (.inr F))))) := (e2 _ (by omega)).trans ((e1 _ (by omega)).trans c2)
      rw [qp_sR K2.1 b2 hi16 (by omega), nI_1]
      refine ih (i + 1) fu _ _ (by omega) (by omega) ((qp_up_n (by omega)).trans b1) qp_up_s (fun j => ?_) ((qp_up_n (by omega)).trans ((e2 _ (by omega)).trans ((e1 _ (by omega)).trans c3))) (fun j hj => ?_) (by show g2.1 = _; omega) fun q hq => (qp_up_n (by omega)).trans ((e2 _ (by omega)).trans ((e1 _ (by omega)).trans (e q hq)))
      · by_cases z : j = i
        · subst z
          rw [va_up_self, if_pos (Nat.lt_succ_self _)]
        · rw [va_up_ne _ _ z, hF j]
          by_cases y : j < i
          · rw [if_pos y, if_pos (by omega)]
          · rw [if_neg y, if_neg (by omega)]
      · by_cases z : j = i
        · subst z
          exact K2.kept fun q h1 h2 => qp_up_n (by omega)
        · exact (hc j (by omega)).kept fun q h1 h2 => (qp_up_n (by omega)).trans ((e2 _ (by omega)).trans (e1 _ (by omega)))
  exact hL 16 0 17 g11 _ (Nat.zero_add _) (by omega) c11 ar (fun j => by rw [if_neg (Nat.not_lt_zero j)]) ed (fun j hj => absurd hj (Nat.not_lt_zero j)) (by omega) fun q hq => fr q (by omega) (by omega) (by omega)
/-! the ring -/
theorem qe_X6_init (ho : h.2 o = some (.inr (9, [.null, .null, .int 0, .int 0]))) (hn : h.1 = o + 1) (k : ∀ h1, qn_at h1 o (fun _ => qb_0) (fun j => j + 1) 0 0 0 → h1.1 = o + 605 → (∀ q, q < o → h1.2 q = h.2 q) → Q h1) : qw_X6_init o h Q := by
  unfold qw_X6_init
  refine qi_nw (a := o + 1) hn fun g1 a1 n1 e1 => ?_
  refine qi_pV ((e1 o (by omega)).trans ho) (by decide) [.ref (o + 1), .null, .int 0, .int 0] rfl fun g2 c2 n2 e2 => ?_
  refine qi_nw (a := o + 2) (by omega) fun g3 a3 n3 e3 => ?_
  refine qe_X1_init a3 n3 fun g4 K4 n4 e4 => ?_
  refine qi_pV ((e4 o (by omega)).trans ((e3 o (by omega)).trans c2)) (by decide) [.ref (o + 1), .ref (o + 2), .int 0, .int 0] rfl fun g5 c5 n5 e5 => ?_
  refine qi_pV c5 (by decide) [.ref (o + 1), .ref (o + 2), .int 0, .int 0] rfl fun g6 c6 n6 e6 => ?_
  refine qi_pV c6 (by decide) [.ref (o + 1), .ref (o + 2), .int 0, .int 0] rfl fun g7 c7 n7 e7 => ?_
  have K7 : qb_at g7 (o + 2) qb_0 := K4.kept fun q h1 h2 => (e7 _ (by omega)).trans ((e6 _ (by omega)).trans (e5 _ (by omega)))
  have ar : g7.2 (o + 1) = some (.inl (6, 8, .inr (.inr (.inr (.inr (fun _ => none)))))) := (e7 _ (by omega)).trans ((e6 _ (by omega)).trans ((e5 _ (by omega)).trans ((e4 _ (by omega)).trans ((e3 _ (by omega)).trans ((e2 _ (by omega)).trans a1)))))
  have fr : ∀ q, q < o → g7.2 q = h.2 q := fun q hq => (e7 _ (by omega)).trans ((e6 _ (by omega)).trans ((e5 _ (by omega)).trans ((e4 _ (by omega)).trans ((e3 _ (by omega)).trans ((e2 _ (by omega)).trans (e1 _ (by omega)))))))
  have hL : ∀ d i fu g F, i + d = 8 → d < fu → g.2 o = some (.inr (9, [.ref (o + 1), .ref (o + 2), .int 0, .int 0])) → g.2 (o + 1) = some (.inl (6, 8, .inr (.inr (.inr (.inr F))))) → (∀ j, j < i → F j = some (o + 2 + 67 * (j + 1))) → (∀ j, j < i + 1 → qb_at g (o + 2 + 67 * j) qb_0) → g.1 = o + 2 + 67 * (i + 1) → (∀ q, q < o → g.2 q = h.2 q) → qw_X6_init_36 o Q fu (nI i) g := by
    intro d
    induction d with
    | zero =>
      intro i fu g F hi hf c1 c2 hF hc gn e
      obtain ⟨fu, rfl⟩ : ∃ z, fu = z + 1 := ⟨fu - 1, by omega⟩
      unfold qw_X6_init_36
      rw [qp_gR (k := 0) c1 rfl, qp_len c2]
      refine qp_iT (nI_le (by omega) (by omega)) ?_
      refine k g ⟨⟨F, c1, c2, fun j hj => hF j (by omega)⟩, fun t ht => hc t (by omega), ⟨by omega, fun j hj => ⟨by omega, by omega⟩, fun i j _ _ e => by omega⟩, by omega, by omega⟩ (by omega) e
    | succ d ih =>
      intro i fu g F hi hf c1 c2 hF hc gn e
      obtain ⟨fu, rfl⟩ : ∃ z, fu = z + 1 := ⟨fu - 1, by omega⟩
      have hi16 : i < 8 := by omega
      unfold qw_X6_init_36
      rw [qp_gR (k := 0) c1 rfl, qp_len c2]
      refine qp_iF (nI_ge hi16 (by omega)) ?_
      rw [qp_gR (k := 0) c1 rfl]
      refine qi_nw (a := o + 2 + 67 * (i + 1)) gn fun g1 a1 n1 e1 => ?_
      refine qe_X1_init a1 n1 fun g2 K2 n2 e2 => ?_
      have b1 : g2.2 o = some (.inr (9, [.ref (o + 1), .ref (o + 2), .int 0, .int 0])) := (e2 _ (by omega)).trans ((e1 _ (by omega)).trans c1)
      have b2 : g2.2 (o + 1) = some (.inl (6, 8, .inr (.inr (.inr (.inr F))))) := (e2 _ (by omega)).trans ((e1 _ (by omega)).trans c2)
      rw [qp_sR K2.1 b2 hi16 (by omega), nI_1]
      refine ih (i + 1) fu _ _ (by omega) (by omega) ((qp_up_n (by omega)).trans b1) qp_up_s (fun j hj => ?_) (fun j hj => ?_) (by show g2.1 = _; omega) fun q hq => (qp_up_n (by omega)).trans ((e2 _ (by omega)).trans ((e1 _ (by omega)).trans (e q hq)))
      · by_cases z : j = i
        · subst z
          exact va_up_self ..
        · rw [va_up_ne _ _ z]
          exact hF j (by omega)
      · by_cases z : j = i + 1
        · subst z
          exact K2.kept fun q h1 h2 => qp_up_n (by omega)
        · exact (hc j (by omega)).kept fun q h1 h2 => (qp_up_n (by omega)).trans ((e2 _ (by omega)).trans (e1 _ (by omega)))
  exact hL 8 0 9 g7 _ (Nat.zero_add _) (by omega) c7 ar (fun j hj => absurd hj (Nat.not_lt_zero j)) (fun j hj => by have : j = 0 := by omega
                                                                                                         subst this
                                                                                                         exact K7) (by omega) fr
/-! a StringBuilder -/
theorem qe_J4_init (hu : h.2 a = some (.inr (1, [.null, .int 0, .int 0, .int 0]))) (hn : h.1 = a + 1) (k : ∀ h1, qu_at h1 a (a + 1) 16 [] → h1.1 = a + 2 → (∀ q, q < a → h1.2 q = h.2 q) → Q h1) : qw_J4_init_da8c8 a h Q := by
  unfold qw_J4_init_da8c8
  show qw_J5_init_d00df a (16 : Int32) h _
  unfold qw_J5_init_d00df
  refine qp_iF qp_1 ⟨⟨by decide, by decide⟩, ?_⟩
  rw [show ((16 : Int32)).toNatClampNeg = 16 from by decide]
  refine qi_nw (a := a + 1) hn fun g1 a1 n1 e1 => ?_
  refine qi_pV ((e1 a (by omega)).trans hu) (by decide) [.ref (a + 1), .int 0, .int 0, .int 0] rfl fun g2 c2 n2 e2 => ?_
  refine qi_pV c2 (by decide) [.ref (a + 1), .int 0, .int 0, .int 0] rfl fun g3 c3 n3 e3 => ?_
  exact k g3 ⟨0, fun _ => 0, c3, (e3 _ (by omega)).trans ((e2 _ (by omega)).trans a1), fun j hj => absurd hj (Nat.not_lt_zero j), by omega, Nat.zero_le _, Or.inl rfl, fun c hc => absurd hc List.not_mem_nil, sb_fit0⟩ (by omega) fun q hq => (e3 _ (by omega)).trans ((e2 _ (by omega)).trans (e1 _ (by omega)))
/-! the script -/
theorem qe_X8_init (hp : h.2 p = some (.inr (10, [.null, .null, .int 0, .int 0]))) (hn : h.1 = p + 1) (k : ∀ h1, qs_at σ h1 p (p + 2) 16 [] (fun _ => (8, 0, 0, 97)) 0 0 → h1.1 = p + 16 → (∀ q, q < p → h1.2 q = h.2 q) → Q h1) : qw_X8_init σ p h Q := by
  unfold qw_X8_init
  refine qi_nw (a := p + 1) hn fun g1 a1 n1 e1 => ?_
  refine qe_J4_init a1 n1 fun g2 U2 n2 e2 => ?_
  refine qi_pV ((e2 p (by omega)).trans ((e1 p (by omega)).trans hp)) (by decide) [.ref (p + 1), .null, .int 0, .int 0] rfl fun g3 c3 n3 e3 => ?_
  refine qi_nw (a := p + 3) (by omega) fun g4 a4 n4 e4 => ?_
  refine qi_pV ((e4 p (by omega)).trans c3) (by decide) [.ref (p + 1), .ref (p + 3), .int 0, .int 0] rfl fun g5 c5 n5 e5 => ?_
  refine qi_pV c5 (by decide) [.ref (p + 1), .ref (p + 3), .int 0, .int 0] rfl fun g6 c6 n6 e6 => ?_
  refine qi_pV c6 (by decide) [.ref (p + 1), .ref (p + 3), .int 0, .int 0] rfl fun g7 c7 n7 e7 => ?_
  have U7 : qu_at g7 (p + 1) (p + 2) 16 [] := U2.kept ((e7 _ (by omega)).trans ((e6 _ (by omega)).trans ((e5 _ (by omega)).trans ((e4 _ (by omega)).trans (e3 _ (by omega)))))) ((e7 _ (by omega)).trans ((e6 _ (by omega)).trans ((e5 _ (by omega)).trans ((e4 _ (by omega)).trans (e3 _ (by omega))))))
  have ar : g7.2 (p + 3) = some (.inl (7, 12, .inr (.inr (.inr (.inr (fun _ => none)))))) := (e7 _ (by omega)).trans ((e6 _ (by omega)).trans ((e5 _ (by omega)).trans a4))
  have fr : ∀ q, q < p → g7.2 q = h.2 q := fun q hq => (e7 _ (by omega)).trans ((e6 _ (by omega)).trans ((e5 _ (by omega)).trans ((e4 _ (by omega)).trans ((e3 _ (by omega)).trans ((e2 _ (by omega)).trans (e1 _ (by omega)))))))
  have hL : ∀ d i fu g F, i + d = 12 → d < fu → g.2 p = some (.inr (10, [.ref (p + 1), .ref (p + 3), .int 0, .int 0])) → g.2 (p + 3) = some (.inl (7, 12, .inr (.inr (.inr (.inr F))))) → (∀ j, j < i → F j = some (p + 4 + j)) → (∀ j, j < i → g.2 (p + 4 + j) = some (.inr (7, qx_fs σ (8, 0, 0, 97)))) → qu_at g (p + 1) (p + 2) 16 [] → g.1 = p + 4 + i → (∀ q, q < p → g.2 q = h.2 q) → qw_X8_init_36 σ p Q fu (nI i) g := by
    intro d
    induction d with
    | zero =>
      intro i fu g F hi hf c1 c2 hF hc U gn e
      obtain ⟨fu, rfl⟩ : ∃ z, fu = z + 1 := ⟨fu - 1, by omega⟩
      unfold qw_X8_init_36
      rw [qp_gR (k := 1) c1 rfl, qp_len c2]
      refine qp_iT (nI_le (by omega) (by omega)) ?_
      exact k g ⟨c1, ⟨F, c2, fun j hj => hF j (by omega)⟩, fun j hj => ⟨hc j (by omega), (by decide : 8 < 10)⟩, U, Or.inl rfl⟩ (by omega) e
    | succ d ih =>
      intro i fu g F hi hf c1 c2 hF hc U gn e
      obtain ⟨fu, rfl⟩ : ∃ z, fu = z + 1 := ⟨fu - 1, by omega⟩
      have hi16 : i < 12 := by omega
      unfold qw_X8_init_36
      rw [qp_gR (k := 1) c1 rfl, qp_len c2]
      refine qp_iF (nI_ge hi16 (by omega)) ?_
      rw [qp_gR (k := 1) c1 rfl]
      refine qi_nw (a := p + 4 + i) gn fun g1 a1 n1 e1 => ?_
      show qw_X4_init σ (p + 4 + i) g1 _
      unfold qw_X4_init
      refine qi_pV a1 (by decide) [.ref (σ (100 + 8)), .int 0, .int 0, .int 0] rfl fun g2 k2 n2 e2 => ?_
      refine qi_pV k2 (by decide) [.ref (σ (100 + 8)), .int 0, .int 0, .int 0] rfl fun g3 k3 n3 e3 => ?_
      refine qi_pV k3 (by decide) [.ref (σ (100 + 8)), .int 0, .int 0, .int 0] rfl fun g4 k4 n4 e4 => ?_
      refine ⟨pk_charN (q := 97) (by omega), ?_⟩
      refine qi_pV k4 (by decide) (qx_fs σ (8, 0, 0, 97)) rfl fun g5 k5 n5 e5 => ?_
      have fx : ∀ q, q ≠ p + 4 + i → g5.2 q = g.2 q := fun q hq => (e5 _ hq).trans ((e4 _ hq).trans ((e3 _ hq).trans ((e2 _ hq).trans (e1 _ hq))))
      have b2 : g5.2 (p + 3) = some (.inl (7, 12, .inr (.inr (.inr (.inr F))))) := (fx _ (by omega)).trans c2
      rw [qp_sR k5 b2 hi16 (by omega), nI_1]
      refine ih (i + 1) fu _ _ (by omega) (by omega) ((qp_up_n (by omega)).trans ((fx _ (by omega)).trans c1)) qp_up_s (fun j hj => ?_) (fun j hj => ?_) (U.kept ((qp_up_n (by omega)).trans (fx _ (by omega))) ((qp_up_n (by omega)).trans (fx _ (by omega)))) (by show g5.1 = _; omega) fun q hq => (qp_up_n (by omega)).trans ((fx _ (by omega)).trans (e q hq))
      · by_cases z : j = i
        · subst z
          exact va_up_self ..
        · rw [va_up_ne _ _ z]
          exact hF j (by omega)
      · by_cases z : j = i
        · subst z
          exact (qp_up_n (by omega)).trans k5
        · exact (qp_up_n (by omega)).trans ((fx _ (by omega)).trans (hc j (by omega)))
  exact hL 12 0 13 g7 _ (Nat.zero_add _) (by omega) c7 ar (fun j hj => absurd hj (Nat.not_lt_zero j)) (fun j hj => absurd hj (Nat.not_lt_zero j)) U7 (by omega) fr
/-! tables -/
theorem qe_X5_init (hd : h.2 a = some (.inr (8, [.null]))) (hn : h.1 = a + 1) (k : ∀ h1, qd_at h1 a (fun _ _ => 0) → h1.1 = a + 15 → (∀ q, q < a → h1.2 q = h.2 q) → Q h1) : qw_X5_init a h Q := by
  unfold qw_X5_init ql_nm
  have m : ∀ q, (ql_mm h 13 13).2 q = if q = h.1 then some (.inl (8, 13, .inr (.inr (.inr (.inr (fun i => if i < 13 then some (h.1 + 1 + i) else none)))))) else if h.1 < q ∧ q ≤ h.1 + 13 then some (.inl (0, 13, .inl (fun _ => 0))) else h.2 q := fun _ => rfl
  have hc : (ql_mm h 13 13).2 a = some (.inr (8, [.null])) := by
    rw [m, if_neg (by omega), if_neg (by omega)]
    exact hd
  refine qi_pV hc (by decide) [.ref (a + 1)] (by rw [hn]; rfl) fun g1 c1 n1 e1 => ?_
  refine k g1 ⟨c1, ?_, fun i hi => ?_⟩ ?_ fun q hq => ?_
  · rw [e1 _ (by omega), m, if_pos hn.symm]
    have : (fun i => if i < 13 then some (h.1 + 1 + i) else none) = qd_rows a := by
      funext i
      unfold qd_rows
      rw [hn]
    rw [this]
  · rw [e1 _ (by omega), m, if_neg (by omega), if_pos (by omega)]
  · rw [n1]
    show h.1 + 1 + 13 = _
    omega
  · rw [e1 _ (by omega), m, if_neg (by omega), if_neg (by omega)]
theorem qe_X10_init (hd : h.2 a = some (.inr (11, [.null, .null]))) (hn : h.1 = a + 1) (k : ∀ h1, qh_at h1 a (fun _ => 0) (fun _ => 0) → h1.1 = a + 3 → (∀ q, q < a → h1.2 q = h.2 q) → Q h1) : qw_X10_init a h Q := by
  unfold qw_X10_init
  refine qi_nw (a := a + 1) hn fun g1 a1 n1 e1 => ?_
  refine qi_pV ((e1 a (by omega)).trans hd) (by decide) [.ref (a + 1), .null] rfl fun g2 c2 n2 e2 => ?_
  refine qi_nw (a := a + 2) (by omega) fun g3 a3 n3 e3 => ?_
  refine qi_pV ((e3 a (by omega)).trans c2) (by decide) [.ref (a + 1), .ref (a + 2)] rfl fun g4 c4 n4 e4 => ?_
  exact k g4 ⟨c4, (e4 _ (by omega)).trans ((e3 _ (by omega)).trans ((e2 _ (by omega)).trans a1)), (e4 _ (by omega)).trans a3⟩ (by omega) fun q hq => (e4 _ (by omega)).trans ((e3 _ (by omega)).trans ((e2 _ (by omega)).trans (e1 _ (by omega))))
theorem qe_X2_init (hd : h.2 a = some (.inr (5, [.null, .null, .null]))) (hn : h.1 = a + 1) (k : ∀ h1, qg_at h1 a (fun _ => 0) (fun _ => 0) (fun _ => 0) → h1.1 = a + 4 → (∀ q, q < a → h1.2 q = h.2 q) → Q h1) : qw_X2_init a h Q := by
  unfold qw_X2_init
  refine qi_nw (a := a + 1) hn fun g1 a1 n1 e1 => ?_
  refine qi_pV ((e1 a (by omega)).trans hd) (by decide) [.ref (a + 1), .null, .null] rfl fun g2 c2 n2 e2 => ?_
  refine qi_nw (a := a + 2) (by omega) fun g3 a3 n3 e3 => ?_
  refine qi_pV ((e3 a (by omega)).trans c2) (by decide) [.ref (a + 1), .ref (a + 2), .null] rfl fun g4 c4 n4 e4 => ?_
  refine qi_nw (a := a + 3) (by omega) fun g5 a5 n5 e5 => ?_
  refine qi_pV ((e5 a (by omega)).trans c4) (by decide) [.ref (a + 1), .ref (a + 2), .ref (a + 3)] rfl fun g6 c6 n6 e6 => ?_
  exact k g6 ⟨c6, (e6 _ (by omega)).trans ((e5 _ (by omega)).trans ((e4 _ (by omega)).trans ((e3 _ (by omega)).trans ((e2 _ (by omega)).trans a1)))), (e6 _ (by omega)).trans ((e5 _ (by omega)).trans ((e4 _ (by omega)).trans a3)), (e6 _ (by omega)).trans a5⟩ (by omega) fun q hq => (e6 _ (by omega)).trans ((e5 _ (by omega)).trans ((e4 _ (by omega)).trans ((e3 _ (by omega)).trans ((e2 _ (by omega)).trans (e1 _ (by omega))))))
/-! the class -/
def qa_S0 : qa_S := (qa_0, [], none, [], -1, -1, [])
theorem qe_X11_init (hd : h.2 b = some (.inr (12, [.null, .null, .int 0, .null, .null, .int 0, .int 0, .null, .null, .null, .null]))) (hn : h.1 = b + 1) (k : ∀ h1, (∀ g, (∀ q, q < b + 780 → g.2 q = h1.2 q) → b + 792 ≤ g.1 → qx_at σ g b qa_S0 none) → h1.1 = b + 780 → (∀ q, q < b → h1.2 q = h.2 q) → Q h1) : qw_X11_init σ b h Q := by
  unfold qw_X11_init
  refine qi_nw (a := b + 1) (by omega) fun g1 a1 n1 e1 => ?_
  refine qe_X1_init a1 n1 fun g2 K_bk n2 e2 => ?_
  refine qi_pV ((e2 b (by omega)).trans ((e1 b (by omega)).trans hd)) (by decide) [.ref (b + 1), .null, .int 0, .null, .null, .int 0, .int 0, .null, .null, .null, .null] rfl fun g3 c3 n3 e3 => ?_
  refine qi_nw (a := b + 68) (by omega) fun g4 a4 n4 e4 => ?_
  refine qe_X1_init a4 n4 fun g5 K_sn n5 e5 => ?_
  refine qi_pV ((e5 b (by omega)).trans ((e4 b (by omega)).trans c3)) (by decide) [.ref (b + 1), .ref (b + 68), .int 0, .null, .null, .int 0, .int 0, .null, .null, .null, .null] rfl fun g6 c6 n6 e6 => ?_
  refine qi_pV c6 (by decide) [.ref (b + 1), .ref (b + 68), .int 0, .null, .null, .int 0, .int 0, .null, .null, .null, .null] rfl fun g7 c7 n7 e7 => ?_
  refine qi_nw (a := b + 135) (by omega) fun g8 a8 n8 e8 => ?_
  refine qe_X6_init a8 n8 fun g9 K_hi n9 e9 => ?_
  refine qi_pV ((e9 b (by omega)).trans ((e8 b (by omega)).trans c7)) (by decide) [.ref (b + 1), .ref (b + 68), .int 0, .ref (b + 135), .null, .int 0, .int 0, .null, .null, .null, .null] rfl fun g10 c10 n10 e10 => ?_
  refine qi_nw (a := b + 740) (by omega) fun g11 a11 n11 e11 => ?_
  refine qe_X8_init a11 n11 fun g12 K_sc n12 e12 => ?_
  refine qi_pV ((e12 b (by omega)).trans ((e11 b (by omega)).trans c10)) (by decide) [.ref (b + 1), .ref (b + 68), .int 0, .ref (b + 135), .ref (b + 740), .int 0, .int 0, .null, .null, .null, .null] rfl fun g13 c13 n13 e13 => ?_
  refine qi_pV c13 (by decide) [.ref (b + 1), .ref (b + 68), .int 0, .ref (b + 135), .ref (b + 740), .int (-1), .int 0, .null, .null, .null, .null] rfl fun g14 c14 n14 e14 => ?_
  refine qi_pV c14 (by decide) [.ref (b + 1), .ref (b + 68), .int 0, .ref (b + 135), .ref (b + 740), .int (-1), .int (-1), .null, .null, .null, .null] rfl fun g15 c15 n15 e15 => ?_
  refine qi_nw (a := b + 756) (by omega) fun g16 a16 n16 e16 => ?_
  refine qe_J4_init a16 n16 fun g17 K_ou n17 e17 => ?_
  refine qi_pV ((e17 b (by omega)).trans ((e16 b (by omega)).trans c15)) (by decide) [.ref (b + 1), .ref (b + 68), .int 0, .ref (b + 135), .ref (b + 740), .int (-1), .int (-1), .ref (b + 756), .null, .null, .null] rfl fun g18 c18 n18 e18 => ?_
  refine qi_nw (a := b + 758) (by omega) fun g19 a19 n19 e19 => ?_
  refine qe_X5_init a19 n19 fun g20 K_di n20 e20 => ?_
  refine qi_pV ((e20 b (by omega)).trans ((e19 b (by omega)).trans c18)) (by decide) [.ref (b + 1), .ref (b + 68), .int 0, .ref (b + 135), .ref (b + 740), .int (-1), .int (-1), .ref (b + 756), .ref (b + 758), .null, .null] rfl fun g21 c21 n21 e21 => ?_
  refine qi_nw (a := b + 773) (by omega) fun g22 a22 n22 e22 => ?_
  refine qe_X10_init a22 n22 fun g23 K_ct n23 e23 => ?_
  refine qi_pV ((e23 b (by omega)).trans ((e22 b (by omega)).trans c21)) (by decide) [.ref (b + 1), .ref (b + 68), .int 0, .ref (b + 135), .ref (b + 740), .int (-1), .int (-1), .ref (b + 756), .ref (b + 758), .ref (b + 773), .null] rfl fun g24 c24 n24 e24 => ?_
  refine qi_nw (a := b + 776) (by omega) fun g25 a25 n25 e25 => ?_
  refine qe_X2_init a25 n25 fun g26 K_gr n26 e26 => ?_
  refine qi_pV ((e26 b (by omega)).trans ((e25 b (by omega)).trans c24)) (by decide) [.ref (b + 1), .ref (b + 68), .int 0, .ref (b + 135), .ref (b + 740), .int (-1), .int (-1), .ref (b + 756), .ref (b + 758), .ref (b + 773), .ref (b + 776)] rfl fun g27 c27 n27 e27 => ?_
  refine k g27 (fun g eg ng => ?_) (by omega) fun q hq => ((e27 _ (by omega)).trans ((e26 _ (by omega)).trans ((e25 _ (by omega)).trans ((e24 _ (by omega)).trans ((e23 _ (by omega)).trans ((e22 _ (by omega)).trans ((e21 _ (by omega)).trans ((e20 _ (by omega)).trans ((e19 _ (by omega)).trans ((e18 _ (by omega)).trans ((e17 _ (by omega)).trans ((e16 _ (by omega)).trans ((e15 _ (by omega)).trans ((e14 _ (by omega)).trans ((e13 _ (by omega)).trans ((e12 _ (by omega)).trans ((e11 _ (by omega)).trans ((e10 _ (by omega)).trans ((e9 _ (by omega)).trans ((e8 _ (by omega)).trans ((e7 _ (by omega)).trans ((e6 _ (by omega)).trans ((e5 _ (by omega)).trans ((e4 _ (by omega)).trans ((e3 _ (by omega)).trans ((e2 _ (by omega)).trans (e1 _ (by omega))))))))))))))))))))))))))))
  have f_bk : ∀ q, b + 1 ≤ q → q < b + 68 → g.2 q = g2.2 q := fun q h1 h2 => (eg q (by omega)).trans ((e27 _ (by omega)).trans ((e26 _ (by omega)).trans ((e25 _ (by omega)).trans ((e24 _ (by omega)).trans ((e23 _ (by omega)).trans ((e22 _ (by omega)).trans ((e21 _ (by omega)).trans ((e20 _ (by omega)).trans ((e19 _ (by omega)).trans ((e18 _ (by omega)).trans ((e17 _ (by omega)).trans ((e16 _ (by omega)).trans ((e15 _ (by omega)).trans ((e14 _ (by omega)).trans ((e13 _ (by omega)).trans ((e12 _ (by omega)).trans ((e11 _ (by omega)).trans ((e10 _ (by omega)).trans ((e9 _ (by omega)).trans ((e8 _ (by omega)).trans ((e7 _ (by omega)).trans ((e6 _ (by omega)).trans ((e5 _ (by omega)).trans ((e4 _ (by omega)).trans (e3 _ (by omega))))))))))))))))))))))))))
  have f_sn : ∀ q, b + 68 ≤ q → q < b + 135 → g.2 q = g5.2 q := fun q h1 h2 => (eg q (by omega)).trans ((e27 _ (by omega)).trans ((e26 _ (by omega)).trans ((e25 _ (by omega)).trans ((e24 _ (by omega)).trans ((e23 _ (by omega)).trans ((e22 _ (by omega)).trans ((e21 _ (by omega)).trans ((e20 _ (by omega)).trans ((e19 _ (by omega)).trans ((e18 _ (by omega)).trans ((e17 _ (by omega)).trans ((e16 _ (by omega)).trans ((e15 _ (by omega)).trans ((e14 _ (by omega)).trans ((e13 _ (by omega)).trans ((e12 _ (by omega)).trans ((e11 _ (by omega)).trans ((e10 _ (by omega)).trans ((e9 _ (by omega)).trans ((e8 _ (by omega)).trans ((e7 _ (by omega)).trans (e6 _ (by omega)))))))))))))))))))))))
  have f_hi : ∀ q, b + 135 ≤ q → q < b + 740 → g.2 q = g9.2 q := fun q h1 h2 => (eg q (by omega)).trans ((e27 _ (by omega)).trans ((e26 _ (by omega)).trans ((e25 _ (by omega)).trans ((e24 _ (by omega)).trans ((e23 _ (by omega)).trans ((e22 _ (by omega)).trans ((e21 _ (by omega)).trans ((e20 _ (by omega)).trans ((e19 _ (by omega)).trans ((e18 _ (by omega)).trans ((e17 _ (by omega)).trans ((e16 _ (by omega)).trans ((e15 _ (by omega)).trans ((e14 _ (by omega)).trans ((e13 _ (by omega)).trans ((e12 _ (by omega)).trans ((e11 _ (by omega)).trans (e10 _ (by omega)))))))))))))))))))
  have f_sc : ∀ q, b + 740 ≤ q → q < b + 756 → g.2 q = g12.2 q := fun q h1 h2 => (eg q (by omega)).trans ((e27 _ (by omega)).trans ((e26 _ (by omega)).trans ((e25 _ (by omega)).trans ((e24 _ (by omega)).trans ((e23 _ (by omega)).trans ((e22 _ (by omega)).trans ((e21 _ (by omega)).trans ((e20 _ (by omega)).trans ((e19 _ (by omega)).trans ((e18 _ (by omega)).trans ((e17 _ (by omega)).trans ((e16 _ (by omega)).trans ((e15 _ (by omega)).trans ((e14 _ (by omega)).trans (e13 _ (by omega))))))))))))))))
  have f_ou : ∀ q, b + 756 ≤ q → q < b + 758 → g.2 q = g17.2 q := fun q h1 h2 => (eg q (by omega)).trans ((e27 _ (by omega)).trans ((e26 _ (by omega)).trans ((e25 _ (by omega)).trans ((e24 _ (by omega)).trans ((e23 _ (by omega)).trans ((e22 _ (by omega)).trans ((e21 _ (by omega)).trans ((e20 _ (by omega)).trans ((e19 _ (by omega)).trans (e18 _ (by omega)))))))))))
  have f_di : ∀ q, b + 758 ≤ q → q < b + 773 → g.2 q = g20.2 q := fun q h1 h2 => (eg q (by omega)).trans ((e27 _ (by omega)).trans ((e26 _ (by omega)).trans ((e25 _ (by omega)).trans ((e24 _ (by omega)).trans ((e23 _ (by omega)).trans ((e22 _ (by omega)).trans (e21 _ (by omega))))))))
  have f_ct : ∀ q, b + 773 ≤ q → q < b + 776 → g.2 q = g23.2 q := fun q h1 h2 => (eg q (by omega)).trans ((e27 _ (by omega)).trans ((e26 _ (by omega)).trans ((e25 _ (by omega)).trans (e24 _ (by omega)))))
  have f_gr : ∀ q, b + 776 ≤ q → q < b + 780 → g.2 q = g26.2 q := fun q h1 h2 => (eg q (by omega)).trans (e27 _ (by omega))
  refine ⟨(eg _ (by omega)).trans c27, ⟨⟨qb_0, K_bk.kept fun q h1 h2 => f_bk q h1 (by omega), qr_0⟩, ⟨qb_0, K_sn.kept fun q h1 h2 => f_sn q h1 (by omega), fun L e => by cases e⟩, ⟨fun _ => qb_0, fun j => j + 1, 0, 0, K_hi.kept fun q h1 h2 => f_hi q h1 (by omega), fun i hi => absurd hi (Nat.not_lt_zero i), fun L e => by cases e⟩⟩, ⟨b + 742, b + 757, ⟨16, fun _ => (8, 0, 0, 97), 0, 0, K_sc.kept (fun q h1 h2 => f_sc q h1 (by omega)) (f_sc _ (by omega) (by omega))⟩, ⟨16, K_ou.kept (f_ou _ (by omega) (by omega)) (f_ou _ (by omega) (by omega))⟩, by omega, Or.inl rfl, Or.inl rfl, by omega, by omega⟩, ⟨⟨_, K_di.kept fun q h1 h2 => f_di q h1 (by omega)⟩, ⟨_, _, K_ct.kept fun q h1 h2 => f_ct q h1 (by omega)⟩, _, _, _, K_gr.kept fun q h1 h2 => f_gr q h1 (by omega)⟩, ng⟩
/-! the reference -/
def qk_0 : qk_T := (fun j => if j = 10 then -1 else if j = 11 then -1 else 0, fun _ _ => 0)
theorem qe_X12_init {m : Nat} (hd : h.2 m = some (.inr (13, [.null, .null, .null, .null, .int 0, .int 0, .int 0, .int 0, .null, .int 0, .int 0, .int 0, .null, .int 0, .null, .null, .int 0, .null, .int 0]))) (hn : h.1 = m + 1) (k : ∀ h1, qk_at h1 m qk_0 → h1.1 = m + 10 → (∀ q, q < m → h1.2 q = h.2 q) → Q h1) : qw_X12_init m h Q := by
  unfold qw_X12_init
  refine qi_nw (a := m + 1) (by omega) fun g1 a1 n1 e1 => ?_
  refine qi_pV ((e1 m (by omega)).trans hd) (by decide) [.ref (m + 1), .null, .null, .null, .int 0, .int 0, .int 0, .int 0, .null, .int 0, .int 0, .int 0, .null, .int 0, .null, .null, .int 0, .null, .int 0] rfl fun g2 c2 n2 e2 => ?_
  refine qi_nw (a := m + 2) (by omega) fun g3 a3 n3 e3 => ?_
  refine qi_pV ((e3 m (by omega)).trans c2) (by decide) [.ref (m + 1), .ref (m + 2), .null, .null, .int 0, .int 0, .int 0, .int 0, .null, .int 0, .int 0, .int 0, .null, .int 0, .null, .null, .int 0, .null, .int 0] rfl fun g4 c4 n4 e4 => ?_
  refine qi_nw (a := m + 3) (by omega) fun g5 a5 n5 e5 => ?_
  refine qi_pV ((e5 m (by omega)).trans c4) (by decide) [.ref (m + 1), .ref (m + 2), .ref (m + 3), .null, .int 0, .int 0, .int 0, .int 0, .null, .int 0, .int 0, .int 0, .null, .int 0, .null, .null, .int 0, .null, .int 0] rfl fun g6 c6 n6 e6 => ?_
  refine qi_nw (a := m + 4) (by omega) fun g7 a7 n7 e7 => ?_
  refine qi_pV ((e7 m (by omega)).trans c6) (by decide) [.ref (m + 1), .ref (m + 2), .ref (m + 3), .ref (m + 4), .int 0, .int 0, .int 0, .int 0, .null, .int 0, .int 0, .int 0, .null, .int 0, .null, .null, .int 0, .null, .int 0] rfl fun g8 c8 n8 e8 => ?_
  refine qi_nw (a := m + 5) (by omega) fun g9 a9 n9 e9 => ?_
  refine qi_pV ((e9 m (by omega)).trans c8) (by decide) [.ref (m + 1), .ref (m + 2), .ref (m + 3), .ref (m + 4), .int 0, .int 0, .int 0, .int 0, .ref (m + 5), .int 0, .int 0, .int 0, .null, .int 0, .null, .null, .int 0, .null, .int 0] rfl fun g10 c10 n10 e10 => ?_
  refine qi_pV c10 (by decide) [.ref (m + 1), .ref (m + 2), .ref (m + 3), .ref (m + 4), .int 0, .int 0, .int 0, .int 0, .ref (m + 5), .int 0, .int (-1), .int 0, .null, .int 0, .null, .null, .int 0, .null, .int 0] rfl fun g11 c11 n11 e11 => ?_
  refine qi_pV c11 (by decide) [.ref (m + 1), .ref (m + 2), .ref (m + 3), .ref (m + 4), .int 0, .int 0, .int 0, .int 0, .ref (m + 5), .int 0, .int (-1), .int (-1), .null, .int 0, .null, .null, .int 0, .null, .int 0] rfl fun g12 c12 n12 e12 => ?_
  refine qi_nw (a := m + 6) (by omega) fun g13 a13 n13 e13 => ?_
  refine qi_pV ((e13 m (by omega)).trans c12) (by decide) [.ref (m + 1), .ref (m + 2), .ref (m + 3), .ref (m + 4), .int 0, .int 0, .int 0, .int 0, .ref (m + 5), .int 0, .int (-1), .int (-1), .ref (m + 6), .int 0, .null, .null, .int 0, .null, .int 0] rfl fun g14 c14 n14 e14 => ?_
  refine qi_nw (a := m + 7) (by omega) fun g15 a15 n15 e15 => ?_
  refine qi_pV ((e15 m (by omega)).trans c14) (by decide) [.ref (m + 1), .ref (m + 2), .ref (m + 3), .ref (m + 4), .int 0, .int 0, .int 0, .int 0, .ref (m + 5), .int 0, .int (-1), .int (-1), .ref (m + 6), .int 0, .ref (m + 7), .null, .int 0, .null, .int 0] rfl fun g16 c16 n16 e16 => ?_
  refine qi_nw (a := m + 8) (by omega) fun g17 a17 n17 e17 => ?_
  refine qi_pV ((e17 m (by omega)).trans c16) (by decide) [.ref (m + 1), .ref (m + 2), .ref (m + 3), .ref (m + 4), .int 0, .int 0, .int 0, .int 0, .ref (m + 5), .int 0, .int (-1), .int (-1), .ref (m + 6), .int 0, .ref (m + 7), .ref (m + 8), .int 0, .null, .int 0] rfl fun g18 c18 n18 e18 => ?_
  refine qi_nw (a := m + 9) (by omega) fun g19 a19 n19 e19 => ?_
  refine qi_pV ((e19 m (by omega)).trans c18) (by decide) [.ref (m + 1), .ref (m + 2), .ref (m + 3), .ref (m + 4), .int 0, .int 0, .int 0, .int 0, .ref (m + 5), .int 0, .int (-1), .int (-1), .ref (m + 6), .int 0, .ref (m + 7), .ref (m + 8), .int 0, .ref (m + 9), .int 0] rfl fun g20 c20 n20 e20 => ?_
  refine k g20 ⟨c20, fun j hj ha => ?_⟩ (by omega) fun q hq => ((e20 _ (by omega)).trans ((e19 _ (by omega)).trans ((e18 _ (by omega)).trans ((e17 _ (by omega)).trans ((e16 _ (by omega)).trans ((e15 _ (by omega)).trans ((e14 _ (by omega)).trans ((e13 _ (by omega)).trans ((e12 _ (by omega)).trans ((e11 _ (by omega)).trans ((e10 _ (by omega)).trans ((e9 _ (by omega)).trans ((e8 _ (by omega)).trans ((e7 _ (by omega)).trans ((e6 _ (by omega)).trans ((e5 _ (by omega)).trans ((e4 _ (by omega)).trans ((e3 _ (by omega)).trans ((e2 _ (by omega)).trans (e1 _ (by omega)))))))))))))))))))))
  have : j = 0 ∨ j = 1 ∨ j = 2 ∨ j = 3 ∨ j = 8 ∨ j = 12 ∨ j = 14 ∨ j = 15 ∨ j = 17 := by
    revert ha
    revert j
    decide
  rcases this with z | z | z | z | z | z | z | z | z <;> subst z
  · exact ((e20 _ (by omega)).trans ((e19 _ (by omega)).trans ((e18 _ (by omega)).trans ((e17 _ (by omega)).trans ((e16 _ (by omega)).trans ((e15 _ (by omega)).trans ((e14 _ (by omega)).trans ((e13 _ (by omega)).trans ((e12 _ (by omega)).trans ((e11 _ (by omega)).trans ((e10 _ (by omega)).trans ((e9 _ (by omega)).trans ((e8 _ (by omega)).trans ((e7 _ (by omega)).trans ((e6 _ (by omega)).trans ((e5 _ (by omega)).trans ((e4 _ (by omega)).trans ((e3 _ (by omega)).trans ((e2 _ (by omega)).trans a1)))))))))))))))))))
  · exact ((e20 _ (by omega)).trans ((e19 _ (by omega)).trans ((e18 _ (by omega)).trans ((e17 _ (by omega)).trans ((e16 _ (by omega)).trans ((e15 _ (by omega)).trans ((e14 _ (by omega)).trans ((e13 _ (by omega)).trans ((e12 _ (by omega)).trans ((e11 _ (by omega)).trans ((e10 _ (by omega)).trans ((e9 _ (by omega)).trans ((e8 _ (by omega)).trans ((e7 _ (by omega)).trans ((e6 _ (by omega)).trans ((e5 _ (by omega)).trans ((e4 _ (by omega)).trans a3)))))))))))))))))
  · exact ((e20 _ (by omega)).trans ((e19 _ (by omega)).trans ((e18 _ (by omega)).trans ((e17 _ (by omega)).trans ((e16 _ (by omega)).trans ((e15 _ (by omega)).trans ((e14 _ (by omega)).trans ((e13 _ (by omega)).trans ((e12 _ (by omega)).trans ((e11 _ (by omega)).trans ((e10 _ (by omega)).trans ((e9 _ (by omega)).trans ((e8 _ (by omega)).trans ((e7 _ (by omega)).trans ((e6 _ (by omega)).trans a5)))))))))))))))
  · exact ((e20 _ (by omega)).trans ((e19 _ (by omega)).trans ((e18 _ (by omega)).trans ((e17 _ (by omega)).trans ((e16 _ (by omega)).trans ((e15 _ (by omega)).trans ((e14 _ (by omega)).trans ((e13 _ (by omega)).trans ((e12 _ (by omega)).trans ((e11 _ (by omega)).trans ((e10 _ (by omega)).trans ((e9 _ (by omega)).trans ((e8 _ (by omega)).trans a7)))))))))))))
  · exact ((e20 _ (by omega)).trans ((e19 _ (by omega)).trans ((e18 _ (by omega)).trans ((e17 _ (by omega)).trans ((e16 _ (by omega)).trans ((e15 _ (by omega)).trans ((e14 _ (by omega)).trans ((e13 _ (by omega)).trans ((e12 _ (by omega)).trans ((e11 _ (by omega)).trans ((e10 _ (by omega)).trans a9)))))))))))
  · exact ((e20 _ (by omega)).trans ((e19 _ (by omega)).trans ((e18 _ (by omega)).trans ((e17 _ (by omega)).trans ((e16 _ (by omega)).trans ((e15 _ (by omega)).trans ((e14 _ (by omega)).trans a13)))))))
  · exact ((e20 _ (by omega)).trans ((e19 _ (by omega)).trans ((e18 _ (by omega)).trans ((e17 _ (by omega)).trans ((e16 _ (by omega)).trans a15)))))
  · exact ((e20 _ (by omega)).trans ((e19 _ (by omega)).trans ((e18 _ (by omega)).trans a17)))
  · exact ((e20 _ (by omega)).trans a19)
theorem qk_all0 : qk_all qk_0 qa_S0 := by
  have g0 : qk_G (fun _ => 0) qa_0 := by
    refine ⟨⟨Nat.zero_le _, rfl, rfl, rfl, rfl, rfl, rfl, rfl⟩, fun e he hE t h1 h2 h3 => ?_, fun k hk => absurd hk (Nat.not_lt_zero k)⟩
    have : e = 0 := ((nI_eq (a := 0) (b := e) (by omega) (by omega)).mp hE).symm
    omega
  exact ⟨⟨g0, ⟨Nat.zero_le _, rfl, fun j hj => absurd hj (Nat.not_lt_zero j)⟩, rfl, rfl⟩, ⟨Nat.zero_le _, rfl, fun j hj => absurd hj (Nat.not_lt_zero j)⟩, ⟨rfl, rfl⟩, Nat.zero_le _, rfl, fun j hj => absurd hj (Nat.not_lt_zero j)⟩
theorem qi_0 : qi_S qa_S0 0 :=
  ⟨⟨⟨⟨List.Pairwise.nil, ⟨List.Pairwise.nil, fun A hA => absurd hA List.not_mem_nil⟩, fun A hA => absurd hA List.not_mem_nil⟩, ⟨0, Nat.zero_le _, rfl⟩, ⟨0, Nat.zero_le _, rfl⟩, 0, Nat.zero_le _, rfl⟩, fun L hL => absurd hL List.not_mem_nil, fun L e => by cases e⟩, ⟨Nat.zero_le _, fun c hc => absurd hc List.not_mem_nil⟩, ⟨Or.inl rfl, Or.inl rfl⟩, Nat.zero_le _, fun c hc => absurd hc List.not_mem_nil⟩
/-! the law -/
set_option maxRecDepth 100000 in
theorem qe_L_loop {xs9 : Nat → Int32} {Q : Int32 → ql_H → Prop} {X : String → ql_H → Prop} (hL : L9 ≤ 2048) (kQ : ∀ h, Q 1 h) : ∀ (n t : Nat) (h : ql_H) (M : qk_T) (S : qa_S), n + t = 513 → t ≤ 512 → qy_at σ h b M S → qi_S S (13 * t) → qw_L_law_28 σ L9 xs9 a0 Q X n (some b) (some (b + 780)) (some (b + 790)) (some (b + 791)) (nI (4 * t)) h := by
  intro n
  induction n with
  | zero => intro t _ _ _ h1 h2; omega
  | succ n ih =>
    intro t h M S h1 h2 W I
    unfold qw_L_law_28
    refine qp_if (fun _ => ⟨ql_nz1, kQ h⟩) fun z => ?_
    have hi : 4 * t + 4 ≤ L9 := by
      rcases Nat.lt_or_ge L9 (4 * t + 4) with y | y
      · refine absurd (Int32.lt_iff_toInt_lt.mpr ?_) z
        rw [show (4 : Int32) = nI 4 from rfl, pk_sub_toInt (by omega) (by omega), nI_toInt (by omega)]
        omega
      · exact y
    refine ⟨vp_in_nI (by omega) (by omega), ?_⟩
    have hN : 13 * t + 13 < 2 ^ 20 := by omega
    have hk : qy_c σ b (13 * t) (4 * t) (qw_L_law_28 σ L9 xs9 a0 Q X n) := fun h3 M3 S3 W3 I3 => by
      rw [show nI (4 * t) + (4 : Int32) = nI (4 * (t + 1)) from nI_add (4 * t) 4]
      exact ih (t + 1) h3 M3 S3 (by omega) (by omega) W3 I3
    generalize (xs9 (nI (4 * t)).toNatClampNeg) &&& (63 : Int32) = v
    refine qp_if (fun _ => qc_0 W I hN hi hL hk) fun _ => ?_
    refine qp_if (fun _ => qc_1 W I hN hi hL hk) fun _ => ?_
    refine qp_if (fun _ => qc_2 W I hN hi hL hk) fun _ => ?_
    refine qp_if (fun _ => qc_3 W I hN hi hL hk) fun _ => ?_
    refine qp_if (fun _ => qc_4 W I hN hi hL hk) fun _ => ?_
    refine qp_if (fun _ => qc_5 W I hN hi hL hk) fun _ => ?_
    refine qp_if (fun _ => qc_6 W I hN hi hL hk) fun _ => ?_
    refine qp_if (fun _ => qc_7 W I hN hi hL hk) fun _ => ?_
    refine qp_if (fun _ => qc_8 W I hN hi hL hk) fun _ => ?_
    refine qp_if (fun _ => qc_9 W I hN hi hL hk) fun _ => ?_
    refine qp_if (fun _ => qc_10 W I hN hi hL hk) fun _ => ?_
    refine qp_if (fun _ => qc_11 W I hN hi hL hk) fun _ => ?_
    refine qp_if (fun _ => qc_12 W I hN hi hL hk) fun _ => ?_
    refine qp_if (fun _ => qc_13 W I hN hi hL hk) fun _ => ?_
    refine qp_if (fun _ => qc_14 W I hN hi hL hk) fun _ => ?_
    refine qp_if (fun _ => qc_15 W I hN hi hL hk) fun _ => ?_
    refine qp_if (fun _ => qc_16 W I hN hi hL hk) fun _ => ?_
    refine qp_if (fun _ => qc_17 W I hN hi hL hk) fun _ => ?_
    refine qp_if (fun _ => qc_18 W I hN hi hL hk) fun _ => ?_
    refine qp_if (fun _ => qc_19 W I hN hi hL hk) fun _ => ?_
    refine qp_if (fun _ => qc_20 W I hN hi hL hk) fun _ => ?_
    refine qp_if (fun _ => qc_21 W I hN hi hL hk) fun _ => ?_
    refine qp_if (fun _ => qc_22 W I hN hi hL hk) fun _ => ?_
    refine qp_if (fun _ => qc_23 W I hN hi hL hk) fun _ => ?_
    refine qp_if (fun _ => qc_24 W I hN hi hL hk) fun _ => ?_
    refine qp_if (fun _ => qc_25 W I hN hi hL hk) fun _ => ?_
    refine qp_if (fun _ => qc_26 W I hN hi hL hk) fun _ => ?_
    refine qp_if (fun _ => qc_27 W I hN hi hL hk) fun _ => ?_
    refine qp_if (fun _ => qc_28 W I hN hi hL hk) fun _ => ?_
    refine qp_if (fun _ => qc_29 W I hN hi hL hk) fun _ => ?_
    refine qp_if (fun _ => qc_30 W I hN hi hL hk) fun _ => ?_
    refine qp_if (fun _ => qc_31 W I hN hi hL hk) fun _ => ?_
    refine qp_if (fun _ => qc_32 W I hN hi hL hk) fun _ => ?_
    refine qp_if (fun _ => qc_33 W I hN hi hL hk) fun _ => ?_
    refine qp_if (fun _ => qc_34 W I hN hi hL hk) fun _ => ?_
    refine qp_if (fun _ => qc_35 W I hN hi hL hk) fun _ => ?_
    refine qp_if (fun _ => qc_36 W I hN hi hL hk) fun _ => ?_
    refine qp_if (fun _ => qc_37 W I hN hi hL hk) fun _ => ?_
    refine qp_if (fun _ => qc_38 W I hN hi hL hk) fun _ => ?_
    refine qp_if (fun _ => qc_39 W I hN hi hL hk) fun _ => ?_
    refine qp_if (fun _ => qc_40 W I hN hi hL hk) fun _ => ?_
    refine qp_if (fun _ => qc_41 W I hN hi hL hk) fun _ => ?_
    refine qp_if (fun _ => qc_42 W I hN hi hL hk) fun _ => ?_
    refine qp_if (fun _ => qc_43 W I hN hi hL hk) fun _ => ?_
    refine qp_if (fun _ => qc_44 W I hN hi hL hk) fun _ => ?_
    refine qp_if (fun _ => qc_45 W I hN hi hL hk) fun _ => ?_
    refine qp_if (fun _ => qc_46 W I hN hi hL hk) fun _ => ?_
    refine qp_if (fun _ => qc_47 W I hN hi hL hk) fun _ => ?_
    refine qp_if (fun _ => qc_48 W I hN hi hL hk) fun _ => ?_
    refine qp_if (fun _ => qc_49 W I hN hi hL hk) fun _ => ?_
    refine qp_if (fun _ => qc_50 W I hN hi hL hk) fun _ => ?_
    refine qp_if (fun _ => qc_51 W I hN hi hL hk) fun _ => ?_
    refine qp_if (fun _ => qc_52 W I hN hi hL hk) fun _ => ?_
    refine qp_if (fun _ => qc_53 W I hN hi hL hk) fun _ => ?_
    exact hk h M S W (I.mono (by omega))
theorem qe_L_law {xs9 : Nat → Int32} {Q : Int32 → ql_H → Prop} {X : String → ql_H → Prop} (hL : L9 ≤ 2048) (kQ : ∀ h, Q 1 h) : qw_L_law σ L9 xs9 a0 h Q X := by
  unfold qw_L_law
  refine qi_nw (a := h.1) rfl fun g1 a1 n1 e1 => ?_
  refine qe_X11_init a1 n1 fun g2 K2 n2 e2 => ?_
  refine qi_nw (a := h.1 + 780) n2 fun g3 a3 n3 e3 => ?_
  refine qe_X12_init a3 n3 fun g4 K4 n4 e4 => ?_
  refine qi_nw (a := h.1 + 790) (by omega) fun g5 a5 n5 e5 => ?_
  refine qi_nw (a := h.1 + 791) (by omega) fun g6 a6 n6 e6 => ?_
  have W : qy_at σ g6 h.1 qk_0 qa_S0 := ⟨K2 g6 (fun q hq => (e6 _ (by omega)).trans ((e5 _ (by omega)).trans ((e4 _ (by omega)).trans (e3 _ (by omega))))) (by omega), ⟨K4.kept fun q h1 h2 => (e6 _ (by omega)).trans (e5 _ (by omega)), qk_all0⟩, ⟨_, (e6 _ (by omega)).trans a5⟩, _, a6⟩
  exact qe_L_loop hL kQ 513 0 g6 _ _ rfl (Nat.zero_le _) W qi_0
end QIN
