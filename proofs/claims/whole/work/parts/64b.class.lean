/-! How the class begins. -/
section QIC
variable {σ : Nat → Nat} {h h1 g : ql_H} {a b c o p n N L9 a0 : Nat} {Q : ql_H → Prop}
theorem qi_nn {K : Nat → Prop} (k : K a) : ql_nn (some a) K := k
/-- the class object with its fields, the cells up to c, and what stands in them whatever comes later -/
def qi_F (h g : ql_H) (b : Nat) (fs : List Value) (c : Nat) (P : ql_H → Prop) : Prop := (b < c ∧ g.1 = c) ∧ g.2 b = some (.inr (12, fs)) ∧ (∀ q, q < b → g.2 q = h.2 q) ∧ ∀ g' : ql_H, (∀ q, b + 1 ≤ q → q < c → g'.2 q = g.2 q) → P g'
theorem qi_F.pV {fs : List Value} {v : Value} {P K : ql_H → Prop} {k : Nat} (F : qi_F h g b fs c P) (hk : k < fs.length) (fs2 : List Value) (e : fs.set k v = fs2) (kk : ∀ g1, qi_F h g1 b fs2 c P → K g1) : ql_pV g (some b) 12 k v K := by
  obtain ⟨⟨bc, n⟩, c0, lo, P0⟩ := F
  exact qi_pV c0 hk fs2 e fun g1 c1 n1 e1 => kk g1 ⟨⟨bc, n1.trans n⟩, c1, fun q hq => (e1 q (Nat.ne_of_lt hq)).trans (lo q hq), fun g' eg => P0 g' fun q h1 h2 => (eg q h1 h2).trans (e1 q (by omega))⟩
theorem qi_F.sub {fs : List Value} {P P2 : ql_H → Prop} {g1 g2 : ql_H} {c2 : Nat} (F : qi_F h g b fs c P) (e1 : ∀ q, q ≠ c → g1.2 q = g.2 q) (n2 : g2.1 = c2) (e2 : ∀ q, q < c → g2.2 q = g1.2 q) (cc : c ≤ c2) (K : ∀ g' : ql_H, (∀ q, c ≤ q → q < c2 → g'.2 q = g2.2 q) → P2 g') : qi_F h g2 b fs c2 (fun g' => P g' ∧ P2 g') := by
  obtain ⟨⟨bc, n⟩, c0, lo, P0⟩ := F
  have e : ∀ q, q < c → g2.2 q = g.2 q := fun q hq => (e2 q hq).trans (e1 q (Nat.ne_of_lt hq))
  exact ⟨⟨Nat.lt_of_lt_of_le bc cc, n2⟩, (e b bc).trans c0, fun q hq => (e q (by omega)).trans (lo q hq), fun g' eg => ⟨P0 g' fun q h1 h2 => (eg q h1 (by omega)).trans (e q h2), K g' fun q h1 h2 => eg q (by omega) h2⟩⟩
def qa_S0 : qa_S := (qa_0, [], none, [], -1, -1, [])
theorem qe_X11_init (hd : h.2 b = some (.inr (12, [.null, .null, .int 0, .null, .null, .int 0, .int 0, .null, .null, .null, .null]))) (hn : h.1 = b + 1) (k : ∀ h1, (∀ g, (∀ q, q < b + 780 → g.2 q = h1.2 q) → b + 792 ≤ g.1 → qx_at σ g b qa_S0 none) → h1.1 = b + 780 → (∀ q, q < b → h1.2 q = h.2 q) → Q h1) : qw_X11_init σ b h Q := by
  unfold qw_X11_init
  have F : qi_F h h b [.null, .null, .int 0, .null, .null, .int 0, .int 0, .null, .null, .null, .null] (b + 1) (fun _ => True) := ⟨⟨Nat.lt_succ_self b, hn⟩, hd, fun _ _ => rfl, fun _ _ => trivial⟩
  clear hd hn
  refine qi_nw (a := b + 1) F.1.2 fun g1 a1 n1 e1 => ?_
  refine qi_nn (qe_X1_init a1 n1 fun g2 K n2 e2 => ?_)
  replace F := F.sub (c2 := b + 68) (P2 := fun g' => qb_at g' (b + 1) qb_0) e1 (n2.trans (by omega)) e2 (by omega) fun g' e => K.kept fun q h1 h2 => e q h1 (by omega)
  clear a1 n1 e1 K n2 e2
  refine F.pV (Nat.le_of_ble_eq_true rfl) [.ref (b + 1), .null, .int 0, .null, .null, .int 0, .int 0, .null, .null, .null, .null] rfl fun g3 F => ?_
  refine qi_nw (a := b + 68) F.1.2 fun g1 a1 n1 e1 => ?_
  refine qi_nn (qe_X1_init a1 n1 fun g2 K n2 e2 => ?_)
  replace F := F.sub (c2 := b + 135) (P2 := fun g' => qb_at g' (b + 68) qb_0) e1 (n2.trans (by omega)) e2 (by omega) fun g' e => K.kept fun q h1 h2 => e q h1 (by omega)
  clear a1 n1 e1 K n2 e2
  refine F.pV (Nat.le_of_ble_eq_true rfl) [.ref (b + 1), .ref (b + 68), .int 0, .null, .null, .int 0, .int 0, .null, .null, .null, .null] rfl fun g3 F => ?_
  refine F.pV (Nat.le_of_ble_eq_true rfl) [.ref (b + 1), .ref (b + 68), .int 0, .null, .null, .int 0, .int 0, .null, .null, .null, .null] rfl fun g3 F => ?_
  refine qi_nw (a := b + 135) F.1.2 fun g1 a1 n1 e1 => ?_
  refine qi_nn (qe_X6_init a1 n1 fun g2 K n2 e2 => ?_)
  replace F := F.sub (c2 := b + 740) (P2 := fun g' => qn_at g' (b + 135) (fun _ => qb_0) (fun j => j + 1) 0 0 0) e1 (n2.trans (by omega)) e2 (by omega) fun g' e => K.kept fun q h1 h2 => e q h1 (by omega)
  clear a1 n1 e1 K n2 e2
  refine F.pV (Nat.le_of_ble_eq_true rfl) [.ref (b + 1), .ref (b + 68), .int 0, .ref (b + 135), .null, .int 0, .int 0, .null, .null, .null, .null] rfl fun g3 F => ?_
  refine qi_nw (a := b + 740) F.1.2 fun g1 a1 n1 e1 => ?_
  refine qi_nn (qe_X8_init a1 n1 fun g2 K n2 e2 => ?_)
  replace F := F.sub (c2 := b + 756) (P2 := fun g' => qs_at σ g' (b + 740) (b + 740 + 2) 16 [] (fun _ => (8, 0, 0, 97)) 0 0) e1 (n2.trans (by omega)) e2 (by omega) fun g' e => K.kept (fun q h1 h2 => e q h1 (by omega)) (e _ (by omega) (by omega))
  clear a1 n1 e1 K n2 e2
  refine F.pV (Nat.le_of_ble_eq_true rfl) [.ref (b + 1), .ref (b + 68), .int 0, .ref (b + 135), .ref (b + 740), .int 0, .int 0, .null, .null, .null, .null] rfl fun g3 F => ?_
  refine F.pV (Nat.le_of_ble_eq_true rfl) [.ref (b + 1), .ref (b + 68), .int 0, .ref (b + 135), .ref (b + 740), .int (-1), .int 0, .null, .null, .null, .null] rfl fun g3 F => ?_
  refine F.pV (Nat.le_of_ble_eq_true rfl) [.ref (b + 1), .ref (b + 68), .int 0, .ref (b + 135), .ref (b + 740), .int (-1), .int (-1), .null, .null, .null, .null] rfl fun g3 F => ?_
  refine qi_nw (a := b + 756) F.1.2 fun g1 a1 n1 e1 => ?_
  refine qi_nn (qe_J4_init a1 n1 fun g2 K n2 e2 => ?_)
  replace F := F.sub (c2 := b + 758) (P2 := fun g' => qu_at g' (b + 756) (b + 756 + 1) 16 []) e1 (n2.trans (by omega)) e2 (by omega) fun g' e => K.kept (e _ (by omega) (by omega)) (e _ (by omega) (by omega))
  clear a1 n1 e1 K n2 e2
  refine F.pV (Nat.le_of_ble_eq_true rfl) [.ref (b + 1), .ref (b + 68), .int 0, .ref (b + 135), .ref (b + 740), .int (-1), .int (-1), .ref (b + 756), .null, .null, .null] rfl fun g3 F => ?_
  refine qi_nw (a := b + 758) F.1.2 fun g1 a1 n1 e1 => ?_
  refine qi_nn (qe_X5_init a1 n1 fun g2 K n2 e2 => ?_)
  replace F := F.sub (c2 := b + 773) (P2 := fun g' => qd_at g' (b + 758) (fun _ _ => 0)) e1 (n2.trans (by omega)) e2 (by omega) fun g' e => K.kept fun q h1 h2 => e q h1 (by omega)
  clear a1 n1 e1 K n2 e2
  refine F.pV (Nat.le_of_ble_eq_true rfl) [.ref (b + 1), .ref (b + 68), .int 0, .ref (b + 135), .ref (b + 740), .int (-1), .int (-1), .ref (b + 756), .ref (b + 758), .null, .null] rfl fun g3 F => ?_
  refine qi_nw (a := b + 773) F.1.2 fun g1 a1 n1 e1 => ?_
  refine qi_nn (qe_X10_init a1 n1 fun g2 K n2 e2 => ?_)
  replace F := F.sub (c2 := b + 776) (P2 := fun g' => qh_at g' (b + 773) (fun _ => 0) (fun _ => 0)) e1 (n2.trans (by omega)) e2 (by omega) fun g' e => K.kept fun q h1 h2 => e q h1 (by omega)
  clear a1 n1 e1 K n2 e2
  refine F.pV (Nat.le_of_ble_eq_true rfl) [.ref (b + 1), .ref (b + 68), .int 0, .ref (b + 135), .ref (b + 740), .int (-1), .int (-1), .ref (b + 756), .ref (b + 758), .ref (b + 773), .null] rfl fun g3 F => ?_
  refine qi_nw (a := b + 776) F.1.2 fun g1 a1 n1 e1 => ?_
  refine qi_nn (qe_X2_init a1 n1 fun g2 K n2 e2 => ?_)
  replace F := F.sub (c2 := b + 780) (P2 := fun g' => qg_at g' (b + 776) (fun _ => 0) (fun _ => 0) (fun _ => 0)) e1 (n2.trans (by omega)) e2 (by omega) fun g' e => K.kept fun q h1 h2 => e q h1 (by omega)
  clear a1 n1 e1 K n2 e2
  refine F.pV (Nat.le_of_ble_eq_true rfl) [.ref (b + 1), .ref (b + 68), .int 0, .ref (b + 135), .ref (b + 740), .int (-1), .int (-1), .ref (b + 756), .ref (b + 758), .ref (b + 773), .ref (b + 776)] rfl fun g3 F => ?_
  refine k g3 (fun g eg ng => ?_) F.1.2 F.2.2.1
  obtain ⟨⟨⟨⟨⟨⟨⟨⟨-, K_bk⟩, K_sn⟩, K_hi⟩, K_sc⟩, K_ou⟩, K_di⟩, K_ct⟩, K_gr⟩ := F.2.2.2 g fun q h1 h2 => eg q h2
  have c27 := (eg b (Nat.lt_add_of_pos_right (by decide))).trans F.2.1
  clear F k eg
  exact ⟨c27, ⟨⟨qb_0, K_bk, qr_0⟩, ⟨qb_0, K_sn, fun L e => by cases e⟩, ⟨fun _ => qb_0, fun j => j + 1, 0, 0, K_hi, fun i hi => absurd hi (Nat.not_lt_zero i), fun L e => by cases e⟩⟩, ⟨b + 740 + 2, b + 756 + 1, ⟨16, fun _ => (8, 0, 0, 97), 0, 0, K_sc⟩, ⟨16, K_ou⟩, by omega, Or.inl (by omega), Or.inl (by omega), by omega, by omega⟩, ⟨⟨_, K_di⟩, ⟨_, _, K_ct⟩, _, _, _, K_gr⟩, ng⟩
end QIC
