/-! How the reference begins; the law from its first call to its last. -/
section QIN
variable {σ : Nat → Nat} {h h1 g : ql_H} {a b c o p n N L9 a0 : Nat} {Q : ql_H → Prop}
/-! the reference -/
def qk_0 : qk_T := (fun j => if j = 10 then -1 else if j = 11 then -1 else 0, fun _ _ => 0)
theorem qe_X12_init {m : Nat} (hd : h.2 m = some (.inr (13, [.null, .null, .null, .null, .int 0, .int 0, .int 0, .int 0, .null, .int 0, .int 0, .int 0, .null, .int 0, .null, .null, .int 0, .null, .int 0]))) (hn : h.1 = m + 1) (k : ∀ h1, qk_at h1 m qk_0 → h1.1 = m + 10 → (∀ q, q < m → h1.2 q = h.2 q) → Q h1) : qw_X12_init m h Q := by
  unfold qw_X12_init
  refine qi_nw (a := m + 1) (by omega) fun g1 a1 n1 e1 => ?_
  refine qi_pV ((e1 m (by omega)).trans hd) (Nat.le_of_ble_eq_true rfl) [.ref (m + 1), .null, .null, .null, .int 0, .int 0, .int 0, .int 0, .null, .int 0, .int 0, .int 0, .null, .int 0, .null, .null, .int 0, .null, .int 0] rfl fun g2 c2 n2 e2 => ?_
  refine qi_nw (a := m + 2) (by omega) fun g3 a3 n3 e3 => ?_
  refine qi_pV ((e3 m (by omega)).trans c2) (Nat.le_of_ble_eq_true rfl) [.ref (m + 1), .ref (m + 2), .null, .null, .int 0, .int 0, .int 0, .int 0, .null, .int 0, .int 0, .int 0, .null, .int 0, .null, .null, .int 0, .null, .int 0] rfl fun g4 c4 n4 e4 => ?_
  refine qi_nw (a := m + 3) (by omega) fun g5 a5 n5 e5 => ?_
  refine qi_pV ((e5 m (by omega)).trans c4) (Nat.le_of_ble_eq_true rfl) [.ref (m + 1), .ref (m + 2), .ref (m + 3), .null, .int 0, .int 0, .int 0, .int 0, .null, .int 0, .int 0, .int 0, .null, .int 0, .null, .null, .int 0, .null, .int 0] rfl fun g6 c6 n6 e6 => ?_
  refine qi_nw (a := m + 4) (by omega) fun g7 a7 n7 e7 => ?_
  refine qi_pV ((e7 m (by omega)).trans c6) (Nat.le_of_ble_eq_true rfl) [.ref (m + 1), .ref (m + 2), .ref (m + 3), .ref (m + 4), .int 0, .int 0, .int 0, .int 0, .null, .int 0, .int 0, .int 0, .null, .int 0, .null, .null, .int 0, .null, .int 0] rfl fun g8 c8 n8 e8 => ?_
  refine qi_nw (a := m + 5) (by omega) fun g9 a9 n9 e9 => ?_
  refine qi_pV ((e9 m (by omega)).trans c8) (Nat.le_of_ble_eq_true rfl) [.ref (m + 1), .ref (m + 2), .ref (m + 3), .ref (m + 4), .int 0, .int 0, .int 0, .int 0, .ref (m + 5), .int 0, .int 0, .int 0, .null, .int 0, .null, .null, .int 0, .null, .int 0] rfl fun g10 c10 n10 e10 => ?_
  refine qi_pV c10 (Nat.le_of_ble_eq_true rfl) [.ref (m + 1), .ref (m + 2), .ref (m + 3), .ref (m + 4), .int 0, .int 0, .int 0, .int 0, .ref (m + 5), .int 0, .int (-1), .int 0, .null, .int 0, .null, .null, .int 0, .null, .int 0] rfl fun g11 c11 n11 e11 => ?_
  refine qi_pV c11 (Nat.le_of_ble_eq_true rfl) [.ref (m + 1), .ref (m + 2), .ref (m + 3), .ref (m + 4), .int 0, .int 0, .int 0, .int 0, .ref (m + 5), .int 0, .int (-1), .int (-1), .null, .int 0, .null, .null, .int 0, .null, .int 0] rfl fun g12 c12 n12 e12 => ?_
  refine qi_nw (a := m + 6) (by omega) fun g13 a13 n13 e13 => ?_
  refine qi_pV ((e13 m (by omega)).trans c12) (Nat.le_of_ble_eq_true rfl) [.ref (m + 1), .ref (m + 2), .ref (m + 3), .ref (m + 4), .int 0, .int 0, .int 0, .int 0, .ref (m + 5), .int 0, .int (-1), .int (-1), .ref (m + 6), .int 0, .null, .null, .int 0, .null, .int 0] rfl fun g14 c14 n14 e14 => ?_
  refine qi_nw (a := m + 7) (by omega) fun g15 a15 n15 e15 => ?_
  refine qi_pV ((e15 m (by omega)).trans c14) (Nat.le_of_ble_eq_true rfl) [.ref (m + 1), .ref (m + 2), .ref (m + 3), .ref (m + 4), .int 0, .int 0, .int 0, .int 0, .ref (m + 5), .int 0, .int (-1), .int (-1), .ref (m + 6), .int 0, .ref (m + 7), .null, .int 0, .null, .int 0] rfl fun g16 c16 n16 e16 => ?_
  refine qi_nw (a := m + 8) (by omega) fun g17 a17 n17 e17 => ?_
  refine qi_pV ((e17 m (by omega)).trans c16) (Nat.le_of_ble_eq_true rfl) [.ref (m + 1), .ref (m + 2), .ref (m + 3), .ref (m + 4), .int 0, .int 0, .int 0, .int 0, .ref (m + 5), .int 0, .int (-1), .int (-1), .ref (m + 6), .int 0, .ref (m + 7), .ref (m + 8), .int 0, .null, .int 0] rfl fun g18 c18 n18 e18 => ?_
  refine qi_nw (a := m + 9) (by omega) fun g19 a19 n19 e19 => ?_
  refine qi_pV ((e19 m (by omega)).trans c18) (Nat.le_of_ble_eq_true rfl) [.ref (m + 1), .ref (m + 2), .ref (m + 3), .ref (m + 4), .int 0, .int 0, .int 0, .int 0, .ref (m + 5), .int 0, .int (-1), .int (-1), .ref (m + 6), .int 0, .ref (m + 7), .ref (m + 8), .int 0, .ref (m + 9), .int 0] rfl fun g20 c20 n20 e20 => ?_
  refine k g20 ⟨c20, fun j hj ha => ?_⟩ (by omega) fun q hq => ((e20 _ (by omega)).trans ((e19 _ (by omega)).trans ((e18 _ (by omega)).trans ((e17 _ (by omega)).trans ((e16 _ (by omega)).trans ((e15 _ (by omega)).trans ((e14 _ (by omega)).trans ((e13 _ (by omega)).trans ((e12 _ (by omega)).trans ((e11 _ (by omega)).trans ((e10 _ (by omega)).trans ((e9 _ (by omega)).trans ((e8 _ (by omega)).trans ((e7 _ (by omega)).trans ((e6 _ (by omega)).trans ((e5 _ (by omega)).trans ((e4 _ (by omega)).trans ((e3 _ (by omega)).trans ((e2 _ (by omega)).trans (e1 _ (by omega)))))))))))))))))))))
  have : j = 0 ∨ j = 1 ∨ j = 2 ∨ j = 3 ∨ j = 8 ∨ j = 12 ∨ j = 14 ∨ j = 15 ∨ j = 17 := by
    revert ha
    revert j
    decide
  rcases this with z | z | z | z | z | z | z | z | z <;> subst z
  · show g20.2 (m + 1) = _
    exact ((e20 _ (by omega)).trans ((e19 _ (by omega)).trans ((e18 _ (by omega)).trans ((e17 _ (by omega)).trans ((e16 _ (by omega)).trans ((e15 _ (by omega)).trans ((e14 _ (by omega)).trans ((e13 _ (by omega)).trans ((e12 _ (by omega)).trans ((e11 _ (by omega)).trans ((e10 _ (by omega)).trans ((e9 _ (by omega)).trans ((e8 _ (by omega)).trans ((e7 _ (by omega)).trans ((e6 _ (by omega)).trans ((e5 _ (by omega)).trans ((e4 _ (by omega)).trans ((e3 _ (by omega)).trans ((e2 _ (by omega)).trans a1)))))))))))))))))))
  · show g20.2 (m + 2) = _
    exact ((e20 _ (by omega)).trans ((e19 _ (by omega)).trans ((e18 _ (by omega)).trans ((e17 _ (by omega)).trans ((e16 _ (by omega)).trans ((e15 _ (by omega)).trans ((e14 _ (by omega)).trans ((e13 _ (by omega)).trans ((e12 _ (by omega)).trans ((e11 _ (by omega)).trans ((e10 _ (by omega)).trans ((e9 _ (by omega)).trans ((e8 _ (by omega)).trans ((e7 _ (by omega)).trans ((e6 _ (by omega)).trans ((e5 _ (by omega)).trans ((e4 _ (by omega)).trans a3)))))))))))))))))
  · show g20.2 (m + 3) = _
    exact ((e20 _ (by omega)).trans ((e19 _ (by omega)).trans ((e18 _ (by omega)).trans ((e17 _ (by omega)).trans ((e16 _ (by omega)).trans ((e15 _ (by omega)).trans ((e14 _ (by omega)).trans ((e13 _ (by omega)).trans ((e12 _ (by omega)).trans ((e11 _ (by omega)).trans ((e10 _ (by omega)).trans ((e9 _ (by omega)).trans ((e8 _ (by omega)).trans ((e7 _ (by omega)).trans ((e6 _ (by omega)).trans a5)))))))))))))))
  · show g20.2 (m + 4) = _
    exact ((e20 _ (by omega)).trans ((e19 _ (by omega)).trans ((e18 _ (by omega)).trans ((e17 _ (by omega)).trans ((e16 _ (by omega)).trans ((e15 _ (by omega)).trans ((e14 _ (by omega)).trans ((e13 _ (by omega)).trans ((e12 _ (by omega)).trans ((e11 _ (by omega)).trans ((e10 _ (by omega)).trans ((e9 _ (by omega)).trans ((e8 _ (by omega)).trans a7)))))))))))))
  · show g20.2 (m + 5) = _
    exact ((e20 _ (by omega)).trans ((e19 _ (by omega)).trans ((e18 _ (by omega)).trans ((e17 _ (by omega)).trans ((e16 _ (by omega)).trans ((e15 _ (by omega)).trans ((e14 _ (by omega)).trans ((e13 _ (by omega)).trans ((e12 _ (by omega)).trans ((e11 _ (by omega)).trans ((e10 _ (by omega)).trans a9)))))))))))
  · show g20.2 (m + 6) = _
    exact ((e20 _ (by omega)).trans ((e19 _ (by omega)).trans ((e18 _ (by omega)).trans ((e17 _ (by omega)).trans ((e16 _ (by omega)).trans ((e15 _ (by omega)).trans ((e14 _ (by omega)).trans a13)))))))
  · show g20.2 (m + 7) = _
    exact ((e20 _ (by omega)).trans ((e19 _ (by omega)).trans ((e18 _ (by omega)).trans ((e17 _ (by omega)).trans ((e16 _ (by omega)).trans a15)))))
  · show g20.2 (m + 8) = _
    exact ((e20 _ (by omega)).trans ((e19 _ (by omega)).trans ((e18 _ (by omega)).trans a17)))
  · show g20.2 (m + 9) = _
    exact ((e20 _ (by omega)).trans a19)
theorem qk_all0 : qk_all qk_0 qa_S0 := by
  have g0 : qk_G (fun _ => 0) qa_0 := by
    refine ⟨⟨Nat.zero_le _, rfl, rfl, rfl, rfl, rfl, rfl, rfl⟩, fun e he hE t h1 h2 h3 => ?_, fun k hk => absurd hk (Nat.not_lt_zero k)⟩
    have : e = 0 := ((nI_eq (a := 0) (b := e) (by omega) (by omega)).mp hE).symm
    omega
  exact ⟨⟨g0, ⟨Nat.zero_le _, rfl, fun j hj => absurd hj (Nat.not_lt_zero j)⟩, rfl, rfl⟩, ⟨Nat.zero_le _, rfl, fun j hj => absurd hj (Nat.not_lt_zero j)⟩, ⟨rfl, rfl⟩, Nat.zero_le _, rfl, fun j hj => absurd hj (Nat.not_lt_zero j)⟩
theorem qi_0 : qi_S qa_S0 0 :=
  ⟨⟨⟨⟨List.Pairwise.nil, ⟨List.Pairwise.nil, fun A hA => absurd hA List.not_mem_nil⟩, fun A hA => absurd hA List.not_mem_nil⟩, ⟨0, Nat.zero_le _, rfl⟩, ⟨0, Nat.zero_le _, rfl⟩, 0, Nat.zero_le _, rfl⟩, fun L hL => absurd hL List.not_mem_nil, fun L e => by cases e⟩, ⟨Nat.zero_le _, fun c hc => absurd hc List.not_mem_nil⟩, ⟨Or.inl rfl, Or.inl rfl⟩, Nat.zero_le _, fun c hc => absurd hc List.not_mem_nil⟩
/-! the law -/
set_option maxRecDepth 100000 in
theorem qe_L_loop {xs9 : Nat → Int32} {Q : Int32 → ql_H → Prop} {X : String → ql_H → Prop} (hL : L9 ≤ 2048) (kQ : ∀ h, Q 1 h) : ∀ (n t : Nat) (h : ql_H) (M : qk_T) (S : qa_S), n + t = 513 → t ≤ 512 → qy_at σ h b M S → qi_S S (13 * t) → qw_L_law_28 σ L9 xs9 a0 Q X n (some b) (some (b + 780)) (some (b + 790)) (some (b + 791)) (nI (4 * t)) h := by
  intro n
  induction n with
  | zero => intro t _ _ _ h1 h2; omega
  | succ n ih =>
    intro t h M S h1 h2 W I
    unfold qw_L_law_28
    refine qp_if (fun _ => ⟨ql_nz1, kQ h⟩) fun z => ?_
    have hi : 4 * t + 4 ≤ L9 := by
      rcases Nat.lt_or_ge L9 (4 * t + 4) with y | y
      · refine absurd (Int32.lt_iff_toInt_lt.mpr ?_) z
        rw [show (4 : Int32) = nI 4 from rfl, pk_sub_toInt (by omega) (by omega), nI_toInt (by omega)]
        omega
      · exact y
    refine ⟨vp_in_nI (by omega) (by omega), ?_⟩
    have hN : 13 * t + 13 < 2 ^ 20 := by omega
    have hk : qy_c σ b (13 * t) (4 * t) (qw_L_law_28 σ L9 xs9 a0 Q X n) := fun h3 M3 S3 W3 I3 => by
      rw [show nI (4 * t) + (4 : Int32) = nI (4 * (t + 1)) from nI_add (4 * t) 4]
      exact ih (t + 1) h3 M3 S3 (by omega) (by omega) W3 I3
    generalize (xs9 (nI (4 * t)).toNatClampNeg) &&& (63 : Int32) = v
    refine qp_if (fun _ => qc_0 W I hN hi hL hk) fun _ => ?_
    refine qp_if (fun _ => qc_1 W I hN hi hL hk) fun _ => ?_
    refine qp_if (fun _ => qc_2 W I hN hi hL hk) fun _ => ?_
    refine qp_if (fun _ => qc_3 W I hN hi hL hk) fun _ => ?_
    refine qp_if (fun _ => qc_4 W I hN hi hL hk) fun _ => ?_
    refine qp_if (fun _ => qc_5 W I hN hi hL hk) fun _ => ?_
    refine qp_if (fun _ => qc_6 W I hN hi hL hk) fun _ => ?_
    refine qp_if (fun _ => qc_7 W I hN hi hL hk) fun _ => ?_
    refine qp_if (fun _ => qc_8 W I hN hi hL hk) fun _ => ?_
    refine qp_if (fun _ => qc_9 W I hN hi hL hk) fun _ => ?_
    refine qp_if (fun _ => qc_10 W I hN hi hL hk) fun _ => ?_
    refine qp_if (fun _ => qc_11 W I hN hi hL hk) fun _ => ?_
    refine qp_if (fun _ => qc_12 W I hN hi hL hk) fun _ => ?_
    refine qp_if (fun _ => qc_13 W I hN hi hL hk) fun _ => ?_
    refine qp_if (fun _ => qc_14 W I hN hi hL hk) fun _ => ?_
    refine qp_if (fun _ => qc_15 W I hN hi hL hk) fun _ => ?_
    refine qp_if (fun _ => qc_16 W I hN hi hL hk) fun _ => ?_
    refine qp_if (fun _ => qc_17 W I hN hi hL hk) fun _ => ?_
    refine qp_if (fun _ => qc_18 W I hN hi hL hk) fun _ => ?_
    refine qp_if (fun _ => qc_19 W I hN hi hL hk) fun _ => ?_
    refine qp_if (fun _ => qc_20 W I hN hi hL hk) fun _ => ?_
    refine qp_if (fun _ => qc_21 W I hN hi hL hk) fun _ => ?_
    refine qp_if (fun _ => qc_22 W I hN hi hL hk) fun _ => ?_
    refine qp_if (fun _ => qc_23 W I hN hi hL hk) fun _ => ?_
    refine qp_if (fun _ => qc_24 W I hN hi hL hk) fun _ => ?_
    refine qp_if (fun _ => qc_25 W I hN hi hL hk) fun _ => ?_
    refine qp_if (fun _ => qc_26 W I hN hi hL hk) fun _ => ?_
    refine qp_if (fun _ => qc_27 W I hN hi hL hk) fun _ => ?_
    refine qp_if (fun _ => qc_28 W I hN hi hL hk) fun _ => ?_
    refine qp_if (fun _ => qc_29 W I hN hi hL hk) fun _ => ?_
    refine qp_if (fun _ => qc_30 W I hN hi hL hk) fun _ => ?_
    refine qp_if (fun _ => qc_31 W I hN hi hL hk) fun _ => ?_
    refine qp_if (fun _ => qc_32 W I hN hi hL hk) fun _ => ?_
    refine qp_if (fun _ => qc_33 W I hN hi hL hk) fun _ => ?_
    refine qp_if (fun _ => qc_34 W I hN hi hL hk) fun _ => ?_
    refine qp_if (fun _ => qc_35 W I hN hi hL hk) fun _ => ?_
    refine qp_if (fun _ => qc_36 W I hN hi hL hk) fun _ => ?_
    refine qp_if (fun _ => qc_37 W I hN hi hL hk) fun _ => ?_
    refine qp_if (fun _ => qc_38 W I hN hi hL hk) fun _ => ?_
    refine qp_if (fun _ => qc_39 W I hN hi hL hk) fun _ => ?_
    refine qp_if (fun _ => qc_40 W I hN hi hL hk) fun _ => ?_
    refine qp_if (fun _ => qc_41 W I hN hi hL hk) fun _ => ?_
    refine qp_if (fun _ => qc_42 W I hN hi hL hk) fun _ => ?_
    refine qp_if (fun _ => qc_43 W I hN hi hL hk) fun _ => ?_
    refine qp_if (fun _ => qc_44 W I hN hi hL hk) fun _ => ?_
    refine qp_if (fun _ => qc_45 W I hN hi hL hk) fun _ => ?_
    refine qp_if (fun _ => qc_46 W I hN hi hL hk) fun _ => ?_
    refine qp_if (fun _ => qc_47 W I hN hi hL hk) fun _ => ?_
    refine qp_if (fun _ => qc_48 W I hN hi hL hk) fun _ => ?_
    refine qp_if (fun _ => qc_49 W I hN hi hL hk) fun _ => ?_
    refine qp_if (fun _ => qc_50 W I hN hi hL hk) fun _ => ?_
    refine qp_if (fun _ => qc_51 W I hN hi hL hk) fun _ => ?_
    refine qp_if (fun _ => qc_52 W I hN hi hL hk) fun _ => ?_
    refine qp_if (fun _ => qc_53 W I hN hi hL hk) fun _ => ?_
    exact hk h M S W (I.mono (by omega))
theorem qe_L_law {xs9 : Nat → Int32} {Q : Int32 → ql_H → Prop} {X : String → ql_H → Prop} (hL : L9 ≤ 2048) (kQ : ∀ h, Q 1 h) : qw_L_law σ L9 xs9 a0 h Q X := by
  unfold qw_L_law
  refine qi_nw (a := h.1) rfl fun g1 a1 n1 e1 => ?_
  refine qi_nn (qe_X11_init a1 n1 fun g2 K2 n2 e2 => ?_)
  refine qi_nw (a := h.1 + 780) n2 fun g3 a3 n3 e3 => ?_
  refine qi_nn (qe_X12_init a3 n3 fun g4 K4 n4 e4 => ?_)
  refine qi_nw (a := h.1 + 790) (by omega) fun g5 a5 n5 e5 => ?_
  refine qi_nw (a := h.1 + 791) (by omega) fun g6 a6 n6 e6 => ?_
  have W : qy_at σ g6 h.1 qk_0 qa_S0 := ⟨K2 g6 (fun q hq => (e6 _ (by omega)).trans ((e5 _ (by omega)).trans ((e4 _ (by omega)).trans (e3 _ (by omega))))) (by omega), ⟨K4.kept fun q h1 h2 => (e6 _ (by omega)).trans (e5 _ (by omega)), qk_all0⟩, ⟨_, (e6 _ (by omega)).trans a5⟩, _, a6⟩
  exact qe_L_loop hL kQ 513 0 g6 _ _ rfl (Nat.zero_le _) W qi_0
end QIN
