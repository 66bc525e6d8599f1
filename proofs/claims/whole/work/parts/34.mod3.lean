/-! The reference's words of notes, its copies, its changes. -/
section QK3
theorem qg_7 (j : Nat) (hj : j < 32) : qg_b 7 j = decide (j < 3) := by
  have h1 : ∀ j, j < 32 → (7 : Int32).toBitVec.getLsbD j = decide (j < 3) := by decide +kernel
  exact h1 j hj
theorem qg_a {a : Nat} (ha : a < 8) (j : Nat) (hj : j < 32) (h3 : 3 ≤ j) : qg_b (nI a) j = false := by
  have h1 : ∀ a, a < 8 → ∀ j, j < 32 → 3 ≤ j → (nI a).toBitVec.getLsbD j = false := by decide +kernel
  exact h1 a ha j hj h3
theorem qg_sl {n : Nat} (hn : n < 32) : ((nI n &&& 31).toBitVec.smod 32).toNat = n := by
  have h1 : ∀ n, n < 32 → ((nI n &&& 31).toBitVec.smod 32).toNat = n := by decide +kernel
  exact h1 n hn
theorem qg_shl {n : Nat} (hn : n < 32) (x : Int32) {i : Nat} (hi : i < 32) : qg_b (x <<< (nI n &&& 31)) i = (decide (n ≤ i) && qg_b x (i - n)) := by
  unfold qg_b
  rw [Int32.toBitVec_shiftLeft]
  show (x.toBitVec <<< ((nI n &&& 31).toBitVec.smod 32).toNat).getLsbD i = _
  rw [qg_sl hn, BitVec.getLsbD_shiftLeft]
  rcases Nat.lt_or_ge i n with h | h
  · simp [h, Nat.not_le.mpr h]
  · simp [hi, h, Nat.not_lt.mpr h]
theorem qg_shr {n : Nat} (hn : n < 32) (x : Int32) {i : Nat} (hi : i < 32) (hni : n + i < 32) : qg_b (x >>> (nI n &&& 31)) i = qg_b x (n + i) := by
  unfold qg_b
  rw [Int32.toBitVec_shiftRight]
  show (x.toBitVec.sshiftRight ((nI n &&& 31).toBitVec.smod 32).toNat).getLsbD i = _
  rw [qg_sl hn, BitVec.getLsbD_sshiftRight]
  simp [hi, hni]
theorem qk_3 (s : Nat) : (3 : Int32) * nI s = nI (3 * s) := pk_mul 3 s
theorem qk_nt_bit (w : Int32) {s : Nat} (hs : s < 6) {j : Nat} (hj : j < 32) : qg_b (qk_nt w s) j = (decide (j < 3) && qg_b w (3 * s + j)) := by
  unfold qk_nt
  rw [qg_and, qk_3, qg_7 j hj, Bool.and_comm]
  by_cases h : j < 3
  · rw [qg_shr (by omega) _ hj (by omega)]
  · rw [decide_eq_false h, Bool.false_and, Bool.false_and]
/-- any three bits are a number -/
theorem qk_nt_ex (w : Int32) (s : Nat) : ∃ a, a < 8 ∧ qk_nt w s = nI a := by
  unfold qk_nt
  rw [pk_and _ 3 rfl]
  exact ⟨_, Nat.mod_lt _ (by decide), rfl⟩
/-- a note put into a word -/
def qk_pt (w : Int32) (s : Nat) (x : Int32) : Int32 := (w &&& (((7 : Int32) <<< (((3 : Int32) * nI s) &&& 31)) ^^^ (-1 : Int32))) ||| (x <<< (((3 : Int32) * nI s) &&& 31))
theorem qk_nt_pt (w : Int32) {s t a : Nat} (hs : s < 6) (ht : t < 6) (ha : a < 8) : qk_nt (qk_pt w s (nI a)) t = if t = s then nI a else qk_nt w t := by
  refine qg_ext fun j hj => ?_
  rw [qk_nt_bit _ ht hj]
  by_cases h : j < 3
  · rw [decide_eq_true h, Bool.true_and]
    unfold qk_pt
    rw [qg_or, qg_and, qg_not _ (by omega), qk_3, qg_shl (by omega) _ (by omega), qg_shl (by omega) _ (by omega)]
    by_cases e : t = s
    · subst e
      rw [if_pos rfl, show 3 * t + j - 3 * t = j by omega, qg_7 j hj, decide_eq_true h, decide_eq_true (show 3 * t ≤ 3 * t + j by omega)]
      simp
    · rw [if_neg e, qk_nt_bit _ ht hj, decide_eq_true h, Bool.true_and]
      by_cases e2 : 3 * s ≤ 3 * t + j
      · rw [qg_7 _ (by omega), decide_eq_false (show ¬ 3 * t + j - 3 * s < 3 by omega), qg_a ha _ (by omega) (by omega)]
        simp
      · rw [decide_eq_false e2]
        simp
  · rw [decide_eq_false h, Bool.false_and]
    split
    · exact (qg_a ha j hj (by omega)).symm
    · rw [qk_nt_bit _ ht hj, decide_eq_false h, Bool.false_and]
/-- twelve notes in two words from p on -/
def qk_tx (g : Nat → Int32) (p : Nat) (nf : Nat → Nat) : Prop := ∀ q, q < 12 → nf q < 8 ∧ qk_nt (g (p + q / 6)) (q % 6) = nI (nf q)
theorem qk_tx_ex (g : Nat → Int32) (p : Nat) : ∃ nf, qk_tx g p nf :=
  ⟨fun q => (qk_nt_ex (g (p + q / 6)) (q % 6)).choose, fun q _ => (qk_nt_ex (g (p + q / 6)) (q % 6)).choose_spec⟩
theorem qk_tx.put {g : Nat → Int32} {p : Nat} {nf : Nat → Nat} (H : qk_tx g p nf) {q0 a : Nat} (h0 : q0 < 12) (ha : a < 8) : qk_tx (upd g (p + q0 / 6) (qk_pt (g (p + q0 / 6)) (q0 % 6) (nI a))) p (fun q => if q = q0 then a else nf q) := by
  intro q hq
  refine ⟨?_, ?_⟩
  · show (if q = q0 then a else nf q) < 8
    split
    · exact ha
    · exact (H q hq).1
  · by_cases e : q / 6 = q0 / 6
    · rw [e, pk_us, qk_nt_pt _ (Nat.mod_lt _ (by omega)) (Nat.mod_lt _ (by omega)) ha]
      dsimp only
      by_cases e2 : q = q0
      · rw [if_pos (by rw [e2]), if_pos e2]
      · rw [if_neg (by omega), if_neg e2, ← e]
        exact (H q hq).2
    · rw [pk_un (by omega)]
      dsimp only
      rw [if_neg (show ¬ q = q0 from fun z => e (by rw [z]))]
      exact (H q hq).2
theorem qk_tx.eq {g g2 : Nat → Int32} {p : Nat} {nf nf2 : Nat → Nat} (H : qk_tx g p nf) (e : ∀ w, p ≤ w → w < p + 2 → g2 w = g w) (e2 : ∀ q, q < 12 → nf2 q = nf q) : qk_tx g2 p nf2 := fun q hq => by
  rw [e2 q hq, e _ (by omega) (by omega)]
  exact H q hq
variable {h h1 : ql_H} {m : Nat} {M : qk_T} {L : qa_L}
/-- of two states the row g alone differs, there where P says -/
def qk_ch (M M1 : qk_T) (P : Nat → Prop) : Prop := M1.1 = M.1 ∧ (∀ k, k ≠ 0 → M1.2 k = M.2 k) ∧ ∀ i, ¬ P i → M1.2 0 i = M.2 0 i
theorem qk_ch.rf {P : Nat → Prop} : qk_ch M M P := ⟨rfl, fun _ _ => rfl, fun _ _ => rfl⟩
theorem qk_ch.tr {M1 M2 : qk_T} {P : Nat → Prop} (a : qk_ch M M1 P) (b : qk_ch M1 M2 P) : qk_ch M M2 P := ⟨b.1.trans a.1, fun k hk => (b.2.1 k hk).trans (a.2.1 k hk), fun i hi => (b.2.2 i hi).trans (a.2.2 i hi)⟩
theorem qk_ch.mono {M1 : qk_T} {P P2 : Nat → Prop} (a : qk_ch M M1 P) (h : ∀ i, P i → P2 i) : qk_ch M M1 P2 := ⟨a.1, a.2.1, fun i hi => a.2.2 i fun z => hi (h i z)⟩
theorem qk_ch.up {i : Nat} {x : Int32} {P : Nat → Prop} (h : P i) : qk_ch M (qk_sA M 0 i x) P := ⟨rfl, fun k hk => qk_sAn hk, fun j hj => by
  rw [qk_sAs, pk_un]
  exact fun z => hj (z ▸ h)⟩
theorem qe_X12_puts (H : qk_at h m M) {i v q a : Nat} (hi : i < 16) (hv : v + 2 + q / 6 < 42) (hq : q < 100) {Q : ql_H → Prop} (k : ∀ h1, qk_at h1 m (qk_sA M 0 (13 + 42 * i + (v + 2 + q / 6)) (qk_pt (M.2 0 (13 + 42 * i + (v + 2 + q / 6))) (q % 6) (nI a))) → qp_fr m (m + 10) h h1 → Q h1) : qw_X12_puts m (nI i) (nI v) (nI q) (nI (97 + a)) h Q := by
  unfold qw_X12_puts
  refine ⟨by decide, by decide, ?_⟩
  rw [qk_rv H, show (6 : Int32) = nI 6 from rfl, show (2 : Int32) = nI 2 from rfl, nI_add, pk_div (by omega) (by omega) (by omega), nI_add, pk_mul, pk_sub (Nat.div_mul_le_self _ _), show q - q / 6 * 6 = q % 6 by omega, show (97 : Int32) = nI 97 from rfl, pk_sub (by omega), show 97 + a - 97 = a by omega]
  refine qe_X12_of H hi hv ?_
  rw [qk_rv H]
  exact qe_X12_lays H hi hv k
/-- 685 numbers copied -/
theorem qe_X12_copies (H : qk_at h m M) {k1 k2 o1 o2 : Nat} (h12 : k1 ≠ k2) (l1 : o1 + 685 ≤ qk_ln k1) (l2 : o2 + 685 ≤ qk_ln k2) (b1 : k1 < 18 := by decide) (b2 : k2 < 18 := by decide) (c1 : qk_isA k1 = true := by rfl) (c2 : qk_isA k2 = true := by rfl) (d1 : qk_kd k1 = 0 := by rfl) (d2 : qk_kd k2 = 0 := by rfl) {Q : ql_H → Prop} (k : ∀ h1 M1, qk_at h1 m M1 → qp_fr m (m + 10) h h1 → M1.1 = M.1 → (∀ j, j ≠ k2 → M1.2 j = M.2 j) → (∀ i, M1.2 k2 i = if o2 ≤ i ∧ i < o2 + 685 then M.2 k1 (o1 + (i - o2)) else M.2 k2 i) → Q h1) : qw_X12_copies (some (m + qk_ad k1)) (nI o1) (some (m + qk_ad k2)) (nI o2) h Q := by
  have hL : ∀ n t hh M1, t ≤ 685 → 685 - t < n → qk_at hh m M1 → qp_fr m (m + 10) h hh → M1.1 = M.1 → (∀ j, j ≠ k2 → M1.2 j = M.2 j) → (∀ i, M1.2 k2 i = if o2 ≤ i ∧ i < o2 + t then M.2 k1 (o1 + (i - o2)) else M.2 k2 i) → qw_X12_copies_3 Q n (some (m + qk_ad k1)) (nI o1) (some (m + qk_ad k2)) (nI o2) (nI t) hh := by
    intro n
    induction n with
    | zero => intro t _ _ _ h; omega
    | succ n ih =>
      intro t hh M1 ht hm G f e1 e2 e3
      unfold qw_X12_copies_3
      by_cases e : t = 685
      · subst e
        exact qp_iT (nI_le (a := 685) (Nat.le_refl _) (by omega)) (k hh M1 G f e1 e2 e3)
      · refine qp_iF (nI_ge (a := t) (b := 685) (by omega) (by omega)) ?_
        have g1 := qk_l (K := fun x1 => ql_sI hh (some (m + qk_ad k2)) 0 (nI o2 + nI t) x1 fun h => qw_X12_copies_3 Q n (some (m + qk_ad k1)) (nI o1) (some (m + qk_ad k2)) (nI o2) (nI t + (1 : Int32)) h) G k1 (j := o1 + t) (by omega) b1 c1
        rw [d1] at g1
        rw [nI_add, g1, nI_add]
        have g2 := qk_s G k2 (i := o2 + t) (x := M1.2 k1 (o1 + t)) (K := fun h => qw_X12_copies_3 Q n (some (m + qk_ad k1)) (nI o1) (some (m + qk_ad k2)) (nI o2) (nI t + (1 : Int32)) h) (by omega) (fun h3 G3 f3 => ?_) b2 c2
        · rw [d2] at g2
          exact g2
        · show qw_X12_copies_3 Q n (some (m + qk_ad k1)) (nI o1) (some (m + qk_ad k2)) (nI o2) (nI t + (1 : Int32)) h3
          rw [nI_1]
          refine ih (t + 1) h3 _ (by omega) (by omega) G3 (f.tr f3) e1 (fun j hj => (qk_sAn hj).trans (e2 j hj)) fun i => ?_
          rw [qk_sAs, e2 k1 h12]
          by_cases e4 : i = o2 + t
          · subst e4
            rw [pk_us, if_pos (by omega), show o2 + t - o2 = t by omega]
          · rw [pk_un e4, e3 i]
            by_cases e5 : o2 ≤ i ∧ i < o2 + t
            · rw [if_pos e5, if_pos (by omega)]
            · rw [if_neg e5, if_neg (by omega)]
  exact hL ql_FU 0 h M (by omega) (by unfold ql_FU; omega) H qp_fr.rf rfl (fun _ _ => rfl) fun i => by rw [if_neg (by omega)]
/-- the books kept, the eldest first -/
def qk_P (M : qk_T) (P : List qa_L) : Prop := P.length ≤ 8 ∧ M.1 5 = nI P.length ∧ ∀ j (hj : j < P.length), qk_G (fun w => M.2 1 (685 * j + w)) P[j]
def qa_push (P : List qa_L) (L : qa_L) : List qa_L := (P ++ [L]).drop (P.length - 7)
theorem qa_push_lt {P : List qa_L} (h : P.length < 8) : qa_push P L = P ++ [L] := by
  unfold qa_push
  rw [show P.length - 7 = 0 by omega, List.drop_zero]
theorem qa_push_8 {P : List qa_L} (h : P.length = 8) : qa_push P L = P.tail ++ [L] := by
  cases P with
  | nil => cases h
  | cons a P =>
    unfold qa_push
    rw [h]
    rfl
/-- within a script nothing is kept -/
theorem qe_X12_keeps1 (H : qk_at h m M) (h6 : M.1 6 ≠ 0) {r : Option Nat} {Q : ql_H → Prop} (k : ∀ h1, qk_at h1 m (qk_sI M 7 0) → qp_fr m (m + 10) h h1 → Q h1) : qw_X12_keeps m r h Q := by
  unfold qw_X12_keeps
  refine qk_p H 7 fun h1 H1 f1 => ?_
  rw [qk_f H1 6]
  exact qp_iF h6 (k h1 H1 f1)
theorem qe_X12_keeps0 (H : qk_at h m M) (h6 : M.1 6 = 0) {P : List qa_L} (HP : qk_P M P) {k0 : Nat} (hk0 : k0 = 0 ∨ k0 = 3) (R : qk_G (M.2 k0) L) {Q : ql_H → Prop} (k : ∀ h1 M1, qk_at h1 m M1 → qp_fr m (m + 10) h h1 → qk_P M1 (qa_push P L) → M1.1 7 = 0 → (∀ j, j ≠ 5 → j ≠ 7 → M1.1 j = M.1 j) → (∀ j, j ≠ 1 → M1.2 j = M.2 j) → Q h1) : qw_X12_keeps m (some (m + qk_ad k0)) h Q := by
  have last : ∀ hh M0 (P0 : List qa_L), qk_at hh m M0 → qp_fr m (m + 10) h hh → P0.length < 8 → qk_P M0 P0 → M0.1 7 = 0 → (∀ j, j ≠ 5 → j ≠ 7 → M0.1 j = M.1 j) → (∀ j, j ≠ 1 → M0.2 j = M.2 j) → qa_push P L = P0 ++ [L] → qw_X12_keeps_63 m Q (some (m + qk_ad k0)) hh := by
    intro hh M0 P0 G f hl HP0 e7 e1 e2 ep
    unfold qw_X12_keeps_63
    rw [qk_rk G, qk_f G 5, HP0.2.1, show (685 : Int32) = nI 685 from rfl, pk_mul]
    have c0 : ∀ {Q : ql_H → Prop}, (∀ h1 M1, qk_at h1 m M1 → qp_fr m (m + 10) hh h1 → M1.1 = M0.1 → (∀ j, j ≠ 1 → M1.2 j = M0.2 j) → (∀ i, M1.2 1 i = if 685 * P0.length ≤ i ∧ i < 685 * P0.length + 685 then M0.2 k0 (0 + (i - 685 * P0.length)) else M0.2 1 i) → Q h1) → qw_X12_copies (some (m + qk_ad k0)) (nI 0) (some (m + qk_ad 1)) (nI (685 * P0.length)) hh Q := by
      intro Q kk
      rcases hk0 with rfl | rfl
      · exact qe_X12_copies G (k1 := 0) (k2 := 1) (by decide) (by decide) (by show 685 * P0.length + 685 ≤ 5480; omega) (k := kk)
      · exact qe_X12_copies G (k1 := 3) (k2 := 1) (by decide) (by decide) (by show 685 * P0.length + 685 ≤ 5480; omega) (k := kk)
    refine c0 fun h1 M1 G1 f1 a1 a2 a3 => ?_
    rw [qk_f G1 5, a1, HP0.2.1, nI_1]
    refine qk_p G1 5 fun h2 G2 f2 => ?_
    refine k h2 _ G2 (f.tr (f1.tr f2)) ?_ ?_ (fun j h5 h7 => ?_) fun j hj => (a2 j hj).trans (e2 j hj)
    · rw [ep]
      refine ⟨by rw [List.length_append]; exact hl, ?_, fun j hj => ?_⟩
      · skip
        rw [qk_sI_s, List.length_append]
        rfl
      · show qk_G (fun w => M1.2 1 (685 * j + w)) (P0 ++ [L])[j]
        rw [List.length_append] at hj
        have hj1 : j < P0.length + 1 := hj
        by_cases e : j = P0.length
        · subst e
          rw [List.getElem_append_right (Nat.le_refl _)]
          simp only [Nat.sub_self, List.getElem_cons_zero]
          refine (e2 k0 (by omega) ▸ R : qk_G (M0.2 k0) L).eq fun w hw => ?_
          rw [a3, if_pos (by omega), show 0 + (685 * P0.length + w - 685 * P0.length) = w by omega]
        · rw [List.getElem_append_left (by omega)]
          refine (HP0.2.2 j (by omega)).eq fun w hw => ?_
          rw [a3, if_neg (by omega)]
    · skip
      rw [qk_sI_n (by decide), a1, e7]
    · skip
      rw [qk_sI_n h5, a1, e1 j h5 h7]
  unfold qw_X12_keeps
  refine qk_p H 7 fun h1 H1 f1 => ?_
  rw [qk_f H1 6]
  refine qp_iT h6 ?_
  rw [qk_f H1 5, show (qk_sI M 7 0).1 5 = nI P.length from HP.2.1]
  have E1 : ∀ j, j ≠ 5 → j ≠ 7 → (qk_sI M 7 0).1 j = M.1 j := fun j _ h7 => qk_sI_n h7
  by_cases e8 : P.length = 8
  · refine qp_iT (by rw [e8]; rfl) ?_
    have hL : ∀ n t hh M1, t ≤ 4795 → 4795 - t < n → qk_at hh m M1 → qp_fr m (m + 10) h hh → M1.1 = (qk_sI M 7 0).1 → (∀ j, j ≠ 1 → M1.2 j = M.2 j) → (∀ i, M1.2 1 i = if i < t then M.2 1 (i + 685) else M.2 1 i) → qw_X12_keeps_24 m Q n (some (m + qk_ad k0)) (nI t) hh := by
      intro n
      induction n with
      | zero => intro t _ _ _ h; omega
      | succ n ih =>
        intro t hh M1 ht hm G f a1 a2 a3
        unfold qw_X12_keeps_24
        by_cases e : t = 4795
        · subst e
          refine qp_iT (nI_le (a := 4795) (Nat.le_refl _) (by omega)) ?_
          rw [qk_f G 5, a1, show (qk_sI M 7 0).1 5 = nI (7 + 1) from HP.2.1.trans (by rw [e8]), nI_pred]
          refine qk_p G 5 fun h2 G2 f2 => ?_
          obtain ⟨A, P1, rfl⟩ : ∃ A P1, P = A :: P1 := by
            cases P with
            | nil => cases e8
            | cons A P1 => exact ⟨A, P1, rfl⟩
          have hl : P1.length = 7 := Nat.succ.inj e8
          refine last h2 _ P1 G2 (f.tr f2) (by omega) ⟨by omega, ?_, fun j hj => ?_⟩ ?_ (fun j h5 h7 => ?_) (fun j hj => a2 j hj) (by rw [qa_push_8 e8]; rfl)
          · skip
            rw [qk_sI_s, hl]
          · show qk_G (fun w => M1.2 1 (685 * j + w)) P1[j]
            refine (HP.2.2 (j + 1) (Nat.succ_lt_succ hj)).eq fun w hw => ?_
            rw [a3, if_pos (by omega), show 685 * j + w + 685 = 685 * (j + 1) + w by omega]
          · skip
            rw [qk_sI_n (by decide), a1]
            exact qk_sI_s
          · skip
            rw [qk_sI_n h5, a1]
            exact E1 j h5 h7
        · refine qp_iF (nI_ge (a := t) (b := 4795) (by omega) (by omega)) ?_
          rw [qk_rk G, qk_rk G, show (685 : Int32) = nI 685 from rfl, nI_add, qk_lk G (by omega)]
          refine qk_sk G (by omega) fun h2 G2 f2 => ?_
          rw [nI_1]
          refine ih (t + 1) h2 _ (by omega) (by omega) G2 (f.tr f2) a1 (fun j hj => (qk_sAn hj).trans (a2 j hj)) fun i => ?_
          rw [qk_sAs, a3 (t + 685), if_neg (by omega)]
          by_cases e4 : i = t
          · subst e4
            rw [pk_us, if_pos (by omega)]
          · rw [pk_un e4, a3 i]
            by_cases e5 : i < t
            · rw [if_pos e5, if_pos (by omega)]
            · rw [if_neg e5, if_neg (by omega)]
    exact hL ql_FU 0 h1 _ (by omega) (by unfold ql_FU; omega) H1 f1 rfl (fun _ _ => rfl) fun i => by rw [if_neg (Nat.not_lt_zero i)]; rfl
  · have hl8 := HP.1
    refine qp_iF (fun z => e8 ((nI_eq (b := 8) (by omega) (by omega)).mp z)) ?_
    exact last h1 _ P H1 f1 (by omega) HP qk_sI_s E1 (fun _ _ => rfl) (qa_push_lt (by omega))
end QK3
