/-! The reference's reading of a whole script; its commands carried out. -/
section QKX
variable {h hh h1 : ql_H} {m n p N : Nat} {M MM M1 : qk_T} {l : List Nat} {σ : Nat → Nat} {L : qa_L} {S : qa_S} {P : List qa_L}
theorem qz_cmd_end (l : List Nat) : qz_cmd l l.length = (false, l.length, 0, 0, 0, 0) := by
  have e : qz_key l l.length qz_kw 0 0 = (none, l.length) := by
    refine qz_key_none qz_kw 0 fun w hw => ⟨?_, (qz_kw_ch w hw).2⟩
    cases w with
    | nil => rfl
    | cons c w => exact qz_cs_no qz_is_end
  unfold qz_cmd
  rw [e]
theorem qz_key_adv (hp : p ≤ l.length) : ∀ (ws : List (List Nat)) (i m j q : Nat), qz_key l p ws i m = (some j, q) → ∃ w ∈ ws, q = p + w.length ∧ q ≤ l.length ∧ j < i + ws.length
  | [], i, m, j, q, e => by
    have e : ((none : Option Nat), p + m) = (some j, q) := e
    cases e
  | w :: ws, i, m, j, q, e => by
    have e : (if qz_cs l p w = w.length then (some i, p + w.length) else qz_key l p ws (i + 1) (max m (qz_cs l p w))) = (some j, q) := e
    by_cases z : qz_cs l p w = w.length
    · rw [if_pos z] at e
      have h1 := qz_cs_p w p hp
      have e1 : i = j := Option.some.inj (congrArg Prod.fst e)
      have e2 : p + w.length = q := congrArg Prod.snd e
      exact ⟨w, List.mem_cons_self, e2.symm, by omega, by rw [List.length_cons]; omega⟩
    · rw [if_neg z] at e
      obtain ⟨v, hv, r1, r2, r3⟩ := qz_key_adv hp ws _ _ _ _ e
      exact ⟨v, List.mem_cons_of_mem _ hv, r1, r2, by rw [List.length_cons]; omega⟩
theorem qz_key_no (hp : p ≤ l.length) : ∀ (ws : List (List Nat)) (i m q : Nat), p + m ≤ l.length → qz_key l p ws i m = (none, q) → q ≤ l.length
  | [], i, m, q, hm, e => by
    have e : ((none : Option Nat), p + m) = (none, q) := e
    have e2 : p + m = q := congrArg Prod.snd e
    omega
  | w :: ws, i, m, q, hm, e => by
    have e : (if qz_cs l p w = w.length then (some i, p + w.length) else qz_key l p ws (i + 1) (max m (qz_cs l p w))) = (none, q) := e
    by_cases z : qz_cs l p w = w.length
    · rw [if_pos z] at e
      cases congrArg Prod.fst e
    · rw [if_neg z] at e
      have := qz_cs_p w p hp
      exact qz_key_no hp ws (i + 1) (max m (qz_cs l p w)) q (by omega) e
/-- a command read: four characters at least; its kind; its note's size -/
theorem qz_part_ok {c : Nat} {C : qz_C} (hl : ∀ c ∈ l, c < 65536) (hC : C.2.2.2 < 65536) : (qz_part l c p C).2.2.1 = C.1 ∧ (qz_part l c p C).2.2.2.2.2 < 65536 := by
  have hg : l.getD p 0 < 65536 := by
    rw [List.getD_eq_getElem?_getD]
    cases e : l[p]? with
    | none => exact Nat.succ_pos _
    | some x => exact hl x (List.mem_of_getElem? e)
  unfold qz_part
  split
  · exact ⟨rfl, hC⟩
  split
  · exact ⟨rfl, hC⟩
  split
  · split
    · exact ⟨rfl, hg⟩
    · exact ⟨rfl, hC⟩
  · split
    · exact ⟨rfl, hC⟩
    · exact ⟨rfl, hC⟩
theorem qz_seq_ok (hl : ∀ c ∈ l, c < 65536) : ∀ (w : List Nat) (p : Nat) (C : qz_C), C.2.2.2 < 65536 → (qz_seq l w p C).2.2.1 = C.1 ∧ (qz_seq l w p C).2.2.2.2.2 < 65536
  | [], _, _, h => ⟨rfl, h⟩
  | c :: w, p, C, h => by
    have a := qz_part_ok (p := p) (c := c) hl h
    unfold qz_seq
    split
    · have b := qz_seq_ok hl w (qz_part l c p C).2.1 (qz_part l c p C).2.2 a.2
      exact ⟨b.1.trans a.1, b.2⟩
    · exact a
theorem qz_cmd_ok (hl : ∀ c ∈ l, c < 65536) (hp : p ≤ l.length) (h : (qz_cmd l p).1 = true) : (p + 4 ≤ (qz_cmd l p).2.1 ∧ (qz_cmd l p).2.1 ≤ l.length) ∧ (qz_cmd l p).2.2.1 < 10 ∧ (qz_cmd l p).2.2.2.2.2 < 65536 := by
  cases e : qz_key l p qz_kw 0 0 with
  | mk o q =>
    cases o with
    | none =>
      have c : qz_cmd l p = (false, q, 0, 0, 0, 0) := by
        unfold qz_cmd
        rw [e]
      rw [c] at h
      cases h
    | some i =>
      have c : qz_cmd l p = qz_seq l (qz_fm.getD i []) q (i, 0, 0, 0) := by
        unfold qz_cmd
        rw [e]
      rw [c]
      obtain ⟨w, hw, e1, e2, e3⟩ := qz_key_adv hp qz_kw _ _ _ _ e
      have b := qz_seq_p (qz_fm.getD i []) q (i, 0, 0, 0) e2
      have h4 : 4 ≤ w.length := (show ∀ w ∈ qz_kw, 4 ≤ w.length by decide) w hw
      have ok := qz_seq_ok hl (qz_fm.getD i []) q (i, 0, 0, 0) (show (0 : Nat) < 65536 by decide)
      have e3 : i < 0 + 10 := e3
      exact ⟨⟨by omega, b.2⟩, by rw [ok.1]; show i < 10; omega, ok.2⟩
def qz_okC (C : qz_C) : Prop := C.1 < 10 ∧ C.2.2.2 < 65536
theorem qz_rd_ok (hl : ∀ c ∈ l, c < 65536) : ∀ (d p : Nat) (cs : List qz_C), p ≤ l.length → (∀ C ∈ cs, qz_okC C) → (∀ C ∈ (qz_rd l d p cs).2.2, qz_okC C) ∧ (qz_rd l d p cs).2.2.length ≤ cs.length + d ∧ (qz_rd l d p cs).2.1 ≤ l.length
  | 0, p, cs, hp, hc => ⟨hc, Nat.le_refl _, hp⟩
  | d + 1, p, cs, hp, hc => by
    unfold qz_rd
    by_cases z : (qz_cmd l p).1 = true
    · have ok := qz_cmd_ok hl hp z
      have hc2 : ∀ C ∈ cs ++ [(qz_cmd l p).2.2], qz_okC C := fun C hC => by
        rcases List.mem_append.mp hC with h | h
        · exact hc C h
        · obtain rfl := List.mem_singleton.mp h
          exact ok.2
      have len : (cs ++ [(qz_cmd l p).2.2]).length = cs.length + 1 := by rw [List.length_append]; rfl
      rw [if_pos z]
      split
      · exact ⟨hc2, by show (cs ++ [(qz_cmd l p).2.2]).length ≤ _; omega, ok.1.2⟩
      · split
        · rename_i y
          have := qz_rd_ok hl d ((qz_cmd l p).2.1 + 1) (cs ++ [(qz_cmd l p).2.2]) (qz_is_lt y) hc2
          exact ⟨this.1, by omega, this.2.2⟩
        · exact ⟨hc2, by show (cs ++ [(qz_cmd l p).2.2]).length ≤ _; omega, ok.1.2⟩
    · rw [if_neg z]
      refine ⟨hc, Nat.le_add_right _ _, ?_⟩
      show (qz_cmd l p).2.1 ≤ l.length
      unfold qz_cmd
      cases e : qz_key l p qz_kw 0 0 with
      | mk o q =>
        cases o with
        | none =>
          show q ≤ l.length
          exact qz_key_no hp qz_kw 0 0 q hp e
        | some i =>
          obtain ⟨w, hw, e1, e2, e3⟩ := qz_key_adv hp qz_kw _ _ _ _ e
          exact (qz_seq_p (qz_fm.getD i []) q (i, 0, 0, 0) e2).2
/-- the words told of the commands read -/
def qk_tms (t : Nat → Int32) (cs : List qz_C) : Prop := ∀ i (hi : i < cs.length), qk_tm t i cs[i]
def qk_rd (M M1 : qk_T) (R : Bool × Nat × List qz_C) : Prop := M1.1 16 = nI R.2.1 ∧ (∀ i, i ≠ 16 → i ≠ 18 → M1.1 i = M.1 i) ∧ (∀ k, k ≠ 17 → M1.2 k = M.2 k) ∧ (R.1 = true → M1.1 18 = nI R.2.2.length ∧ qk_tms (M1.2 17) R.2.2)
theorem qk_tm.eq {t t2 : Nat → Int32} {C : qz_C} (T : qk_tm t n C) (e : ∀ i, i < 4 * n + 4 → t2 i = t i) : qk_tm t2 n C := by
  obtain ⟨a, b, c, d⟩ := T
  exact ⟨(e _ (by omega)).trans a, fun z => (e _ (by omega)).trans (b z), fun z => (e _ (by omega)).trans (c z), fun z => (e _ (by omega)).trans (d z)⟩
theorem qe_X12_isScript (H : qk_at h m M) (T : qk_ty M l) {Q : Int32 → ql_H → Prop} (K : ∀ h1 M1, qk_at h1 m M1 → qp_fr m (m + 10) h h1 → qk_rd M M1 (qz_read l) → Q (qp_b (qz_read l).1) h1) : qw_X12_isScript σ m h Q := by
  have t60 := T.1
  unfold qw_X12_isScript
  refine qk_p H 16 fun ha Ha fa => ?_
  refine qk_p Ha 18 fun hb Hb fb => ?_
  have hL : ∀ d fu c p cs hh MM, c + d = 12 → cs.length = c → 5 * c ≤ p → p ≤ l.length → d < fu → qk_at hh m MM → qp_fr m (m + 10) h hh → MM.1 16 = nI p → MM.1 18 = nI c → (∀ i, i ≠ 16 → i ≠ 18 → MM.1 i = M.1 i) → (∀ k, k ≠ 17 → MM.2 k = M.2 k) → qk_tms (MM.2 17) cs → qz_rd l d p cs = qz_read l → qw_X12_isScript_10 σ m Q fu hh := by
    intro d
    induction d with
    | zero =>
      intro fu c p cs hh MM hc hcs h5 hp hf G f e16 e18 o1 o2 tm er
      obtain ⟨fu, rfl⟩ : ∃ k, fu = k + 1 := ⟨fu - 1, by omega⟩
      have ep : p = l.length := by omega
      unfold qw_X12_isScript_10
      rw [qk_rv G]
      have TM : qk_ty MM l := ⟨T.1, (o1 9 (by decide) (by decide)).trans T.2.1, by rw [o2 8 (by decide)]; exact T.2.2.1, T.2.2.2⟩
      refine qe_X12_commandHere G TM e18 (by omega) e16 hp fun h1 M1 D t => ?_
      have ec : qz_cmd l p = (false, l.length, 0, 0, 0, 0) := by rw [ep]; exact qz_cmd_end l
      rw [ec] at D ⊢
      refine qp_iT rfl ⟨ql_nz0, ?_⟩
      have er : (false, p, cs) = qz_read l := er
      have k := K h1 M1 D.1 (f.tr D.2.1)
      rw [← er] at k
      refine k ⟨D.2.2.1.1.trans (by rw [ep]), fun i h16 h18 => (D.2.2.1.2.1 i h16).trans (o1 i h16 h18), fun k hk => (D.2.2.1.2.2 k hk).trans (o2 k hk), fun z => by cases z⟩
    | succ d ih =>
      intro fu c p cs hh MM hc hcs h5 hp hf G f e16 e18 o1 o2 tm er
      obtain ⟨fu, rfl⟩ : ∃ k, fu = k + 1 := ⟨fu - 1, by omega⟩
      unfold qw_X12_isScript_10
      rw [qk_rv G]
      have TM : qk_ty MM l := ⟨T.1, (o1 9 (by decide) (by decide)).trans T.2.1, by rw [o2 8 (by decide)]; exact T.2.2.1, T.2.2.2⟩
      refine qe_X12_commandHere G TM e18 (by omega) e16 hp fun h1 M1 D t => ?_
      have er : (if (qz_cmd l p).1 then (if (qz_cmd l p).2.1 = l.length then (true, (qz_cmd l p).2.1, cs ++ [(qz_cmd l p).2.2]) else if qz_is l (qz_cmd l p).2.1 59 then qz_rd l d ((qz_cmd l p).2.1 + 1) (cs ++ [(qz_cmd l p).2.2]) else (false, (qz_cmd l p).2.1, cs ++ [(qz_cmd l p).2.2])) else (false, (qz_cmd l p).2.1, cs)) = qz_read l := er
      have q1 : ∀ i, i ≠ 16 → i ≠ 18 → M1.1 i = M.1 i := fun i h16 h18 => (D.2.2.1.2.1 i h16).trans (o1 i h16 h18)
      have q2 : ∀ k, k ≠ 17 → M1.2 k = M.2 k := fun k hk => (D.2.2.1.2.2 k hk).trans (o2 k hk)
      by_cases z : (qz_cmd l p).1 = true
      · have ok := qz_cmd_ok T.2.2.2 hp z
        have t := t z
        rw [z]
        rw [if_pos z] at er
        refine qp_iF qp_1 ?_
        rw [qk_f D.1 18, (D.2.2.1.2.1 18 (by decide)).trans e18, nI_1]
        refine qk_p D.1 18 fun h2 H2 f2 => ?_
        have T2 : qk_ty (qk_sI M1 18 (nI (c + 1))) l := ⟨T.1, (qk_sI_n (by decide)).trans ((q1 9 (by decide) (by decide)).trans T.2.1), by show qk_arr (M1.2 8) l; rw [q2 8 (by decide)]; exact T.2.2.1, T.2.2.2⟩
        have e16b : (qk_sI M1 18 (nI (c + 1))).1 16 = nI (qz_cmd l p).2.1 := (qk_sI_n (by decide)).trans D.2.2.1.1
        have tm2 : qk_tms (M1.2 17) (cs ++ [(qz_cmd l p).2.2]) := fun i hi => by
          by_cases y : i = cs.length
          · subst y
            rw [qt_g1 (l := cs ++ [(qz_cmd l p).2.2]) rfl hi rfl, hcs]
            exact t
          · have hi2 : i < cs.length := by
              rw [List.length_append] at hi
              have : i < cs.length + 1 := hi
              omega
            rw [qt_gl (l := cs ++ [(qz_cmd l p).2.2]) rfl hi hi2]
            exact (tm i hi2).eq fun j hj => D.2.2.2.1 j (by omega)
        have len : (cs ++ [(qz_cmd l p).2.2]).length = c + 1 := by rw [List.length_append, hcs]; rfl
        rw [qk_rv H2]
        refine qe_X12_skips H2 T2 e16b ok.1.2 (c := 59) (by omega) (fun y => qp_iT rfl ?_) fun y h3 H3 f3 => qp_iF qp_1 ?_
        · rw [qk_f H2 16, qk_f H2 9, e16b, T2.2.1]
          have l60 := ok.1.2
          refine qp_if (fun x => ⟨ql_nz1, ?_⟩) fun x => ⟨ql_nz0, ?_⟩
          · have x := (nI_eq (by omega) (by omega)).mp x
            rw [if_pos x] at er
            have k := K h2 _ H2 (f.tr (D.2.1.tr f2))
            rw [← er] at k
            exact k ⟨e16b, fun i h16 h18 => (qk_sI_n h18).trans (q1 i h16 h18), q2, fun _ => ⟨by rw [qk_sI_s]; exact congrArg nI len.symm, tm2⟩⟩
          · rw [if_neg (fun q => x (by rw [q])), if_neg (by rw [y]; decide)] at er
            have k := K h2 _ H2 (f.tr (D.2.1.tr f2))
            rw [← er] at k
            exact k ⟨e16b, fun i h16 h18 => (qk_sI_n h18).trans (q1 i h16 h18), q2, fun q => by cases q⟩
        · have y2 := qz_is_lt y
          rw [if_neg (by omega), if_pos y] at er
          exact ih fu (c + 1) ((qz_cmd l p).2.1 + 1) _ h3 _ (by omega) len (by omega) y2 (by omega) H3 (f.tr (D.2.1.tr (f2.tr f3))) qk_sI_s ((qk_sI_n (by decide)).trans qk_sI_s) (fun i h16 h18 => (qk_sI_n h16).trans ((qk_sI_n h18).trans (q1 i h16 h18))) q2 tm2 er
      · rw [if_neg z] at er
        have z := Bool.eq_false_iff.mpr z
        rw [z]
        refine qp_iT rfl ⟨ql_nz0, ?_⟩
        have k := K h1 M1 D.1 (f.tr D.2.1)
        rw [← er] at k
        exact k ⟨D.2.2.1.1, q1, q2, fun q => by cases q⟩
  exact hL 12 ql_FU 0 0 [] hb _ rfl rfl (Nat.le_refl _) (Nat.zero_le _) (by unfold ql_FU; omega) Hb (fa.tr fb) ((qk_sI_n (by decide)).trans qk_sI_s) qk_sI_s (fun i h16 h18 => (qk_sI_n h18).trans (qk_sI_n h16)) (fun _ _ => rfl) (fun i hi => absurd hi (Nat.not_lt_zero i)) rfl
/-! a command done -/
def qz_do (L : qa_L) (C : qz_C) : Int32 × qa_L :=
  if C.1 = 0 then qa_add L (nI C.2.1) (nI C.2.2.2) else if C.1 = 1 then qa_ins L (nI C.2.1) (nI C.2.2.1) (nI C.2.2.2) else if C.1 = 2 then qa_rep L (nI C.2.1) (nI C.2.2.1) (nI C.2.2.2) else if C.1 = 3 then qa_del L (nI C.2.1) (nI C.2.2.1) else if C.1 = 4 then qa_setSun L (nI C.2.1) (nI C.2.2.1) else if C.1 = 5 then qa_cite L (nI C.2.1) (nI C.2.2.1) else if C.1 = 6 then qa_uncite L (nI C.2.1) (nI C.2.2.1) else if C.1 = 7 then qa_repeal L (nI C.2.1) else if C.1 = 8 then qa_cons L else qa_adv L (nI C.2.1)
theorem qz_do_ok {C : qz_C} (w : qa_w L N) (hN : N < 2 ^ 20) : qa_w (qz_do L C).2 (N + 1) := by
  unfold qz_do
  repeat' split
  · exact w.add hN _ _
  · exact w.ins _ _ _
  · exact w.rep _ _ _
  · exact w.del _ _
  · exact w.sun hN _ _
  · exact w.cite _ _
  · exact w.uncite _ _
  · exact w.repeal _
  · exact w.cons hN
  · exact w.adv hN _
def qz_run : List qz_C → Nat → qa_L → Nat ⊕ qa_L
  | [], _, L => .inr L
  | C :: cs, k, L => if (qz_do L C).1 < 0 then .inl k else qz_run cs (k + 1) (qz_do L C).2
theorem qz_run_ok : ∀ (cs : List qz_C) (k : Nat) (L : qa_L) (N : Nat), qa_w L N → N + cs.length < 2 ^ 20 → (∀ L2, qz_run cs k L = .inr L2 → qa_w L2 (N + cs.length)) ∧ ∀ j, qz_run cs k L = .inl j → j < k + cs.length
  | [], k, L, N, w, h => ⟨fun L2 e => by cases e; exact w, fun j e => by cases e⟩
  | C :: cs, k, L, N, w, h => by
    have h : N + (cs.length + 1) < 2 ^ 20 := h
    have ih := qz_run_ok cs (k + 1) (qz_do L C).2 (N + 1) (qz_do_ok w (by omega)) (by omega)
    constructor
    · intro L2 e
      have e : (if (qz_do L C).1 < 0 then Sum.inl k else qz_run cs (k + 1) (qz_do L C).2) = Sum.inr L2 := e
      split at e
      · cases e
      · have := ih.1 L2 e
        rw [show N + (C :: cs).length = N + 1 + cs.length by rw [List.length_cons]; omega]
        exact this
    · intro j e
      have e : (if (qz_do L C).1 < 0 then Sum.inl k else qz_run cs (k + 1) (qz_do L C).2) = Sum.inl j := e
      rw [List.length_cons]
      split at e
      · cases e
        omega
      · have := ih.2 j e
        omega
/-- what a command of the script leaves: some code from 1 up where it is refused -/
def qk_px (M M1 : qk_T) (P : List qa_L) (r : Int32 × qa_L) : Prop := qk_G (M1.2 0) r.2 ∧ qk_P M1 P ∧ (∃ e, e < 10 ∧ M1.1 7 = nI e ∧ (r.1 < 0 ↔ 0 < e)) ∧ (∀ j, j ≠ 5 → j ≠ 7 → M1.1 j = M.1 j) ∧ ∀ j, j = 2 ∨ j = 3 ∨ j = 8 ∨ j = 12 ∨ j = 17 → M1.2 j = M.2 j
theorem qk_po.px {r : Int32 × qa_L} {f : Int32 → Nat} {x : Int32} (q : qk_po M M1 P L r f x) (h6 : M.1 6 ≠ 0) (hf : r.1 < 0 → 0 < f r.1 ∧ f r.1 < 10) : qk_px M M1 P r := by
  obtain ⟨q1, q2, q3, ⟨e1, e2⟩, _⟩ := q
  have kp : qa_kp (M.1 6) P L = P := if_neg h6
  rw [kp] at q2
  have q2 : qk_P M1 P := by
    split at q2
    · exact q2
    · exact q2
  refine ⟨q1, q2, ⟨_, ?_, q3, ?_⟩, e1, e2⟩
  · split
    · exact (hf ‹_›).2
    · decide
  · split
    · exact ⟨fun _ => (hf ‹_›).1, fun _ => ‹_›⟩
    · exact ⟨fun z => absurd z ‹_›, fun z => absurd z (Nat.lt_irrefl 0)⟩
theorem qz_codes {y : Int32} (h : y ∈ [(-1 : Int32), -2, -3, -4, -5]) : 0 < qf_ins y ∧ qf_ins y < 10 := by
  revert y
  decide
theorem qf_b (y : Int32) : (0 < qf_add y ∧ qf_add y < 10) ∧ (0 < qf_del y ∧ qf_del y < 10) ∧ (0 < qf_sun y ∧ qf_sun y < 10) ∧ (0 < qf_cite y ∧ qf_cite y < 10) := by
  unfold qf_add qf_del qf_sun qf_cite
  refine ⟨?_, ?_, ?_, ?_⟩ <;> (repeat' split) <;> decide
theorem pk_ch16 {c : Nat} (h : c < 65536) : ((nI c).toUInt32 % 65536).toInt32 = nI c := by
  rw [pk_char, pk_tn (by omega), Nat.mod_eq_of_lt h]
theorem qe_X12_carries (H : qk_at h m M) (R : qk_G (M.2 0) L) (HP : qk_P M P) (w : qa_w L N) (hN : N < 2 ^ 20) (h6 : M.1 6 ≠ 0) {C : qz_C} (hn : n ≤ 12) (t : qk_tm (M.2 17) n C) (ok : qz_okC C) {Q : Int32 → ql_H → Prop} (k : ∀ h1 M1 x, qk_at h1 m M1 → qp_fr m (m + 10) h h1 → qk_px M M1 P (qz_do L C) → Q x h1) : qw_X12_carries m (nI (4 * n)) h Q := by
  obtain ⟨c1, c2⟩ := ok
  obtain ⟨t0, t1, t2, t3⟩ := t
  have sh := R.sh
  have hd := w.1.1
  have hs := w.sunok hN
  obtain ⟨a, ha, ea⟩ := w.2.2.1
  obtain ⟨d, hd2, ed⟩ := w.2.1
  obtain ⟨e, he, ee⟩ := w.2.2.2
  have c10 : C.1 = 0 ∨ C.1 = 1 ∨ C.1 = 2 ∨ C.1 = 3 ∨ C.1 = 4 ∨ C.1 = 5 ∨ C.1 = 6 ∨ C.1 = 7 ∨ C.1 = 8 ∨ C.1 = 9 := by omega
  unfold qw_X12_carries
  rw [show nI (4 * n) + (1 : Int32) = nI (4 * n + 1) from nI_1 _, show nI (4 * n) + (2 : Int32) = nI (4 * n + 2) from nI_add _ 2, show nI (4 * n) + (3 : Int32) = nI (4 * n + 3) from nI_add _ 3]
  rw [qk_rt H, qk_lt H (by omega), qk_rt H, qk_lt H (by omega), qk_rt H, qk_lt H (by omega), qk_rt H, qk_lt H (by omega), t0]
  unfold qz_do at k
  rcases c10 with z | z | z | z | z | z | z | z | z | z <;> rw [z] at t1 t2 t3 k ⊢
  · have t1 := t1 (by decide)
    have t3 := t3 (by decide)
    rw [t1, t3, pk_ch16 c2]
    refine qp_iT rfl ?_
    rw [qk_rv H]
    exact qe_X12_addClause H R HP ⟨a, by omega, ea⟩ fun h1 M1 x H1 f1 q => k h1 M1 x H1 f1 (q.px h6 fun _ => (qf_b _).1)
  · have t1 := t1 (by decide)
    have t2 := t2 (by decide)
    have t3 := t3 (by decide)
    rw [t1, t2, t3, pk_ch16 c2]
    refine qp_iF (by decide) (qp_iT rfl ?_)
    rw [qk_rv H]
    exact qe_X12_insertNote H R HP hd hs fun h1 M1 x H1 f1 q => k h1 M1 x H1 f1 (q.px h6 fun y => qz_codes (qa_no.ins sh _ _ _ y).2)
  · have t1 := t1 (by decide)
    have t2 := t2 (by decide)
    have t3 := t3 (by decide)
    rw [t1, t2, t3, pk_ch16 c2]
    refine qp_iF (by decide) (qp_iF (by decide) (qp_iT rfl ?_))
    rw [qk_rv H]
    exact qe_X12_replaceNote H R HP hd hs fun h1 M1 x H1 f1 q => k h1 M1 x H1 f1 (q.px h6 fun y => qz_codes ((show ∀ v ∈ [(-1 : Int32), -2, -3, -4], v ∈ [(-1 : Int32), -2, -3, -4, -5] by decide) _ (qa_no.rep sh _ _ _ y).2))
  · have t1 := t1 (by decide)
    have t2 := t2 (by decide)
    rw [t1, t2]
    refine qp_iF (by decide) (qp_iF (by decide) (qp_iF (by decide) (qp_iT rfl ?_)))
    rw [qk_rv H]
    exact qe_X12_deleteNote H R HP hd hs fun h1 M1 x H1 f1 q => k h1 M1 x H1 f1 (q.px h6 fun _ => (qf_b _).2.1)
  · have t1 := t1 (by decide)
    have t2 := t2 (by decide)
    rw [t1, t2]
    refine qp_iF (by decide) (qp_iF (by decide) (qp_iF (by decide) (qp_iF (by decide) (qp_iT rfl ?_))))
    rw [qk_rv H]
    exact qe_X12_setSunset H R HP hd hs ⟨d, by omega, ed⟩ fun h1 M1 x H1 f1 q => k h1 M1 x H1 f1 (q.px h6 fun _ => (qf_b _).2.2.1)
  · have t1 := t1 (by decide)
    have t2 := t2 (by decide)
    rw [t1, t2]
    refine qp_iF (by decide) (qp_iF (by decide) (qp_iF (by decide) (qp_iF (by decide) (qp_iF (by decide) (qp_iT rfl ?_)))))
    rw [qk_rv H]
    exact qe_X12_cite H R HP hd (w.id1 hN) fun h1 M1 x H1 f1 q => k h1 M1 x H1 f1 (q.px h6 fun _ => (qf_b _).2.2.2)
  · have t1 := t1 (by decide)
    have t2 := t2 (by decide)
    rw [t1, t2]
    refine qp_iF (by decide) (qp_iF (by decide) (qp_iF (by decide) (qp_iF (by decide) (qp_iF (by decide) (qp_iF (by decide) (qp_iT rfl ?_))))))
    rw [qk_rv H]
    exact qe_X12_uncite H R HP hd fun h1 M1 x H1 f1 q => k h1 M1 x H1 f1 (q.px h6 fun _ => ⟨(by decide : 0 < 1), (by decide : 1 < 10)⟩)
  · have t1 := t1 (by decide)
    rw [t1]
    refine qp_iF (by decide) (qp_iF (by decide) (qp_iF (by decide) (qp_iF (by decide) (qp_iF (by decide) (qp_iF (by decide) (qp_iF (by decide) (qp_iT rfl ?_)))))))
    rw [qk_rv H]
    exact qe_X12_repeal H R HP hd fun h1 M1 x H1 f1 q => k h1 M1 x H1 f1 (q.px h6 fun _ => ⟨(by decide : 0 < 1), (by decide : 1 < 10)⟩)
  · refine qp_iF (by decide) (qp_iF (by decide) (qp_iF (by decide) (qp_iF (by decide) (qp_iF (by decide) (qp_iF (by decide) (qp_iF (by decide) (qp_iF (by decide) (qp_iT rfl ?_))))))))
    rw [qk_rv H]
    exact qe_X12_consolidate H R HP hs (e := e) (by omega) ee fun h1 M1 x H1 f1 q => k h1 M1 x H1 f1 (q.px h6 fun _ => ⟨(by decide : 0 < 1), (by decide : 1 < 10)⟩)
  · have t1 := t1 (by decide)
    rw [t1]
    refine qp_iF (by decide) (qp_iF (by decide) (qp_iF (by decide) (qp_iF (by decide) (qp_iF (by decide) (qp_iF (by decide) (qp_iF (by decide) (qp_iF (by decide) (qp_iF (by decide) ?_))))))))
    rw [qk_rv H]
    exact qe_X12_advance H R HP hs (w.hge hN) fun h1 M1 x H1 f1 q => k h1 M1 x H1 f1 (q.px h6 fun _ => ⟨(by decide : 0 < 1), (by decide : 1 < 10)⟩)
/-! the script run -/
def qm_runR (S : qa_S) (R : Bool × Nat × List qz_C) : Nat × Int32 × qa_S :=
  if R.1 = true then (match qz_run R.2.2 0 S.1 with
    | .inl j => (2, 0, S.1, S.2.1, S.2.2.1, [], S.2.2.2.2.1, nI j, S.2.2.2.2.2.2)
    | .inr L => (0, nI R.2.2.length, L, qa_push S.2.1 S.1, S.2.2.1, [], S.2.2.2.2))
  else (1, 0, S.1, S.2.1, S.2.2.1, [], nI R.2.1, S.2.2.2.2.2)
def qm_run (S : qa_S) : Nat × Int32 × qa_S := qm_runR S (qz_read S.2.2.2.1)
theorem qe_X12_runScript (H : qk_at h m M) (A : qk_all M S) (hc : ∀ c ∈ S.2.2.2.1, c < 65536) (w : qa_w S.1 N) (hN : N + 12 < 2 ^ 20) {Q : Int32 → ql_H → Prop} (k : ∀ h1 M1 x, qk_at h1 m M1 → qp_fr m (m + 10) h h1 → qk_pm M1 (qm_run S) x → Q x h1) : qw_X12_runScript σ m h Q := by
  obtain ⟨⟨a1, a2, a3, a4⟩, b, cc, d⟩ := id A
  have T : qk_ty M S.2.2.2.1 := ⟨b.1, b.2.1, b.2.2, hc⟩
  unfold qm_run at k
  unfold qw_X12_runScript
  rw [qk_rv H]
  refine qe_X12_isScript H T fun h1 M1 H1 f1 rd => ?_
  have rok := qz_rd_ok hc 12 0 [] (Nat.zero_le _) (fun C hC => absurd hC List.not_mem_nil)
  have rok : (∀ C ∈ (qz_read S.2.2.2.1).2.2, qz_okC C) ∧ (qz_read S.2.2.2.1).2.2.length ≤ 0 + 12 ∧ (qz_read S.2.2.2.1).2.1 ≤ S.2.2.2.1.length := rok
  generalize qz_read S.2.2.2.1 = R at rd rok k ⊢
  obtain ⟨r1, r2, r3, r4⟩ := rd
  by_cases z : R.1 = true
  · obtain ⟨e18, tms⟩ := r4 z
    rw [z]
    refine qp_iF qp_1 ?_
    unfold qw_X12_runScript_17
    refine qk_p H1 9 fun h2 H2 f2 => qp_iF qp_1 ?_
    unfold qw_X12_runScript_32
    rw [qk_rv H2]
    refine qe_X12_fails H2 (n := 0) (by omega) fun h3 H3 f3 => qp_iT rfl ?_
    rw [qk_rg H3, qk_rb H3]
    refine qe_X12_copies H3 (k1 := 0) (k2 := 3) (o1 := 0) (o2 := 0) (by decide) (by decide) (by decide) (k := fun h4 M4 H4 f4 y1 y2 y3 => ?_)
    refine qk_p H4 6 fun h5 H5 f5 => ?_
    have fr5 : qp_fr m (m + 10) h h5 := f1.tr (f2.tr (f3.tr (f4.tr f5)))
    have g1 : ∀ i, i ≠ 6 → i ≠ 7 → i ≠ 9 → i ≠ 16 → i ≠ 18 → (qk_sI M4 6 1).1 i = M.1 i := fun i i6 i7 i9 i16 i18 => (qk_sI_n i6).trans (by rw [y1]; exact (qk_sI_n i7).trans ((qk_sI_n i9).trans (r2 i i16 i18)))
    have g18 : (qk_sI M4 6 1).1 18 = nI R.2.2.length := (qk_sI_n (by decide)).trans (by rw [y1]; exact e18)
    have g9 : (qk_sI M4 6 1).1 9 = 0 := (qk_sI_n (by decide)).trans (by rw [y1]; rfl)
    have g7 : (qk_sI M4 6 1).1 7 = 0 := (qk_sI_n (by decide)).trans (by rw [y1]; rfl)
    have g2 : ∀ j, j ≠ 3 → j ≠ 17 → (qk_sI M4 6 1).2 j = M.2 j := fun j j3 j17 => (y2 j j3).trans (r3 j j17)
    have gt : qk_tms ((qk_sI M4 6 1).2 17) R.2.2 := by
      show qk_tms (M4.2 17) R.2.2
      rw [y2 17 (by decide)]
      exact tms
    have gb : qk_G ((qk_sI M4 6 1).2 3) S.1 := a1.eq fun i hi => by
      show M4.2 3 i = _
      rw [y3, if_pos ⟨Nat.zero_le _, by omega⟩, Nat.zero_add, Nat.sub_zero]
      show M1.2 0 i = M.2 0 i
      rw [r3 0 (by decide)]
    have gG : qk_G ((qk_sI M4 6 1).2 0) S.1 := by
      rw [g2 0 (by decide) (by decide)]
      exact a1
    have gP : qk_P (qk_sI M4 6 1) S.2.1 := a2.eq (g1 5 (by decide) (by decide) (by decide) (by decide) (by decide)) (g2 1 (by decide) (by decide))
    /- the end of a run that has gone through, or that was refused -/
    have fin : ∀ hh MM, qk_at hh m MM → qp_fr m (m + 10) h hh → (∀ i, i ≠ 5 → i ≠ 7 → MM.1 i = (qk_sI M4 6 1).1 i) → (∀ j, j = 2 ∨ j = 3 ∨ j = 8 ∨ j = 12 ∨ j = 17 → MM.2 j = (qk_sI M4 6 1).2 j) → qk_P MM S.2.1 → ∀ (x2 : Nat) (x3 : Int32), x2 < 100 → (∀ L2, MM.1 7 = 0 → qk_G (MM.2 0) L2 → qz_run R.2.2 0 S.1 = .inr L2 → qw_X12_runScript_98 σ m Q (nI x2) x3 hh) ∧ (∀ e, 0 < e → e < 10 → MM.1 7 = nI e → qz_run R.2.2 0 S.1 = .inl x2 → qw_X12_runScript_98 σ m Q (nI x2) x3 hh) := by
      intro hh MM HH ff o1 o2 oP x2 x3 hx2
      constructor
      · intro L2 c7 gL er
        unfold qw_X12_runScript_98
        refine qk_p HH 6 fun h6 H6 f6 => ?_
        rw [qk_f H6 7, show (qk_sI MM 6 0).1 7 = 0 from c7]
        refine qp_iT (by decide) ?_
        rw [qk_rb H6, qk_rv H6]
        have gb6 : qk_G ((qk_sI MM 6 0).2 3) S.1 := by
          show qk_G (MM.2 3) S.1
          rw [o2 3 (by decide)]
          exact gb
        refine qe_X12_keeps0 H6 (k0 := 3) qk_sI_s (oP.eq rfl rfl) (Or.inr rfl) gb6 fun h7 M7 H7 f7 P7 c7b v1 v2 => ?_
        rw [qk_f H7 18, v1 18 (by decide) (by decide), show (qk_sI MM 6 0).1 18 = nI R.2.2.length from (o1 18 (by decide) (by decide)).trans g18]
        refine k h7 M7 _ H7 (ff.tr (f6.tr f7)) ?_
        have eq : qm_runR S R = (0, nI R.2.2.length, L2, qa_push S.2.1 S.1, S.2.2.1, [], S.2.2.2.2) := by
          unfold qm_runR
          rw [if_pos z, er]
        rw [eq]
        have n1 : ∀ i, i ≠ 5 → i ≠ 6 → i ≠ 7 → i ≠ 9 → i ≠ 16 → i ≠ 18 → M7.1 i = M.1 i := fun i i5 i6 i7 i9 i16 i18 => (v1 i i5 i7).trans ((qk_sI_n i6).trans ((o1 i i5 i7).trans (g1 i i6 i7 i9 i16 i18)))
        have n2 : ∀ j, j = 2 ∨ j = 8 ∨ j = 12 → M7.2 j = M.2 j := fun j hj => (v2 j (by omega)).trans ((o2 j (by omega)).trans (g2 j (by omega) (by omega)))
        refine ⟨c7b, fun _ => rfl, ⟨?_, P7, a3.eq (n1 4 (by decide) (by decide) (by decide) (by decide) (by decide) (by decide)) (n2 2 (by decide)), (v1 6 (by decide) (by decide)).trans qk_sI_s⟩, ⟨Nat.zero_le _, ?_, fun j hj => absurd hj (Nat.not_lt_zero j)⟩, ⟨(n1 10 (by decide) (by decide) (by decide) (by decide) (by decide) (by decide)).trans cc.1, (n1 11 (by decide) (by decide) (by decide) (by decide) (by decide) (by decide)).trans cc.2⟩, d.1, (n1 13 (by decide) (by decide) (by decide) (by decide) (by decide) (by decide)).trans d.2.1, ?_⟩
        · show qk_G (M7.2 0) L2
          rw [v2 0 (by decide)]
          exact gL
        · exact (v1 9 (by decide) (by decide)).trans ((qk_sI_n (by decide)).trans ((o1 9 (by decide) (by decide)).trans g9))
        · rw [n2 12 (by decide)]
          exact d.2.2
      · intro e e0 e10 c7 er
        unfold qw_X12_runScript_98
        refine qk_p HH 6 fun h6 H6 f6 => ?_
        rw [qk_f H6 7, show (qk_sI MM 6 0).1 7 = nI e from c7]
        refine qp_iF (nI_nle e0 (by omega)) ?_
        rw [qk_rb H6, qk_rg H6]
        refine qe_X12_copies H6 (k1 := 3) (k2 := 0) (o1 := 0) (o2 := 0) (by decide) (by decide) (by decide) (k := fun h7 M7 H7 f7 v1 v2 v3 => ?_)
        refine qk_p H7 11 fun h8 H8 f8 => ?_
        refine qk_p H8 7 fun h9 H9 f9 => ?_
        have all : ∀ x : Int32, Q x h9 := fun x => by
          refine k h9 _ x H9 (ff.tr (f6.tr (f7.tr (f8.tr f9)))) ?_
          have eq : qm_runR S R = (2, 0, S.1, S.2.1, S.2.2.1, [], S.2.2.2.2.1, nI x2, S.2.2.2.2.2.2) := by
            unfold qm_runR
            rw [if_pos z, er]
          rw [eq]
          have n1 : ∀ i, i ≠ 5 → i ≠ 6 → i ≠ 7 → i ≠ 9 → i ≠ 11 → i ≠ 16 → i ≠ 18 → (qk_sI (qk_sI M7 11 (nI x2)) 7 2).1 i = M.1 i := fun i i5 i6 i7 i9 i11 i16 i18 => (qk_sI_n i7).trans ((qk_sI_n i11).trans (by rw [v1]; exact (qk_sI_n i6).trans ((o1 i i5 i7).trans (g1 i i6 i7 i9 i16 i18))))
          have n2 : ∀ j, j = 2 ∨ j = 8 ∨ j = 12 → M7.2 j = M.2 j := fun j hj => (v2 j (by omega)).trans ((o2 j (by omega)).trans (g2 j (by omega) (by omega)))
          refine ⟨qk_sI_s, fun q => (by cases q), ⟨?_, ?_, a3.eq (n1 4 (by decide) (by decide) (by decide) (by decide) (by decide) (by decide) (by decide)) (n2 2 (by decide)), ?_⟩, ⟨Nat.zero_le _, ?_, fun j hj => absurd hj (Nat.not_lt_zero j)⟩, ⟨(n1 10 (by decide) (by decide) (by decide) (by decide) (by decide) (by decide) (by decide)).trans cc.1, (qk_sI_n (by decide)).trans qk_sI_s⟩, d.1, (n1 13 (by decide) (by decide) (by decide) (by decide) (by decide) (by decide) (by decide)).trans d.2.1, ?_⟩
          · show qk_G (M7.2 0) S.1
            refine gb.eq fun i hi => ?_
            rw [v3, if_pos ⟨Nat.zero_le _, by omega⟩, Nat.zero_add, Nat.sub_zero]
            show MM.2 3 i = _
            rw [o2 3 (by decide)]
          · refine oP.eq ?_ (v2 1 (by decide))
            exact (qk_sI_n (by decide)).trans ((qk_sI_n (by decide)).trans (by rw [v1]; rfl))
          · exact (qk_sI_n (by decide)).trans ((qk_sI_n (by decide)).trans (by rw [v1]; rfl))
          · refine (qk_sI_n (by decide)).trans ((qk_sI_n (by decide)).trans ?_)
            rw [v1]
            exact (o1 9 (by decide) (by decide)).trans g9
          · show qk_arr (M7.2 12) _
            rw [n2 12 (by decide)]
            exact d.2.2
        exact qp_if (fun _ => all _) fun _ => all _
    have hL : ∀ dd fu j L2 hh MM (x3 : Int32), j + dd = R.2.2.length → dd + 1 < fu → qk_at hh m MM → qp_fr m (m + 10) h hh → (∀ i, i ≠ 5 → i ≠ 7 → MM.1 i = (qk_sI M4 6 1).1 i) → (∀ j, j = 2 ∨ j = 3 ∨ j = 8 ∨ j = 12 ∨ j = 17 → MM.2 j = (qk_sI M4 6 1).2 j) → qk_P MM S.2.1 → MM.1 7 = 0 → qk_G (MM.2 0) L2 → qa_w L2 (N + j) → qz_run R.2.2 0 S.1 = qz_run (R.2.2.drop j) j L2 → qw_X12_runScript_62 σ m Q fu (nI j) x3 hh := by
      have r12 := rok.2.1
      intro dd
      induction dd with
      | zero =>
        intro fu j L2 hh MM x3 hj hf HH ff o1 o2 oP c7 gL wL er
        obtain ⟨fu, rfl⟩ : ∃ k, fu = k + 1 := ⟨fu - 1, by omega⟩
        unfold qw_X12_runScript_62
        rw [qk_f HH 18, (o1 18 (by decide) (by decide)).trans g18]
        refine qp_iT (nI_le (by omega) (by omega)) ?_
        refine (fin hh MM HH ff o1 o2 oP j x3 (by omega)).1 L2 c7 gL (er.trans ?_)
        rw [List.drop_of_length_le (by omega)]
        rfl
      | succ dd ih =>
        intro fu j L2 hh MM x3 hj hf HH ff o1 o2 oP c7 gL wL er
        obtain ⟨fu, rfl⟩ : ∃ k, fu = k + 1 := ⟨fu - 1, by omega⟩
        have hjl : j < R.2.2.length := by omega
        have er2 : qz_run R.2.2 0 S.1 = if (qz_do L2 R.2.2[j]).1 < 0 then .inl j else qz_run (R.2.2.drop (j + 1)) (j + 1) (qz_do L2 R.2.2[j]).2 := by
          rw [er, List.drop_eq_getElem_cons hjl]
          rfl
        unfold qw_X12_runScript_62
        rw [qk_f HH 18, (o1 18 (by decide) (by decide)).trans g18]
        refine qp_iF (nI_ge hjl (by omega)) ?_
        rw [qk_f HH 7, c7]
        refine qp_iT rfl ?_
        rw [qk_rv HH, show (4 : Int32) = nI 4 from rfl, pk_mul]
        have h6n : MM.1 6 ≠ 0 := by
          rw [o1 6 (by decide) (by decide), qk_sI_s]
          decide
        have tmj : qk_tm (MM.2 17) j R.2.2[j] := by
          rw [o2 17 (by decide)]
          exact gt j hjl
        refine qe_X12_carries HH gL oP wL (by omega) h6n (by omega) tmj (rok.1 _ (List.getElem_mem hjl)) fun h6 M6 x H6 f6 q => ?_
        obtain ⟨q1, q2, ⟨e, e10, q3, q4⟩, q5, q6⟩ := q
        have o1b : ∀ i, i ≠ 5 → i ≠ 7 → M6.1 i = (qk_sI M4 6 1).1 i := fun i i5 i7 => (q5 i i5 i7).trans (o1 i i5 i7)
        have o2b : ∀ j, j = 2 ∨ j = 3 ∨ j = 8 ∨ j = 12 ∨ j = 17 → M6.2 j = (qk_sI M4 6 1).2 j := fun j hj => (q6 j hj).trans (o2 j hj)
        rw [qk_f H6 7, q3]
        by_cases y : (qz_do L2 R.2.2[j]).1 < 0
        · have e0 := q4.mp y
          refine qp_iF (nI_ne0 e0 (by omega)) ?_
          obtain ⟨fu, rfl⟩ : ∃ k, fu = k + 1 := ⟨fu - 1, by omega⟩
          unfold qw_X12_runScript_62
          rw [qk_f H6 18, (o1b 18 (by decide) (by decide)).trans g18]
          refine qp_iF (nI_ge hjl (by omega)) ?_
          rw [qk_f H6 7, q3]
          refine qp_iF (nI_ne0 e0 (by omega)) ?_
          exact (fin h6 M6 H6 (ff.tr f6) o1b o2b q2 j x (by omega)).2 e e0 e10 q3 (er2.trans (if_pos y))
        · have e0 : e = 0 := by
            rcases Nat.eq_zero_or_pos e with v | v
            · exact v
            · exact absurd (q4.mpr v) y
          subst e0
          refine qp_iT rfl ?_
          rw [nI_1]
          exact ih fu (j + 1) _ h6 M6 x (by omega) (by omega) H6 (ff.tr f6) o1b o2b q2 q3 q1 (qz_do_ok wL (show N + j < 2 ^ 20 by omega)) (er2.trans (if_neg y))
    exact hL R.2.2.length ql_FU 0 S.1 h5 _ 0 (Nat.zero_add _) (by have := rok.2.1; unfold ql_FU; omega) H5 fr5 (fun _ _ _ => rfl) (fun _ _ => rfl) gP g7 gG w rfl
  · have z := Bool.eq_false_iff.mpr z
    rw [z]
    refine qp_iT rfl ?_
    rw [qk_f H1 16, r1]
    refine qk_p H1 10 fun h2 H2 f2 => ?_
    unfold qw_X12_runScript_17
    refine qk_p H2 9 fun h3 H3 f3 => qp_iT rfl ?_
    unfold qw_X12_runScript_32
    rw [qk_rv H3]
    refine qe_X12_fails H3 (n := 1) (by omega) fun h4 H4 f4 => qp_iF qp_1 ?_
    refine k h4 _ _ H4 (f1.tr (f2.tr (f3.tr f4))) ?_
    have eq : qm_runR S R = (1, 0, S.1, S.2.1, S.2.2.1, [], nI R.2.1, S.2.2.2.2.2) := by
      unfold qm_runR
      rw [z]
      rfl
    rw [eq]
    have n1 : ∀ i, i ≠ 7 → i ≠ 9 → i ≠ 10 → i ≠ 16 → i ≠ 18 → (qk_sI (qk_sI (qk_sI M1 10 (nI R.2.1)) 9 0) 7 (nI 1)).1 i = M.1 i := fun i i7 i9 i10 i16 i18 => (qk_sI_n i7).trans ((qk_sI_n i9).trans ((qk_sI_n i10).trans (r2 i i16 i18)))
    refine ⟨qk_sI_s, fun q => (by cases q), ⟨?_, a2.eq (n1 5 (by decide) (by decide) (by decide) (by decide) (by decide)) (r3 1 (by decide)), a3.eq (n1 4 (by decide) (by decide) (by decide) (by decide) (by decide)) (r3 2 (by decide)), (n1 6 (by decide) (by decide) (by decide) (by decide) (by decide)).trans a4⟩, ⟨Nat.zero_le _, rfl, fun j hj => absurd hj (Nat.not_lt_zero j)⟩, ⟨rfl, (n1 11 (by decide) (by decide) (by decide) (by decide) (by decide)).trans cc.2⟩, d.1, (n1 13 (by decide) (by decide) (by decide) (by decide) (by decide)).trans d.2.1, ?_⟩
    · show qk_G (M1.2 0) S.1
      rw [r3 0 (by decide)]
      exact a1
    · show qk_arr (M1.2 12) _
      rw [r3 12 (by decide)]
      exact d.2.2
end QKX
