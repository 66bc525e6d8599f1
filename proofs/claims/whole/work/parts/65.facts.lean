/-! What the tables and the Statement give of the start: which class is which, where the constants lie. -/
theorem st_at {i : Nat} {w : Cond} (h : lw_tbl[i]? = some w) : w ∈ lw_tbl := List.mem_of_getElem? h
theorem st_sel {C : String} {y z : MethodName} {s : State} {args : Array Value} (hy : y.cls ≠ "java/lang/invoke/MethodHandle" ∧ y.cls ≠ "java/lang/invoke/VarHandle") (hz : z.cls = y.cls) (hsel : (Cond.selects C z z).before args s = true) (hpriv : (Cond.privateMethod y).before args s = true) (hinst : (Cond.instanceMethod y).before args s = true) : (Cond.selects C y y).before args s = true := by
  obtain ⟨c, r, mz, hc, -, hnz, -, kz, hkz, hni⟩ := Cond.selects_spec hsel
  obtain ⟨mk, methM, hnamed, hmethM, -, -⟩ := Cond.instanceMethod_spec hinst
  have hfound : s.methodFound? y.cls y.name y.desc = some mk := State.methodFound?_of_named hnamed hy
  have hcls : mk.cls = mz.cls := Option.some.inj ((findClass_of_methodNamed hnamed).symm.trans ((congrArg s.vm.findClass hz.symm).trans (findClass_of_methodNamed hnz)))
  have hsel : selectMethod {} s.vm c mk = .method mk := selectMethod_private hmethM (Cond.privateMethod_at hpriv mk methM hnamed hmethM)
  simp only [Cond.before, Cond.holds, Cond.value, hc, hfound, hnamed, hsel, hcls, hkz]
  simp; exact hni
theorem st_W {args : Array Value} {s : State} (hts : ∀ w ∈ lw_tbl, w.before args s = true) : ∀ w ∈ ql_W, w.before args s = true := by
  have hl := hts (.selects "java/lang/StringBuilder" ⟨"java/lang/AbstractStringBuilder", "isLatin1", "()Z"⟩ ⟨"java/lang/AbstractStringBuilder", "isLatin1", "()Z"⟩) (st_at (i := 1266) (by decide +kernel))
  have h1 : (Cond.selects RJ4 yJ5_ensureCapacityInternal_d00df yJ5_ensureCapacityInternal_d00df).before args s = true := st_sel (z := ⟨"java/lang/AbstractStringBuilder", "isLatin1", "()Z"⟩) ⟨by decide +kernel, by decide +kernel⟩ rfl hl (hts (.privateMethod yJ5_ensureCapacityInternal_d00df) (st_at (i := 1233) (by decide +kernel))) (hts (.instanceMethod yJ5_ensureCapacityInternal_d00df) (st_at (i := 1234) (by decide +kernel)))
  have h2 : (Cond.selects RJ4 yJ5_newCapacity_0f7a4 yJ5_newCapacity_0f7a4).before args s = true := st_sel (z := ⟨"java/lang/AbstractStringBuilder", "isLatin1", "()Z"⟩) ⟨by decide +kernel, by decide +kernel⟩ rfl hl (hts (.privateMethod yJ5_newCapacity_0f7a4) (st_at (i := 1237) (by decide +kernel))) (hts (.instanceMethod yJ5_newCapacity_0f7a4) (st_at (i := 1238) (by decide +kernel)))
  intro w hw
  rcases List.mem_append.mp (List.mem_filter.mp hw).1 with h | h
  · rcases List.mem_cons.mp h with e | h
    · rw [e]; exact h1
    · rcases List.mem_cons.mp h with e | h
      · rw [e]; exact h2
      · cases h
  · exact hts w h
theorem st_lay0 : ∀ w ∈ u_ws RJ0 TJ0 4, w ∈ ql_W := by
  show ∀ w ∈ [u_lay RJ0 TJ0 0, u_lay RJ0 TJ0 1, u_lay RJ0 TJ0 2, u_lay RJ0 TJ0 3], w ∈ ql_W
  exact List.forall_mem_cons.mpr ⟨gw_833, List.forall_mem_cons.mpr ⟨gw_835, List.forall_mem_cons.mpr ⟨gw_1423, List.forall_mem_cons.mpr ⟨gw_1425, fun _ h => nomatch h⟩⟩⟩⟩
theorem st_lay2 : ∀ w ∈ u_ws RJx00060 TJx00060 6, w ∈ ql_W := by
  show ∀ w ∈ [u_lay RJx00060 TJx00060 0, u_lay RJx00060 TJx00060 1, u_lay RJx00060 TJx00060 2, u_lay RJx00060 TJx00060 3, u_lay RJx00060 TJx00060 4, u_lay RJx00060 TJx00060 5], w ∈ ql_W
  exact List.forall_mem_cons.mpr ⟨gw_821, List.forall_mem_cons.mpr ⟨gw_822, List.forall_mem_cons.mpr ⟨gw_823, List.forall_mem_cons.mpr ⟨gw_824, List.forall_mem_cons.mpr ⟨gw_825, List.forall_mem_cons.mpr ⟨gw_826, fun _ h => nomatch h⟩⟩⟩⟩⟩⟩
theorem st_lay3 : ∀ w ∈ u_ws RJx7c733 TJx7c733 6, w ∈ ql_W := by
  show ∀ w ∈ [u_lay RJx7c733 TJx7c733 0, u_lay RJx7c733 TJx7c733 1, u_lay RJx7c733 TJx7c733 2, u_lay RJx7c733 TJx7c733 3, u_lay RJx7c733 TJx7c733 4, u_lay RJx7c733 TJx7c733 5], w ∈ ql_W
  exact List.forall_mem_cons.mpr ⟨gw_1429, List.forall_mem_cons.mpr ⟨gw_1430, List.forall_mem_cons.mpr ⟨gw_1431, List.forall_mem_cons.mpr ⟨gw_1432, List.forall_mem_cons.mpr ⟨gw_1433, List.forall_mem_cons.mpr ⟨gw_1434, fun _ h => nomatch h⟩⟩⟩⟩⟩⟩
theorem st_cl {args : Array Value} {s : State} (hW : ∀ w ∈ ql_W, w.before args s = true) : ∃ (dC : Nat → ClassId) (dI : Nat → Nat → Nat), ∀ (k : Nat) (q : vw_C), vwCl[k]? = some q → u_Kn s q.1 q.2.1 q.2.2 (dC k) (dI k) := by
  obtain ⟨c0, i0, K0⟩ := u_known hW st_lay0 (hW _ gw_832)
  obtain ⟨c1, i1, K1⟩ := u_known hW qlay_1 (hW _ gw_232)
  obtain ⟨c2, i2, K2⟩ := u_known hW st_lay2 (hW _ gw_806)
  obtain ⟨c3, i3, K3⟩ := u_known hW st_lay3 (hW _ gw_1214)
  obtain ⟨c4, i4, K4⟩ := u_known hW qlay_4 (hW _ gw_117)
  obtain ⟨c5, i5, K5⟩ := u_known hW qlay_5 (hW _ gw_333)
  obtain ⟨c6, i6, K6⟩ := u_known hW qlay_6 (hW _ gw_124)
  obtain ⟨c7, i7, K7⟩ := u_known hW qlay_7 (hW _ gw_266)
  obtain ⟨c8, i8, K8⟩ := u_known hW qlay_8 (hW _ gw_308)
  obtain ⟨c9, i9, K9⟩ := u_known hW qlay_9 (hW _ gw_203)
  obtain ⟨c10, i10, K10⟩ := u_known hW qlay_10 (hW _ gw_226)
  obtain ⟨c11, i11, K11⟩ := u_known hW qlay_11 (hW _ gw_320)
  obtain ⟨c12, i12, K12⟩ := u_known hW qlay_12 (hW _ gw_109)
  obtain ⟨c13, i13, K13⟩ := u_known hW qlay_13 (hW _ gw_1663)
  refine ⟨fun k => match k with | 0 => c0 | 1 => c1 | 2 => c2 | 3 => c3 | 4 => c4 | 5 => c5 | 6 => c6 | 7 => c7 | 8 => c8 | 9 => c9 | 10 => c10 | 11 => c11 | 12 => c12 | _ => c13, fun k => match k with | 0 => i0 | 1 => i1 | 2 => i2 | 3 => i3 | 4 => i4 | 5 => i5 | 6 => i6 | 7 => i7 | 8 => i8 | 9 => i9 | 10 => i10 | 11 => i11 | 12 => i12 | _ => i13, fun k q hq => ?_⟩
  match k, hq with
  | 0, hq => cases hq; exact K0
  | 1, hq => cases hq; exact K1
  | 2, hq => cases hq; exact K2
  | 3, hq => cases hq; exact K3
  | 4, hq => cases hq; exact K4
  | 5, hq => cases hq; exact K5
  | 6, hq => cases hq; exact K6
  | 7, hq => cases hq; exact K7
  | 8, hq => cases hq; exact K8
  | 9, hq => cases hq; exact K9
  | 10, hq => cases hq; exact K10
  | 11, hq => cases hq; exact K11
  | 12, hq => cases hq; exact K12
  | 13, hq => cases hq; exact K13
  | k + 14, hq => simp [vwCl] at hq
theorem st_ac {args : Array Value} {s : State} {ty : FieldType} (h : (Cond.arrayClass ty).before args s = true) : ∃ cA : ClassId, ArrOfT s cA ty ∧ s.vm.findClass ("[" ++ ty.toString) = some cA := by
  obtain ⟨cA, kA, comp, h1, h2, h3⟩ := Cond.arrayClass_spec (args := args) (first := s) (o := none) (s := s) (idx := []) h
  exact ⟨cA, fun n z => ⟨fun k h => (by cases h), kA, h2, comp, h3⟩, h1⟩
theorem st_ao {args : Array Value} {s : State} {C : String} (h : (Cond.arrayOver (.object C)).before args s = true) : ∃ cA : ClassId, ArrOfT s cA (.object C) ∧ va_RA s cA (.object C) := by
  obtain ⟨comp, cA, kA, h1, -, h3, h4, h5⟩ := Cond.arrayOver_spec (args := args) (first := s) (o := none) (s := s) (idx := []) h
  exact ⟨cA, fun n z => ⟨fun k h => (by cases h), kA, h3, comp, h4⟩, kA, comp, h3, h4, h1, h5⟩
theorem st_aa {args : Array Value} {s : State} {t : FieldType} (h : (Cond.arrayOver (.array t)).before args s = true) : ∃ cA : ClassId, ArrOfT s cA (.array t) ∧ s.vm.findClass ("[" ++ (FieldType.array t).toString) = some cA := by
  obtain ⟨comp, cA, kA, -, h2, h3, h4⟩ := Cond.arrayOver_specA (args := args) (first := s) (o := none) (s := s) (idx := []) h
  exact ⟨cA, fun n z => ⟨fun k h => (by cases h), kA, h2, comp, h3⟩, h4⟩
theorem st_ty {args : Array Value} {s : State} (hts : ∀ w ∈ lw_tbl, w.before args s = true) : ∃ tC : Nat → ClassId, ∀ (d : va_G) (σ : Nat → Nat), (∀ i, i < 9 → σ i = tC i) → ∀ (k : Nat) (q : ClassId × FieldType), (ql_tys (d, σ))[k]? = some q → ArrOfT s q.1 q.2 ∧ va_RA s q.1 q.2 := by
  obtain ⟨c0, A0, B0⟩ := st_ac (hts (.arrayClass .int) (st_at (i := 164) (by decide +kernel)))
  obtain ⟨c1, A1, B1⟩ := st_ac (hts (.arrayClass .long) (st_at (i := 165) (by decide +kernel)))
  obtain ⟨c2, A2, B2⟩ := st_ac (hts (.arrayClass .char) (st_at (i := 1726) (by decide +kernel)))
  obtain ⟨c3, A3, B3⟩ := st_ac (hts (.arrayClass .byte) (st_at (i := 263) (by decide +kernel)))
  obtain ⟨c4, A4, B4⟩ := st_ac (hts (.arrayClass .double) (st_at (i := 2145) (by decide +kernel)))
  obtain ⟨c5, A5, B5⟩ := st_ao (hts (.arrayOver (.object "ClauseLedger$Clause")) (st_at (i := 123) (by decide +kernel)))
  obtain ⟨c6, A6, B6⟩ := st_ao (hts (.arrayOver (.object "ClauseLedger$Book")) (st_at (i := 209) (by decide +kernel)))
  obtain ⟨c7, A7, B7⟩ := st_ao (hts (.arrayOver (.object "ClauseLedger$Command")) (st_at (i := 265) (by decide +kernel)))
  obtain ⟨c8, A8, B8⟩ := st_aa (hts (.arrayOver (.array .int)) (st_at (i := 314) (by decide +kernel)))
  refine ⟨fun k => match k with | 0 => c0 | 1 => c1 | 2 => c2 | 3 => c3 | 4 => c4 | 5 => c5 | 6 => c6 | 7 => c7 | _ => c8, fun d σ e k q hq => ?_⟩
  have e0 := e 0 (by decide)
  have e1 := e 1 (by decide)
  have e2 := e 2 (by decide)
  have e3 := e 3 (by decide)
  have e4 := e 4 (by decide)
  have e5 := e 5 (by decide)
  have e6 := e 6 (by decide)
  have e7 := e 7 (by decide)
  have e8 := e 8 (by decide)
  dsimp only at e0 e1 e2 e3 e4 e5 e6 e7 e8
  match k, hq with
  | 0, hq => cases hq; dsimp only; rw [e0]; exact ⟨A0, B0⟩
  | 1, hq => cases hq; dsimp only; rw [e1]; exact ⟨A1, B1⟩
  | 2, hq => cases hq; dsimp only; rw [e2]; exact ⟨A2, B2⟩
  | 3, hq => cases hq; dsimp only; rw [e3]; exact ⟨A3, B3⟩
  | 4, hq => cases hq; dsimp only; rw [e4]; exact ⟨A4, B4⟩
  | 5, hq => cases hq; dsimp only; rw [e5]; exact ⟨A5, B5⟩
  | 6, hq => cases hq; dsimp only; rw [e6]; exact ⟨A6, B6⟩
  | 7, hq => cases hq; dsimp only; rw [e7]; exact ⟨A7, B7⟩
  | 8, hq => cases hq; dsimp only; rw [e8]; exact ⟨A8, B8⟩
  | k + 9, hq => simp [ql_tys] at hq
/-! the Statement's words of the constants -/
def st_L : List Cond := flatC (Jvm.Cond.and given_1 narrow_1)
def st_pl : List (String × Nat) := [("ClauseLedgerModel", 206), ("ClauseLedgerModel", 215), ("ClauseLedgerModel", 220), ("ClauseLedgerModel", 222), ("ClauseLedgerModel", 224), ("ClauseLedgerModel", 226), ("ClauseLedgerModel", 228), ("ClauseLedgerModel", 230), ("ClauseLedgerModel", 232), ("ClauseLedgerModel", 234), ("ClauseLedger$Kind", 61), ("ClauseLedger$Kind", 63), ("ClauseLedger$Kind", 69), ("ClauseLedger$Kind", 71), ("ClauseLedger$Kind", 74), ("ClauseLedger$Kind", 77), ("ClauseLedger$Kind", 79), ("ClauseLedger$Kind", 82), ("ClauseLedger$Kind", 85), ("ClauseLedger$Kind", 88), ("ClauseLedger$Kind", 91), ("ClauseLedger$Kind", 93), ("ClauseLedger$Kind", 96), ("ClauseLedger$Kind", 98), ("ClauseLedger$Kind", 101)]
def st_tm (i : Nat) : Term := .string (st_pl.getD i ("", 0)).1 (st_pl.getD i ("", 0)).2
def st_kd (i : Nat) : Term := .static "ClauseLedger$Kind" (ql_kn.getD i "") "LClauseLedger$Kind;"
theorem st_OF {o n d : String} {v v' : Value} {a : Nat} {A A' : Nat → Prop} {U : State} {H : Heap} (h : va_OF o n d v a A U H) (h' : va_OF o n d v' a A' U H) : v = v' := by
  obtain ⟨cf, k, fi, f, cell, h1, h2, h3, h4, h5, h6⟩ := h
  obtain ⟨cf', k', fi', f', cell', g1, g2, g3, g4, g5, g6⟩ := h'
  cases h1.symm.trans g1
  cases h3.symm.trans g3
  exact Option.some.inj (h5.symm.trans g5)
theorem st_TT {ty ty' : FieldType} {t N N' : Nat} {f f' : Nat → Value} {A A' : Nat → Prop} {U : State} {H : Heap} (h : va_T ty t N f A U H) (h' : va_T ty' t N' f' A' U H) : Int32.ofNat N = Int32.ofNat N' ∧ ∀ j, j < N → j < N' → f j = f' j := by
  obtain ⟨cell, h1, h2, h3, h4, h5, h6, h7⟩ := h
  obtain ⟨cell', g1, g2, g3, g4, g5, g6, g7⟩ := h'
  cases h1.symm.trans g1
  exact ⟨h5.symm.trans g5, fun j a b => Option.some.inj ((h6 j a).symm.trans (g6 j b))⟩
def st_same (i j : Nat) : Bool := (Int32.ofNat (ql_slen.getD i 0) == Int32.ofNat (ql_slen.getD j 0)) && (List.range 8).all fun k => !(decide (k < ql_slen.getD i 0)) || !(decide (k < ql_slen.getD j 0)) || ((ql_sbyt.getD i []).getD k 0 == (ql_sbyt.getD j []).getD k 0)
theorem st_ap : ∀ i, i < 25 → ∀ j, j < 25 → st_same i j = true → i = j := by decide +kernel
theorem st_apart (i : Nat) (hi : i < 25) (j : Nat) (hj : j < 25) (e : Int32.ofNat (ql_slen.getD i 0) = Int32.ofNat (ql_slen.getD j 0)) (h : ∀ k, k < 8 → k < ql_slen.getD i 0 → k < ql_slen.getD j 0 → (ql_sbyt.getD i []).getD k 0 = (ql_sbyt.getD j []).getD k 0) : i = j := st_ap i hi j hj (by
  unfold st_same
  rw [Bool.and_eq_true, List.all_eq_true]
  refine ⟨beq_iff_eq.mpr e, fun k hk => ?_⟩
  have h8 := List.mem_range.mp hk
  by_cases a : k < ql_slen.getD i 0
  · by_cases b : k < ql_slen.getD j 0
    · rw [h k h8 a b]
      simp
    · rw [decide_eq_false b, Bool.not_false, Bool.or_true, Bool.true_or]
  · rw [decide_eq_false a, Bool.not_false, Bool.true_or, Bool.true_or])
def st_ws (i : Nat) : List Cond := [Cond.exactly (st_tm i) "java/lang/String", Cond.eq (.field (st_tm i) "java/lang/String" "coder" "B") (.int 0), Cond.arrayOf (.field (st_tm i) "java/lang/String" "value" "[B") .byte, Cond.eq (.length (.field (st_tm i) "java/lang/String" "value" "[B")) (.int (Int32.ofNat (ql_slen.getD i 0)))] ++ (List.range (ql_slen.getD i 0)).map fun j => Cond.eq (.elem (.field (st_tm i) "java/lang/String" "value" "[B") (.int (Int32.ofNat j))) (.int ((ql_sbyt.getD i []).getD j 0))
def st_or : List Nat := [0, 1, 2, 3, 4, 5, 6, 7, 8, 9, 22, 23, 10, 11, 12, 13, 14, 15, 16, 17, 18, 19, 20, 21, 24]
theorem st_big : st_or.flatMap st_ws = (st_L.drop 614).take 192 := by decide +kernel
theorem st_bm {i : Nat} (hi : i < 25) {w : Cond} (hw : w ∈ st_ws i) : w ∈ st_L :=
  List.mem_of_mem_drop (List.mem_of_mem_take (st_big ▸ List.mem_flatMap.mpr ⟨i, (show ∀ i, i < 25 → i ∈ st_or by decide) i hi, hw⟩))
theorem st_x1 (i : Nat) (hi : i < 25) : Cond.exactly (st_tm i) "java/lang/String" ∈ st_L := st_bm hi (List.mem_append_left _ List.mem_cons_self)
theorem st_x2 (i : Nat) (hi : i < 25) : Cond.eq (.field (st_tm i) "java/lang/String" "coder" "B") (.int 0) ∈ st_L := st_bm hi (List.mem_append_left _ (List.mem_cons_of_mem _ List.mem_cons_self))
theorem st_x3 (i : Nat) (hi : i < 25) : Cond.arrayOf (.field (st_tm i) "java/lang/String" "value" "[B") .byte ∈ st_L := st_bm hi (List.mem_append_left _ (List.mem_cons_of_mem _ (List.mem_cons_of_mem _ List.mem_cons_self)))
theorem st_x4 (i : Nat) (hi : i < 25) : Cond.eq (.length (.field (st_tm i) "java/lang/String" "value" "[B")) (.int (Int32.ofNat (ql_slen.getD i 0))) ∈ st_L := st_bm hi (List.mem_append_left _ (List.mem_cons_of_mem _ (List.mem_cons_of_mem _ (List.mem_cons_of_mem _ List.mem_cons_self))))
theorem st_x5 (i : Nat) (hi : i < 25) (j : Nat) (hj : j < ql_slen.getD i 0) : Cond.eq (.elem (.field (st_tm i) "java/lang/String" "value" "[B") (.int (Int32.ofNat j))) (.int ((ql_sbyt.getD i []).getD j 0)) ∈ st_L := st_bm hi (List.mem_append_right _ (List.mem_map.mpr ⟨j, List.mem_range.mpr hj, rfl⟩))
theorem st_S {args : Array Value} {s : State} {A : Nat → Prop} (hf : ∀ w ∈ st_L, w.before args s = true) (hA : ∀ a : Nat, a < s.heap.size → ¬ A a) : ∃ adK adV : Nat → Nat, vk_S 25 ql_slen ql_sbyt adK adV A s s.heap ∧ ∀ i : Nat, i < 25 → (st_tm i).eval args s none [] s = some (.ref (adK i)) := by
  have h0 : ∀ i : Nat, ∃ q : Nat × Nat, i < 25 → (st_tm i).eval args s none [] s = some (.ref q.1) ∧ va_O "java/lang/String" q.1 A s s.heap ∧ va_OF "java/lang/String" "coder" "B" (.int 0) q.1 A s s.heap ∧ va_OF "java/lang/String" "value" "[B" (.ref q.2) q.1 A s s.heap ∧ va_T .byte q.2 (ql_slen.getD i 0) (fun j => .int ((ql_sbyt.getD i []).getD j 0)) A s s.heap := by
    intro i
    by_cases hi : i < 25
    · obtain ⟨a, c, cA, kA, q1, q2, q3, q4, q5, q6, -⟩ := Cond.exactly_spec (args := args) (first := s) (o := none) (s := s) (idx := []) (t := st_tm i) (cls := "java/lang/String") (hf _ (st_x1 i hi))
      obtain ⟨t, ht, hT⟩ := va_Tof (f := fun j => .int ((ql_sbyt.getD i []).getD j 0)) (A := A) (N := ql_slen.getD i 0) ((show ∀ i, i < 25 → ql_slen.getD i 0 < 2 ^ 31 by decide +kernel) i hi) (hf _ (st_x3 i hi)) (va_eqt (hf _ (st_x4 i hi))) (fun j hj => va_eqt (hf _ (st_x5 i hi j hj))) hA
      exact ⟨(a, t), fun _ => ⟨q1, ⟨cA, q3, q5, by rw [q6]; exact q2, hA a (Array.getElem?_eq_some_iff.mp q3).1⟩, vk_OFof q1 (va_eqt (hf _ (st_x2 i hi))) hA, vk_OFof q1 ht hA, hT⟩⟩
    · exact ⟨(0, 0), fun h => absurd h hi⟩
  obtain ⟨ad, had⟩ := Classical.axiomOfChoice h0
  refine ⟨fun i => (ad i).1, fun i => (ad i).2, ⟨fun i hi => (had i hi).2, fun i j hi hj e => ?_⟩, fun i hi => (had i hi).1⟩
  have e : (ad i).1 = (ad j).1 := e
  have v1 := (had i hi).2.2.2.1
  rw [e] at v1
  have ev : (ad i).2 = (ad j).2 := Value.ref.inj (st_OF v1 (had j hj).2.2.2.1)
  have t1 := (had i hi).2.2.2.2
  rw [ev] at t1
  have tt := st_TT t1 (had j hj).2.2.2.2
  exact st_apart i hi j hj tt.1 fun k _ a b => Value.int.inj (tt.2 k a b)
