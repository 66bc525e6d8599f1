/-! The constants, all at once; the start of the law. -/
def st_s (tC ad adK adV : Nat → Nat) (t1 t2 t3 t4 : Nat) (i : Nat) : Nat := if i < 100 then tC i else if i < 200 then ad (i - 100) else if i < 300 then adK (i - 200) else if i < 400 then adV (i - 300) else if i = 401 then t1 else if i = 402 then t2 else if i = 403 then t3 else t4
section SS
variable {tC ad adK adV : Nat → Nat} {t1 t2 t3 t4 i : Nat}
theorem st_s0 (h : i < 100) : st_s tC ad adK adV t1 t2 t3 t4 i = tC i := if_pos h
theorem st_s1 (h : i < 100) : st_s tC ad adK adV t1 t2 t3 t4 (100 + i) = ad i := by
  unfold st_s
  rw [if_neg (by omega), if_pos (by omega), Nat.add_sub_cancel_left]
theorem st_s2 (h : i < 100) : st_s tC ad adK adV t1 t2 t3 t4 (200 + i) = adK i := by
  unfold st_s
  rw [if_neg (by omega), if_neg (by omega), if_pos (by omega), Nat.add_sub_cancel_left]
theorem st_s3 (h : i < 100) : st_s tC ad adK adV t1 t2 t3 t4 (300 + i) = adV i := by
  unfold st_s
  rw [if_neg (by omega), if_neg (by omega), if_neg (by omega), if_pos (by omega), Nat.add_sub_cancel_left]
theorem st_s4 : st_s tC ad adK adV t1 t2 t3 t4 401 = t1 ∧ st_s tC ad adK adV t1 t2 t3 t4 402 = t2 ∧ st_s tC ad adK adV t1 t2 t3 t4 403 = t3 ∧ st_s tC ad adK adV t1 t2 t3 t4 404 = t4 := by
  unfold st_s
  exact ⟨by simp, by simp, by simp, by simp⟩
end SS
theorem st_En {E d : String} {nm : List String} {F : List (String × String × String × List Int32)} {ad ad' : Nat → Nat} {A : Nat → Prop} {U : State} {H : Heap} (h : va_En E d nm F ad A U H) (e : ∀ i, i < nm.length → ad' i = ad i) : va_En E d nm F ad' A U H :=
  ⟨fun i hi => by rw [e i hi]; exact h.1 i hi, fun i j hi hj q => h.2 i j hi hj (by rw [← e i hi, ← e j hj]; exact q)⟩
theorem st_Ef {N : Nat} {o n d : String} {v v' : Nat → Value} {ad ad' : Nat → Nat} {A : Nat → Prop} {U : State} {H : Heap} (h : va_Ef N o n d v ad A U H) (e : ∀ i, i < N → ad' i = ad i) (ev : ∀ i, i < N → v' i = v i) : va_Ef N o n d v' ad' A U H := fun i hi => by
  rw [e i hi, ev i hi]
  exact h i hi
theorem st_SS {N : Nat} {len : List Nat} {byt : List (List Int32)} {adK adV adK' adV' : Nat → Nat} {A : Nat → Prop} {U : State} {H : Heap} (h : vk_S N len byt adK adV A U H) (e : ∀ i, i < N → adK' i = adK i) (ev : ∀ i, i < N → adV' i = adV i) : vk_S N len byt adK' adV' A U H :=
  ⟨fun i hi => by rw [e i hi, ev i hi]; exact h.1 i hi, fun i j hi hj q => h.2 i j hi hj (by rw [← e i hi, ← e j hj]; exact q)⟩
theorem st_TC {ty : FieldType} {t N : Nat} {f f' : Nat → Value} {A : Nat → Prop} {U : State} {H : Heap} (h : va_T ty t N f A U H) (e : ∀ i, i < N → f' i = f i) : va_T ty t N f' A U H := by
  obtain ⟨cell, h1, h2, h3, h4, h5, h6, h7⟩ := h
  exact ⟨cell, h1, h2, h3, h4, h5, fun j hj => by rw [e j hj]; exact h6 j hj, h7⟩
theorem st_ml {i : Nat} {w : Cond} (h : st_L[i]? = some w) : w ∈ st_L := List.mem_of_getElem? h
def st_kl : List Nat := [2188, 2189, 2190, 2191, 2192, 2193, 2194, 2195, 272, 2196]
def st_kp : List Nat := [249, 254, 260, 267, 275, 284, 294, 305, 5, 317]
def st_kt : List Nat := [0, 259, 265, 272, 280, 289, 299, 310, 0, 322, 0, 0, 266, 273, 281, 290, 300, 311, 0, 323, 0, 0, 0, 274, 282, 291, 301, 312, 0, 324, 0, 0, 0, 0, 283, 292, 302, 313, 0, 325, 0, 0, 0, 0, 0, 293, 303, 314, 0, 326, 0, 0, 0, 0, 0, 0, 304, 315, 0, 327, 0, 0, 0, 0, 0, 0, 0, 316, 0, 328, 0, 0, 0, 0, 0, 0, 0, 0, 0, 329, 253, 258, 264, 271, 279, 288, 298, 309, 0, 321, 0, 0, 0, 0, 0, 0, 0, 0, 0, 0]
theorem st_k1 (i : Nat) (hi : i < 10) : Cond.laysStatic "ClauseLedger$Kind" (ql_kn.getD i "") "LClauseLedger$Kind;" ∈ lw_tbl := st_at ((show ∀ i, i < 10 → lw_tbl[st_kl.getD i 0]? = some (Cond.laysStatic "ClauseLedger$Kind" (ql_kn.getD i "") "LClauseLedger$Kind;") by decide +kernel) i hi)
def st_kw (i : Nat) : List Cond := [Cond.exactly (st_kd i) "ClauseLedger$Kind", Cond.eq (.field (st_kd i) "java/lang/Enum" "ordinal" "I") (.int (([0, 1, 2, 3, 4, 5, 6, 7, 8, 9] : List Int32).getD i 0)), Cond.eq (.field (st_kd i) "ClauseLedger$Kind" "keyword" "Ljava/lang/String;") (st_tm (ql_kw i)), Cond.eq (.field (st_kd i) "ClauseLedger$Kind" "form" "Ljava/lang/String;") (st_tm (ql_fm i))]
theorem st_kx : ∀ i, i < 10 → st_kw i = (st_L.drop (st_kp.getD i 0)).take 4 := by decide +kernel
theorem st_km {i : Nat} (hi : i < 10) {w : Cond} (hw : w ∈ st_kw i) : w ∈ st_L := List.mem_of_mem_drop (List.mem_of_mem_take (st_kx i hi ▸ hw))
theorem st_k2 (i : Nat) (hi : i < 10) : Cond.exactly (st_kd i) "ClauseLedger$Kind" ∈ st_L := st_km hi List.mem_cons_self
theorem st_k3 (i : Nat) (hi : i < 10) : Cond.eq (.field (st_kd i) "java/lang/Enum" "ordinal" "I") (.int (([0, 1, 2, 3, 4, 5, 6, 7, 8, 9] : List Int32).getD i 0)) ∈ st_L := st_km hi (List.mem_cons_of_mem _ List.mem_cons_self)
theorem st_k4 (i : Nat) (hi : i < 10) (j : Nat) (hj : j < 10) (ne : i ≠ j) : (Cond.not (.eq (st_kd i) (st_kd j)) ∈ st_L) ∨ (Cond.not (.eq (st_kd j) (st_kd i)) ∈ st_L) := ((show ∀ i, i < 10 → ∀ j, j < 10 → i ≠ j → (st_L[st_kt.getD (10 * i + j) 0]? = some (Cond.not (.eq (st_kd i) (st_kd j)))) ∨ (st_L[st_kt.getD (10 * j + i) 0]? = some (Cond.not (.eq (st_kd j) (st_kd i)))) by decide +kernel) i hi j hj ne).imp st_ml st_ml
theorem st_k5 (i : Nat) (hi : i < 10) : Cond.eq (.field (st_kd i) "ClauseLedger$Kind" "keyword" "Ljava/lang/String;") (st_tm (ql_kw i)) ∈ st_L := st_km hi (List.mem_cons_of_mem _ (List.mem_cons_of_mem _ List.mem_cons_self))
theorem st_k6 (i : Nat) (hi : i < 10) : Cond.eq (.field (st_kd i) "ClauseLedger$Kind" "form" "Ljava/lang/String;") (st_tm (ql_fm i)) ∈ st_L := st_km hi (List.mem_cons_of_mem _ (List.mem_cons_of_mem _ (List.mem_cons_of_mem _ List.mem_cons_self)))
theorem st_k7 : ∀ i, i < 10 → ql_kw i < 25 ∧ ql_fm i < 25 := by decide
theorem st_k8 : ∀ i, i < 10 → Cond.eq (.elem (.static "ClauseLedger$Script" "KINDS" "[LClauseLedger$Kind;") (.int (Int32.ofNat i))) (st_kd i) ∈ st_L := va_run (N := 10) (p := 226) (f := fun i => Cond.eq (.elem (.static "ClauseLedger$Script" "KINDS" "[LClauseLedger$Kind;") (.int (Int32.ofNat i))) (st_kd i)) (by decide +kernel)
theorem st_k9 : ∀ i, i < 10 → Cond.eq (.elem (.static "ClauseLedger$1" "$SwitchMap$ClauseLedger$Kind" "[I") (.int (Int32.ofNat i))) (.int (ql_sm i)) ∈ st_L := va_run (N := 10) (p := 239) (f := fun i => Cond.eq (.elem (.static "ClauseLedger$1" "$SwitchMap$ClauseLedger$Kind" "[I") (.int (Int32.ofNat i))) (.int (ql_sm i))) (by decide +kernel)
theorem st_o1 : ∀ i, i < 100 → Cond.eq (.elem (.static "java/lang/Integer" "DigitOnes" "[B") (.int (Int32.ofNat i))) (.int (ql_ones i)) ∈ st_L := va_run (N := 100) (p := 18) (f := fun i => Cond.eq (.elem (.static "java/lang/Integer" "DigitOnes" "[B") (.int (Int32.ofNat i))) (.int (ql_ones i))) (by decide +kernel)
theorem st_o2 : ∀ i, i < 100 → Cond.eq (.elem (.static "java/lang/Integer" "DigitTens" "[B") (.int (Int32.ofNat i))) (.int (ql_tens i)) ∈ st_L := va_run (N := 100) (p := 121) (f := fun i => Cond.eq (.elem (.static "java/lang/Integer" "DigitTens" "[B") (.int (Int32.ofNat i))) (.int (ql_tens i))) (by decide +kernel)
def st_np : List Nat := [125, 130, 131, 132, 134, 135, 137, 138, 140, 142, 143, 167, 168, 171, 173, 175, 177, 179, 181, 215, 267, 274, 276, 278, 280, 293, 295, 309, 321, 334, 2183, 2184, 490, 559, 574, 589, 604, 1177, 491, 492, 493, 494, 495, 496, 829, 830]
theorem st_nx : ql_N = st_np.filterMap (fun i => lw_tbl[i]?) := by decide +kernel
theorem st_n1 (w : Cond) (hw : w ∈ ql_N) : w ∈ lw_tbl := by
  rw [st_nx] at hw
  obtain ⟨i, -, hi⟩ := List.mem_filterMap.mp hw
  exact st_at hi
theorem st_n2 : ∀ w ∈ ql_N, w.onTables = true := by decide +kernel
def st_np3 : List Nat := [2083, 2098, 2103, 2104, 2105, 2106, 2107, 2108, 2109, 2110]
theorem st_nx3 : (ql_ldc.map fun q => Cond.stringRef q.1 q.2.1 q.2.2.1) = st_np3.filterMap (fun i => lw_tbl[i]?) := by decide +kernel
theorem st_n3 (q : String × Nat × String × Nat) (hq : q ∈ ql_ldc) : Cond.stringRef q.1 q.2.1 q.2.2.1 ∈ lw_tbl := by
  have h : Cond.stringRef q.1 q.2.1 q.2.2.1 ∈ ql_ldc.map fun q => Cond.stringRef q.1 q.2.1 q.2.2.1 := List.mem_map.mpr ⟨q, hq, rfl⟩
  rw [st_nx3] at h
  obtain ⟨i, -, hi⟩ := List.mem_filterMap.mp h
  exact st_at hi
theorem st_n4 : ∀ q ∈ ql_ldc, q.2.2.2 < 25 ∧ st_tm q.2.2.2 = .string q.1 q.2.1 := by decide +kernel
def st_np5 : List Nat := [422, 342, 362, 382, 440, 402, 343, 363, 383, 441, 403, 423, 364, 384, 442, 404, 424, 344, 385, 443, 405, 425, 345, 365, 444, 407, 426, 347, 367, 387]
theorem st_nx5 : (ql_nc.map fun q => Cond.not (.castable q.1 q.2)) = st_np5.filterMap (fun i => st_L[i]?) := by decide +kernel
theorem st_n5 (q : String × String) (hq : q ∈ ql_nc) : Cond.not (.castable q.1 q.2) ∈ st_L := by
  have h : Cond.not (.castable q.1 q.2) ∈ ql_nc.map fun q => Cond.not (.castable q.1 q.2) := List.mem_map.mpr ⟨q, hq, rfl⟩
  rw [st_nx5] at h
  obtain ⟨i, -, hi⟩ := List.mem_filterMap.mp h
  exact st_ml hi
theorem st_G {args : Array Value} {s : State} {A : Nat → Prop} (hts : ∀ w ∈ lw_tbl, w.before args s = true) (hf : ∀ w ∈ st_L, w.before args s = true) (hA : ∀ a : Nat, a < s.heap.size → ¬ A a) (tC : Nat → Nat) : ∃ σ : Nat → Nat, (∀ i, i < 9 → σ i = tC i) ∧ ql_G σ A s s.heap := by
  obtain ⟨adK, adV, hS, hev⟩ := st_S hf hA
  obtain ⟨ad, hE, hkd⟩ := va_Enof2 (E := "ClauseLedger$Kind") (d := "LClauseLedger$Kind;") (nm := ql_kn) (F := ql_ke) (A := A) (fun i hi => hts _ (st_k1 i hi)) (hts (.initialized "ClauseLedger$Kind") (st_at (i := 82) (by decide +kernel))) (fun i hi => hf _ (st_k2 i hi)) (fun q hq i hi => by
    obtain rfl := List.mem_singleton.mp hq
    exact hf _ (st_k3 i hi)) (fun i j hi hj ne => (st_k4 i hi j hj ne).imp (hf _) (hf _)) hA
  obtain ⟨t1, e1, T1⟩ := va_Tof (tm := .static "java/lang/Integer" "DigitOnes" "[B") (ty := .byte) (N := 100) (f := fun k => .int (ql_ones k)) (A := A) (by decide) (hf _ (show Cond.arrayOf (.static "java/lang/Integer" "DigitOnes" "[B") .byte ∈ st_L from st_ml (i := 16) (by decide +kernel))) (va_eqt (hf _ (show Cond.eq (.length (.static "java/lang/Integer" "DigitOnes" "[B")) (.int (Int32.ofNat 100)) ∈ st_L from st_ml (i := 17) (by decide +kernel)))) (fun j hj => va_eqt (hf _ (st_o1 j hj))) hA
  obtain ⟨t2, e2, T2⟩ := va_Tof (tm := .static "java/lang/Integer" "DigitTens" "[B") (ty := .byte) (N := 100) (f := fun k => .int (ql_tens k)) (A := A) (by decide) (hf _ (show Cond.arrayOf (.static "java/lang/Integer" "DigitTens" "[B") .byte ∈ st_L from st_ml (i := 119) (by decide +kernel))) (va_eqt (hf _ (show Cond.eq (.length (.static "java/lang/Integer" "DigitTens" "[B")) (.int (Int32.ofNat 100)) ∈ st_L from st_ml (i := 120) (by decide +kernel)))) (fun j hj => va_eqt (hf _ (st_o2 j hj))) hA
  obtain ⟨t3, e3, T3⟩ := va_Tof (tm := .static "ClauseLedger$Script" "KINDS" "[LClauseLedger$Kind;") (ty := .object "ClauseLedger$Kind") (N := 10) (f := fun k => .ref (ad k)) (A := A) (by decide) (hf _ (show Cond.arrayOf (.static "ClauseLedger$Script" "KINDS" "[LClauseLedger$Kind;") (.object "ClauseLedger$Kind") ∈ st_L from st_ml (i := 223) (by decide +kernel))) (va_eqt (hf _ (show Cond.eq (.length (.static "ClauseLedger$Script" "KINDS" "[LClauseLedger$Kind;")) (.int (Int32.ofNat 10)) ∈ st_L from st_ml (i := 224) (by decide +kernel)))) (fun j hj => va_eqv (hf _ (st_k8 j hj)) (hkd j hj)) hA
  obtain ⟨t4, e4, T4⟩ := va_Tof (tm := .static "ClauseLedger$1" "$SwitchMap$ClauseLedger$Kind" "[I") (ty := .int) (N := 10) (f := fun k => .int (ql_sm k)) (A := A) (by decide) (hf _ (show Cond.arrayOf (.static "ClauseLedger$1" "$SwitchMap$ClauseLedger$Kind" "[I") .int ∈ st_L from st_ml (i := 237) (by decide +kernel))) (va_eqt (hf _ (show Cond.eq (.length (.static "ClauseLedger$1" "$SwitchMap$ClauseLedger$Kind" "[I")) (.int (Int32.ofNat 10)) ∈ st_L from st_ml (i := 238) (by decide +kernel)))) (fun j hj => va_eqt (hf _ (st_k9 j hj))) hA
  have iInt := hts (.initialized "java/lang/Integer") (st_at (i := 106) (by decide +kernel))
  have iThr := hts (.initialized Bundle.tN) (st_at (i := 89) (by decide +kernel))
  have Z1 := va_Zref (A := A) (hts (.laysStatic "java/lang/Integer" "DigitOnes" "[B") (st_at (i := 1351) (by decide +kernel))) iInt e1 hA
  have Z2 := va_Zref (A := A) (hts (.laysStatic "java/lang/Integer" "DigitTens" "[B") (st_at (i := 1353) (by decide +kernel))) iInt e2 hA
  have Z3 := va_Zref (A := A) (hts (.laysStatic "ClauseLedger$Script" "KINDS" "[LClauseLedger$Kind;") (st_at (i := 1540) (by decide +kernel))) (hts (.initialized "ClauseLedger$Script") (st_at (i := 75) (by decide +kernel))) e3 hA
  have Z4 := va_Zref (A := A) (hts (.laysStatic "ClauseLedger$1" "$SwitchMap$ClauseLedger$Kind" "[I") (st_at (i := 1605) (by decide +kernel))) (hts (.initialized "ClauseLedger$1") (st_at (i := 107) (by decide +kernel))) e4 hA
  have Z5 := va_Zof (A := A) (hts (.laysStatic "java/lang/String" "COMPACT_STRINGS" "Z") (st_at (i := 241) (by decide +kernel))) (hts (.initialized "java/lang/String") (st_at (i := 78) (by decide +kernel))) (va_eqi (z := 1) (hf _ (show Cond.eq (.static "java/lang/String" "COMPACT_STRINGS" "Z") (.int 1) ∈ st_L from st_ml (i := 4) (by decide +kernel)))) hA
  have Z6 := va_Zqof (A := A) (hts (.laysStatic "jdk/internal/util/Preconditions" "SIOOBE_FORMATTER" "Ljava/util/function/BiFunction;") (st_at (i := 1281) (by decide +kernel))) (hts (.initialized "jdk/internal/util/Preconditions") (st_at (i := 103) (by decide +kernel))) (hf _ (show Cond.isRef (.static "jdk/internal/util/Preconditions" "SIOOBE_FORMATTER" "Ljava/util/function/BiFunction;") ∈ st_L from st_ml (i := 11) (by decide +kernel))) hA
  have Z7 := vx_Zqof (A := A) (hts (.laysStatic Bundle.tN "UNASSIGNED_STACK" Bundle.steD) (st_at (i := 515) (by decide +kernel))) iThr (hf _ (show Cond.isRef (.static Bundle.tN "UNASSIGNED_STACK" Bundle.steD) ∈ st_L from st_ml (i := 9) (by decide +kernel))) hA
  have Z8 := vx_Zqof (A := A) (hts (.laysStatic Bundle.tN "SUPPRESSED_SENTINEL" Bundle.listD) (st_at (i := 517) (by decide +kernel))) iThr (hf _ (show Cond.isRef (.static Bundle.tN "SUPPRESSED_SENTINEL" Bundle.listD) ∈ st_L from st_ml (i := 10) (by decide +kernel))) hA
  have E1 := va_Efof (A := A) (N := 10) (E := "ClauseLedger$Kind") (d0 := "LClauseLedger$Kind;") (nm := ql_kn) (o := "ClauseLedger$Kind") (n := "keyword") (d := "Ljava/lang/String;") (v := fun i => .ref (adK (ql_kw i))) (tm := fun i => st_tm (ql_kw i)) (ad := ad) (fun i hi => hkd i hi) (fun i hi => hf _ (st_k5 i hi)) (fun i hi => hev _ (st_k7 i hi).1) hA
  have E2 := va_Efof (A := A) (N := 10) (E := "ClauseLedger$Kind") (d0 := "LClauseLedger$Kind;") (nm := ql_kn) (o := "ClauseLedger$Kind") (n := "form") (d := "Ljava/lang/String;") (v := fun i => .ref (adK (ql_fm i))) (tm := fun i => st_tm (ql_fm i)) (ad := ad) (fun i hi => hkd i hi) (fun i hi => hf _ (st_k6 i hi)) (fun i hi => hev _ (st_k7 i hi).2) hA
  obtain ⟨s1, s2, s3, s4⟩ := st_s4 (tC := tC) (ad := ad) (adK := adK) (adV := adV) (t1 := t1) (t2 := t2) (t3 := t3) (t4 := t4)
  have sA : ∀ i, i < 10 → st_s tC ad adK adV t1 t2 t3 t4 (100 + i) = ad i := fun i hi => st_s1 (by omega)
  have sK : ∀ i, i < 25 → st_s tC ad adK adV t1 t2 t3 t4 (200 + i) = adK i := fun i hi => st_s2 (by omega)
  have sV : ∀ i, i < 25 → st_s tC ad adK adV t1 t2 t3 t4 (300 + i) = adV i := fun i hi => st_s3 (by omega)
  have s0 : ∀ i, i < 9 → st_s tC ad adK adV t1 t2 t3 t4 i = tC i := fun i hi => st_s0 (by omega)
  generalize st_s tC ad adK adV t1 t2 t3 t4 = σ at s0 s1 s2 s3 s4 sA sK sV
  refine ⟨σ, s0, ⟨Z7, Z8⟩, fun w hw => va_Nw.of (st_n2 w hw) (hts w (st_n1 w hw)), ?_, ⟨⟨Z5, Z6⟩, ⟨⟨?_, ?_⟩, ?_, ?_⟩, ⟨⟨?_, ?_⟩, ?_, ?_⟩, ⟨st_En hE sA, st_Ef E1 sA (fun i hi => by rw [sK _ (st_k7 i hi).1]), st_Ef E2 sA (fun i hi => by rw [sK _ (st_k7 i hi).2])⟩, st_SS hS sK sV⟩, fun q hq => ?_, fun q hq => va_Nc.of (hf _ (st_n5 q hq))⟩
  · exact List.forall_mem_cons.mpr ⟨ql_AO.of (hts (.arrayOver (.object "ClauseLedger$Clause")) (st_at (i := 123) (by decide +kernel))), List.forall_mem_cons.mpr ⟨ql_AO.of (hts (.arrayOver (.object "ClauseLedger$Book")) (st_at (i := 209) (by decide +kernel))), List.forall_mem_cons.mpr ⟨ql_AO.of (hts (.arrayOver (.object "ClauseLedger$Command")) (st_at (i := 265) (by decide +kernel))), List.forall_mem_cons.mpr ⟨ql_AO.of (hts (.arrayOver (.array .int)) (st_at (i := 314) (by decide +kernel))), fun _ h => nomatch h⟩⟩⟩⟩
  · rw [s1]; exact Z1
  · rw [s1]; exact T1
  · rw [s2]; exact Z2
  · rw [s2]; exact T2
  · rw [s3]; exact Z3
  · rw [s3]; exact st_TC T3 fun i hi => by rw [sA i hi]
  · rw [s4]; exact Z4
  · rw [s4]; exact T4
  · have n4 := st_n4 q hq
    refine vk_R.of (hts _ (st_n3 q hq)) ?_
    rw [← n4.2, sK _ n4.1]
    exact hev _ n4.1
