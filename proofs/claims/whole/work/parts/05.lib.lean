/-! An abstract heap (how far it reaches; what lies where), what it says of the machine's heap, and one row for each kind of instruction: a condition on the abstract heap goes in, the machine's walk comes out. -/
abbrev ql_O : Type := (Nat × vp_A) ⊕ (Nat × List Value)
abbrev ql_H : Type := Nat × (Nat → Option ql_O)
abbrev ql_D : Type := va_G × (Nat → ClassId)
def ql_tr (D : ql_D) (o : ql_O) : va_E := match o with
  | .inl x => .inl (D.2 x.1, x.2)
  | .inr x => .inr x
abbrev ql_tys (D : ql_D) : List (ClassId × FieldType) := [(D.2 0, .int), (D.2 1, .long), (D.2 2, .char), (D.2 3, .byte), (D.2 4, .double), (D.2 5, .object "ClauseLedger$Clause"), (D.2 6, .object "ClauseLedger$Book"), (D.2 7, .object "ClauseLedger$Command"), (D.2 8, .array .int)]
def ql_R (D : ql_D) (h : ql_H) (H : Heap) : Prop := H.size = h.1 ∧ ∀ (a : Nat) (o : ql_O), h.2 a = some o → va_at D.1 vwCl (a, ql_tr D o) H
def ql_A (h : ql_H) : Nat → Prop := fun q => h.2 q ≠ none ∨ h.1 ≤ q
/-- words of the tables that aren't good ones: links to nest mates' members, a thrown class is castable to itself -/
def ql_N : List Cond := [Cond.methodLinkNest RX1 43 yX3_init RX11, Cond.fieldLinkNest RX2 27 RX3 "exists" "Z" RX11, Cond.fieldLinkNest RX1 144 RX3 "exists" "Z" RX11, Cond.fieldLinkNest RX11 225 RX3 "exists" "Z" RX11, Cond.fieldLinkNest RX1 76 RX3 "id" "I" RX11, Cond.fieldLinkNest RX11 150 RX3 "id" "I" RX11, Cond.fieldLinkNest RX1 176 RX3 "section" "I" RX11, Cond.fieldLinkNest RX11 161 RX3 "section" "I" RX11, Cond.fieldLinkNest RX11 164 RX3 "enacted" "I" RX11, Cond.fieldLinkNest RX1 128 RX3 "sunset" "I" RX11, Cond.fieldLinkNest RX11 170 RX3 "sunset" "I" RX11, Cond.fieldLinkNest RX2 21 RX1 "clauses" "[LClauseLedger$Clause;" RX11, Cond.fieldLinkNest RX11 221 RX1 "clauses" "[LClauseLedger$Clause;" RX11, Cond.fieldLinkNest RX11 136 RX1 "today" "I" RX11, Cond.fieldLinkNest RX11 276 RX1 "added" "I" RX11, Cond.fieldLinkNest RX11 279 RX1 "amendments" "I" RX11, Cond.fieldLinkNest RX11 282 RX1 "repealed" "I" RX11, Cond.fieldLinkNest RX11 285 RX1 "consolidated" "I" RX11, Cond.fieldLinkNest RX11 288 RX1 "editions" "I" RX11, Cond.fieldLinkNest RX11 360 RX6 "size" "I" RX11, Cond.methodLinkNest RX8 31 yX4_init RX11, Cond.fieldLinkNest RX8 82 RX4 "kind" "LClauseLedger$Kind;" RX11, Cond.fieldLinkNest RX8 104 RX4 "first" "I" RX11, Cond.fieldLinkNest RX8 107 RX4 "second" "I" RX11, Cond.fieldLinkNest RX8 118 RX4 "note" "C" RX11, Cond.fieldLinkNest RX11 357 RX8 "commandCount" "I" RX11, Cond.fieldLinkNest RX11 347 RX8 "readUpTo" "I" RX11, Cond.methodLinkNest RX11 53 yX5_init RX11, Cond.methodLinkNest RX11 60 yX10_init RX11, Cond.methodLinkNest RX11 67 yX2_init RX11, Cond.fieldLinkNest RX8 63 RX7 "keyword" "Ljava/lang/String;" RX11, Cond.fieldLinkNest RX8 94 RX7 "form" "Ljava/lang/String;" RX11, Cond.castable "java/util/NoSuchElementException" "java/util/NoSuchElementException", Cond.castable "java/lang/IndexOutOfBoundsException" "java/lang/IndexOutOfBoundsException", Cond.castable "java/lang/IllegalArgumentException" "java/lang/IllegalArgumentException", Cond.castable "java/lang/IllegalStateException" "java/lang/IllegalStateException", Cond.castable "java/lang/UnsupportedOperationException" "java/lang/UnsupportedOperationException", Cond.castable "java/lang/ArithmeticException" "java/lang/ArithmeticException", Cond.declares ⟨"java/lang/RuntimeException", "<init>", "()V"⟩, Cond.declares ⟨"java/lang/RuntimeException", "<init>", "(Ljava/lang/String;)V"⟩, Cond.declares ⟨"java/lang/Exception", "<init>", "()V"⟩, Cond.declares ⟨"java/lang/Exception", "<init>", "(Ljava/lang/String;)V"⟩, Cond.declares ⟨"java/lang/Throwable", "<init>", "()V"⟩, Cond.declares ⟨"java/lang/Throwable", "<init>", "(Ljava/lang/String;)V"⟩, Cond.declares ⟨"java/lang/IndexOutOfBoundsException", "<init>", "()V"⟩, Cond.declares ⟨"java/lang/IndexOutOfBoundsException", "<init>", "(Ljava/lang/String;)V"⟩]
def ql_isN : Cond → Bool
  | .fieldLinkNest .. => true
  | .methodLinkNest .. => true
  | .castable .. => true
  | .declares .. => true
  | _ => false
theorem ql_N_is : ∀ w ∈ ql_N, ql_isN w = true := by decide +kernel
theorem ql_N_moved {w : Cond} (hw : ql_isN w = true) {s U : State} (hW : s.WarmedH U.vm) (h : va_Nw w s) : va_Nw w U := by
  cases w <;> first | exact va_Nw.warmF hW h | exact va_Nw.warmM hW h | exact va_Nw.warmC hW h | exact va_Nw.warmD hW h | (simp [ql_isN] at hw)
theorem ql_N_same {w : Cond} (hw : ql_isN w = true) {u U : State} (e : u.vm = U.vm) (h : va_Nw w u) : va_Nw w U := by
  cases w <;> first | (simp [ql_isN] at hw; done) | exact va_Nw.same rfl e h
theorem ql_N_use {w : Cond} (hw : ql_isN w = true) {A : Array Value} {U : State} (h : va_Nw w U) : w.before A U = true := by
  cases w <;> first | (simp [ql_isN] at hw; done) | exact va_Nw.use rfl h
/-- arrays of these may be made -/
def ql_AO (ty : FieldType) (U : State) : Prop := (Cond.arrayOver ty).before #[] U = true
theorem ql_AO.of {ty : FieldType} {A : Array Value} {U : State} (h : (Cond.arrayOver ty).before A U = true) : ql_AO ty U := h
theorem ql_AO.use {ty : FieldType} {A : Array Value} {U : State} (h : ql_AO ty U) : (Cond.arrayOver ty).before A U = true := h
theorem ql_AO.moved {ty : FieldType} {u U : State} (hvm : u.vm.Alike U.vm) (h : ql_AO ty u) : ql_AO ty U := by
  have h1 : (Cond.arrayOver ty).before #[] (u.setVm U.vm) = true := by rw [Cond.arrayOver_setVmC hvm ty]; exact h
  exact h1
def ql_over : List FieldType := [.object "ClauseLedger$Clause", .object "ClauseLedger$Book", .object "ClauseLedger$Command", .array .int]
/-- the constant Strings, by their places: where they stand, how long, their bytes -/
def ql_ldc : List (String × Nat × String × Nat) := [("ClauseLedgerModel", 206, "dd", 0), ("ClauseLedgerModel", 215, "ut", 1), ("ClauseLedgerModel", 220, "nset", 2), ("ClauseLedgerModel", 222, "et", 3), ("ClauseLedgerModel", 224, "t", 4), ("ClauseLedgerModel", 226, "ite", 5), ("ClauseLedgerModel", 228, "ncite", 6), ("ClauseLedgerModel", 230, "epeal", 7), ("ClauseLedgerModel", 232, "dit", 8), ("ClauseLedgerModel", 234, "ait", 9)]
def ql_slen : List Nat := [2, 2, 4, 2, 1, 3, 5, 5, 3, 3, 4, 3, 4, 4, 4, 4, 3, 7, 5, 7, 7, 1, 4, 0, 5]
def ql_sbyt : List (List Int32) := [[100, 100], [117, 116], [110, 115, 101, 116], [101, 116], [116], [105, 116, 101], [110, 99, 105, 116, 101], [101, 112, 101, 97, 108], [100, 105, 116], [97, 105, 116], [97, 100, 100, 32], [49, 32, 110], [112, 117, 116, 32], [49, 32, 50, 110], [115, 101, 116, 32], [99, 117, 116, 32], [49, 32, 50], [115, 117, 110, 115, 101, 116, 32], [99, 105, 116, 101, 32], [117, 110, 99, 105, 116, 101, 32], [114, 101, 112, 101, 97, 108, 32], [49], [101, 100, 105, 116], [], [119, 97, 105, 116, 32]]
def ql_sl (k : Nat) : Nat := ql_slen.getD k 0
def ql_sb (k j : Nat) : Int32 := (ql_sbyt.getD k []).getD j 0
/-- a Kind's keyword and form, by their Strings' places -/
def ql_kw (i : Nat) : Nat := ([10, 12, 14, 15, 17, 18, 19, 20, 22, 24] : List Nat).getD i 0
def ql_fm (i : Nat) : Nat := ([11, 13, 13, 16, 16, 16, 16, 21, 23, 21] : List Nat).getD i 0
def ql_sm (i : Nat) : Int32 := ([1, 2, 3, 4, 5, 6, 7, 8, 0, 9] : List Int32).getD i 0
def ql_ones (i : Nat) : Int32 := nI (48 + i % 10)
def ql_tens (i : Nat) : Int32 := nI (48 + i / 10)
def ql_kn : List String := ["ADD", "PUT", "SET", "CUT", "SUNSET", "CITE", "UNCITE", "REPEAL", "EDIT", "WAIT"]
def ql_ke : List (String × String × String × List Int32) := [("java/lang/Enum", "ordinal", "I", [0, 1, 2, 3, 4, 5, 6, 7, 8, 9])]
/-- statics, constants, constant Strings: σ tells where they lie (100 + i: a Kind, 200 + k: a String, 300 + k: its bytes, 401 and on: arrays) -/
def ql_Z (σ : Nat → Nat) (A : Nat → Prop) (U : State) (H : Heap) : Prop :=
  (va_Z "java/lang/String" "COMPACT_STRINGS" "Z" (.int 1) A U H ∧ va_Zq "jdk/internal/util/Preconditions" "SIOOBE_FORMATTER" "Ljava/util/function/BiFunction;" A U H) ∧
  ((va_Z "java/lang/Integer" "DigitOnes" "[B" (.ref (σ 401)) A U H ∧ va_T .byte (σ 401) 100 (fun k => .int (ql_ones k)) A U H) ∧ va_Z "java/lang/Integer" "DigitTens" "[B" (.ref (σ 402)) A U H ∧ va_T .byte (σ 402) 100 (fun k => .int (ql_tens k)) A U H) ∧
  ((va_Z "ClauseLedger$Script" "KINDS" "[LClauseLedger$Kind;" (.ref (σ 403)) A U H ∧ va_T (.object "ClauseLedger$Kind") (σ 403) 10 (fun k => .ref (σ (100 + k))) A U H) ∧ va_Z "ClauseLedger$1" "$SwitchMap$ClauseLedger$Kind" "[I" (.ref (σ 404)) A U H ∧ va_T .int (σ 404) 10 (fun k => .int (ql_sm k)) A U H) ∧
  (va_En "ClauseLedger$Kind" "LClauseLedger$Kind;" ql_kn ql_ke (fun i => σ (100 + i)) A U H ∧ va_Ef 10 "ClauseLedger$Kind" "keyword" "Ljava/lang/String;" (fun i => .ref (σ (200 + ql_kw i))) (fun i => σ (100 + i)) A U H ∧ va_Ef 10 "ClauseLedger$Kind" "form" "Ljava/lang/String;" (fun i => .ref (σ (200 + ql_fm i))) (fun i => σ (100 + i)) A U H) ∧
  vk_S 25 ql_slen ql_sbyt (fun k => σ (200 + k)) (fun k => σ (300 + k)) A U H
theorem ql_Z.moved {σ : Nat → Nat} {A : Nat → Prop} {u U : State} {H : Heap} (hvm : u.vm.Alike U.vm) (g : ql_Z σ A u H) : ql_Z σ A U H :=
  ⟨⟨g.1.1.moved hvm, g.1.2.moved hvm⟩, ⟨⟨g.2.1.1.1.moved hvm, g.2.1.1.2.moved hvm⟩, g.2.1.2.1.moved hvm, g.2.1.2.2.moved hvm⟩, ⟨⟨g.2.2.1.1.1.moved hvm, g.2.2.1.1.2.moved hvm⟩, g.2.2.1.2.1.moved hvm, g.2.2.1.2.2.moved hvm⟩, ⟨g.2.2.2.1.1.moved hvm, g.2.2.2.1.2.1.moved hvm, g.2.2.2.1.2.2.moved hvm⟩, g.2.2.2.2.moved hvm⟩
theorem ql_Z.kept {σ : Nat → Nat} {A : Nat → Prop} {U : State} {H H1 : Heap} (g : ql_Z σ A U H) (hq : ∀ a : Nat, a < H.size → ¬ A a → H1[a]? = H[a]?) : ql_Z σ A U H1 :=
  ⟨⟨g.1.1.kept hq, g.1.2.kept hq⟩, ⟨⟨g.2.1.1.1.kept hq, g.2.1.1.2.kept hq⟩, g.2.1.2.1.kept hq, g.2.1.2.2.kept hq⟩, ⟨⟨g.2.2.1.1.1.kept hq, g.2.2.1.1.2.kept hq⟩, g.2.2.1.2.1.kept hq, g.2.2.1.2.2.kept hq⟩, ⟨g.2.2.2.1.1.kept hq, g.2.2.2.1.2.1.kept hq, g.2.2.2.1.2.2.kept hq⟩, g.2.2.2.2.kept hq⟩
theorem ql_Z.narrow {σ : Nat → Nat} {A B : Nat → Prop} {U : State} {H : Heap} (g : ql_Z σ A U H) (hAB : ∀ q, B q → A q) : ql_Z σ B U H :=
  ⟨⟨g.1.1.narrow hAB, g.1.2.narrow hAB⟩, ⟨⟨g.2.1.1.1.narrow hAB, g.2.1.1.2.narrow hAB⟩, g.2.1.2.1.narrow hAB, g.2.1.2.2.narrow hAB⟩, ⟨⟨g.2.2.1.1.1.narrow hAB, g.2.2.1.1.2.narrow hAB⟩, g.2.2.1.2.1.narrow hAB, g.2.2.1.2.2.narrow hAB⟩, ⟨g.2.2.2.1.1.narrow hAB, g.2.2.2.1.2.1.narrow hAB, g.2.2.2.1.2.2.narrow hAB⟩, g.2.2.2.2.narrow hAB⟩
/-- classes of throws of which none is cast to another -/
def ql_nc : List (String × String) := (["java/util/NoSuchElementException", "java/lang/IndexOutOfBoundsException", "java/lang/IllegalArgumentException", "java/lang/IllegalStateException", "java/lang/UnsupportedOperationException", "java/lang/ArithmeticException"].flatMap fun a => ["java/util/NoSuchElementException", "java/lang/IndexOutOfBoundsException", "java/lang/IllegalArgumentException", "java/lang/IllegalStateException", "java/lang/UnsupportedOperationException", "java/lang/ArithmeticException"].map fun b => (a, b)).filter fun q => q.1 != q.2
/-- what stays as it was at the start: the statics that a throw reads; the words above; the constants -/
def ql_G (σ : Nat → Nat) (A : Nat → Prop) (U : State) (H : Heap) : Prop := (vx_Zq Bundle.tN "UNASSIGNED_STACK" Bundle.steD A U H ∧ vx_Zq Bundle.tN "SUPPRESSED_SENTINEL" Bundle.listD A U H) ∧ (∀ w ∈ ql_N, va_Nw w U) ∧ (∀ ty ∈ ql_over, ql_AO ty U) ∧ ql_Z σ A U H ∧ (∀ q ∈ ql_ldc, vk_R q.1 q.2.1 q.2.2.1 (σ (200 + q.2.2.2)) U) ∧ ∀ q ∈ ql_nc, va_Nc q.1 q.2 U
theorem ql_G.moved {σ : Nat → Nat} {A : Nat → Prop} {u U : State} {H : Heap} (hW : u.WarmedH U.vm) (g : ql_G σ A u H) : ql_G σ A U H := ⟨⟨g.1.1.moved hW.alike, g.1.2.moved hW.alike⟩, fun w hw => ql_N_moved (ql_N_is w hw) hW (g.2.1 w hw), fun ty ht => (g.2.2.1 ty ht).moved hW.alike, g.2.2.2.1.moved hW.alike, fun q hq => vk_R.warm hW (g.2.2.2.2.1 q hq), fun q hq => (g.2.2.2.2.2 q hq).moved hW.alike⟩
theorem ql_G.same {σ : Nat → Nat} {A : Nat → Prop} {u U : State} {H : Heap} (e : u.vm = U.vm) (g : ql_G σ A u H) : ql_G σ A U H := ⟨⟨g.1.1.moved (by rw [← e]; exact Vm.Alike.refl u.vm), g.1.2.moved (by rw [← e]; exact Vm.Alike.refl u.vm)⟩, fun w hw => ql_N_same (ql_N_is w hw) e (g.2.1 w hw), fun ty ht => (g.2.2.1 ty ht).moved (by rw [← e]; exact Vm.Alike.refl u.vm), g.2.2.2.1.moved (by rw [← e]; exact Vm.Alike.refl u.vm), fun q hq => vk_R.same e.symm (g.2.2.2.2.1 q hq), fun q hq => (g.2.2.2.2.2 q hq).moved (by rw [← e]; exact Vm.Alike.refl u.vm)⟩
theorem ql_G.kept {σ : Nat → Nat} {A : Nat → Prop} {U : State} {H H1 : Heap} (g : ql_G σ A U H) (hq : ∀ a : Nat, a < H.size → ¬ A a → H1[a]? = H[a]?) : ql_G σ A U H1 := ⟨⟨g.1.1.kept hq, g.1.2.kept hq⟩, g.2.1, g.2.2.1, g.2.2.2.1.kept hq, g.2.2.2.2⟩
theorem ql_G.narrow {σ : Nat → Nat} {A B : Nat → Prop} {U : State} {H : Heap} (g : ql_G σ A U H) (hAB : ∀ q, B q → A q) : ql_G σ B U H := ⟨⟨g.1.1.narrow hAB, g.1.2.narrow hAB⟩, g.2.1, g.2.2.1, g.2.2.2.1.narrow hAB, g.2.2.2.2⟩
def ql_K (D : ql_D) (h : ql_H) (U : State) : Prop := va_K D.1 vwCl (ql_tys D) U ∧ ql_G D.2 (ql_A h) U U.heap
def ql_P (D : ql_D) (h : ql_H) (U : State) : Prop := ql_R D h U.heap ∧ ql_K D h U
theorem ql_P.blind {D : ql_D} {h : ql_H} {As : List Value} : FrameBlind (va_Pc As (ql_P D h)) := fun a U g mk q => ⟨q.1, q.2.1, va_K.moved (u := U) (U := U.calling g mk a) (Vm.Alike.refl U.vm) q.2.2.1, ql_G.same (u := U) (U := U.calling g mk a) rfl q.2.2.2⟩
def ql_Q (D : ql_D) (h : ql_H) (Qr : Option Value → ql_H → Prop) : Array Value → State → Outcome → State → Prop := fun _ st o t => (∃ (v : Option Value) (h' : ql_H), o = .returned v ∧ Qr v h' ∧ ql_R D h' t.heap ∧ ∀ q, h'.2 q ≠ none → ql_A h q) ∧ va_F (ql_A h) st t
def ql_X (D : ql_D) (h : ql_H) (X : String → ql_H → Prop) : String → State → State → Prop := fun E st t => (∃ h' : ql_H, X E h' ∧ ql_R D h' t.heap ∧ ∀ q, h'.2 q ≠ none → ql_A h q) ∧ va_F (ql_A h) st t
def ql_M (D : ql_D) (l : Launch) (y : MethodName) (bytes : ByteArray) (maxL : Nat) (ret : Option FieldType) (rm : Room) (h : ql_H) (As : List Value) (Qr : Option Value → ql_H → Prop) (X : String → ql_H → Prop) (mc ms : Nat) : Prop :=
  vx_Met l y (Cond.code y bytes maxL ret :: ql_W) rm (va_Pc As (ql_P D h)) (ql_Q D h Qr) (ql_X D h X) mc ms (ql_A h)
/-- results by their types -/
def ql_rI (Q : Int32 → ql_H → Prop) (v : Option Value) (h : ql_H) : Prop := ∃ x : Int32, v = some (.int x) ∧ Q x h
def ql_rJ (Q : Int64 → ql_H → Prop) (v : Option Value) (h : ql_H) : Prop := ∃ x : Int64, v = some (.long x) ∧ Q x h
def ql_rD (Q : UInt64 → ql_H → Prop) (v : Option Value) (h : ql_H) : Prop := ∃ x : UInt64, v = some (.double x) ∧ Q x h
def ql_rF (Q : UInt32 → ql_H → Prop) (v : Option Value) (h : ql_H) : Prop := ∃ x : UInt32, v = some (.float x) ∧ Q x h
def ql_rR (Q : Option Nat → ql_H → Prop) (v : Option Value) (h : ql_H) : Prop := ∃ x : Option Nat, v = some (va_rf x) ∧ Q x h
def ql_rV (Q : ql_H → Prop) (v : Option Value) (h : ql_H) : Prop := v = none ∧ Q h
/-- where a walk stands -/
def ql_S (D : ql_D) (h0 : ql_H) (s : State) (H : Heap) (locs : List Loc) (h : ql_H) : Prop := ql_R D h H ∧ va_S (ql_A h0) s.heap H locs ∧ (∀ q, h.2 q ≠ none → ql_A h0 q) ∧ s.heap.size = h0.1
def ql_C (D : ql_D) (h0 : ql_H) (p : Program) (m : MethodId) (c : Code) (cc : ByteArray) (nL : Nat) (s : State) (args : Array Value) (own : String) : Prop := CallFix p m c cc nL s args ql_W own ∧ ql_K D h0 s
def ql_up (h : ql_H) (a : Nat) (o : ql_O) : ql_H := (h.1, fun q => if q = a then some o else h.2 q)
/-- a class's fields -/
def ql_F (ci k : Nat) (Cn : String) (T : u_T) (N : Nat) : Prop := vwCl[ci]? = some (Cn, T, N) ∧ k < N ∧ ∀ w ∈ u_ws Cn T N, w ∈ ql_W
/-- a method that may be called -/
def ql_Y (y : MethodName) (bytes : ByteArray) (maxL : Nat) (ret : Option FieldType) (n : Nat) : Prop :=
  Cond.code y bytes maxL ret ∈ ql_W ∧ Cond.initialized y.cls ∈ ql_W ∧ y.cls ≠ "java/lang/invoke/MethodHandle" ∧ y.cls ≠ "java/lang/invoke/VarHandle" ∧ (parseMethodDescriptor y.desc).map (fun d => d.parameters.length) = some n
-- reading a value by its type
def ql_asI (v : Value) (K : Int32 → Prop) : Prop := match v with
  | .int x => K x
  | _ => False
def ql_asJ (v : Value) (K : Int64 → Prop) : Prop := match v with
  | .long x => K x
  | _ => False
def ql_asR (v : Value) (K : Option Nat → Prop) : Prop := match v with
  | .null => K none
  | .ref a => K (some a)
  | _ => False
theorem ql_asI_out {v : Value} {K : Int32 → Prop} (w : ql_asI v K) : ∃ x, v = .int x ∧ K x := by
  cases v <;> first | exact w.elim | exact ⟨_, rfl, w⟩
theorem ql_asJ_out {v : Value} {K : Int64 → Prop} (w : ql_asJ v K) : ∃ x, v = .long x ∧ K x := by
  cases v <;> first | exact w.elim | exact ⟨_, rfl, w⟩
theorem ql_asR_out {v : Value} {K : Option Nat → Prop} (w : ql_asR v K) : ∃ x, v = va_rf x ∧ K x := by
  cases v <;> first | exact w.elim | exact ⟨none, rfl, w⟩ | exact ⟨some _, rfl, w⟩
/-- the object of class ci at r -/
def ql_ob (h : ql_H) (r : Option Nat) (ci : Nat) (K : Nat → List Value → Prop) : Prop := match r with
  | none => False
  | some a => match h.2 a with
    | some (.inr o) => o.1 = ci ∧ K a o.2
    | _ => False
theorem ql_ob_out {h : ql_H} {r : Option Nat} {ci : Nat} {K : Nat → List Value → Prop} (w : ql_ob h r ci K) : ∃ a fs, r = some a ∧ h.2 a = some (.inr (ci, fs)) ∧ K a fs := by
  cases r with
  | none => exact w.elim
  | some a =>
    unfold ql_ob at w
    dsimp only at w
    split at w
    · rename_i o ho
      obtain ⟨rfl, w⟩ := w
      exact ⟨a, o.2, rfl, ho, w⟩
    · exact w.elim
/-- the array of kind kd at r -/
def ql_ar (h : ql_H) (r : Option Nat) (kd : Nat) (K : Nat → vp_A → Prop) : Prop := match r with
  | none => False
  | some a => match h.2 a with
    | some (.inl x) => x.1 = kd ∧ K a x.2
    | _ => False
theorem ql_ar_out {h : ql_H} {r : Option Nat} {kd : Nat} {K : Nat → vp_A → Prop} (w : ql_ar h r kd K) : ∃ a x, r = some a ∧ h.2 a = some (.inl (kd, x)) ∧ K a x := by
  cases r with
  | none => exact w.elim
  | some a =>
    unfold ql_ar at w
    dsimp only at w
    split at w
    · rename_i x hx
      obtain ⟨rfl, w⟩ := w
      exact ⟨a, x.2, rfl, hx, w⟩
    · exact w.elim
/-- field k of it -/
def ql_gV (h : ql_H) (r : Option Nat) (ci k : Nat) (K : Value → Prop) : Prop := ql_ob h r ci fun _ fs => match fs[k]? with
  | some v => K v
  | none => False
theorem ql_gV_out {h : ql_H} {r : Option Nat} {ci k : Nat} {K : Value → Prop} (w : ql_gV h r ci k K) : ∃ a fs v, r = some a ∧ h.2 a = some (.inr (ci, fs)) ∧ fs[k]? = some v ∧ K v := by
  obtain ⟨a, fs, h1, h2, w⟩ := ql_ob_out w
  split at w
  · rename_i v hv
    exact ⟨a, fs, v, h1, h2, hv, w⟩
  · exact w.elim
def ql_gI (h : ql_H) (r : Option Nat) (ci k : Nat) (K : Int32 → Prop) : Prop := ql_gV h r ci k fun v => ql_asI v K
def ql_gJ (h : ql_H) (r : Option Nat) (ci k : Nat) (K : Int64 → Prop) : Prop := ql_gV h r ci k fun v => ql_asJ v K
def ql_gR (h : ql_H) (r : Option Nat) (ci k : Nat) (K : Option Nat → Prop) : Prop := ql_gV h r ci k fun v => ql_asR v K
def ql_pV (h : ql_H) (r : Option Nat) (ci k : Nat) (v : Value) (K : ql_H → Prop) : Prop := ql_ob h r ci fun a fs => k < fs.length ∧ K (ql_up h a (.inr (ci, fs.set k v)))
def ql_len (h : ql_H) (r : Option Nat) (kd : Nat) (K : Int32 → Prop) : Prop := ql_ar h r kd fun _ x => K (nI x.1)
def ql_lI (h : ql_H) (r : Option Nat) (kd : Nat) (i : Int32) (K : Int32 → Prop) : Prop := ql_ar h r kd fun _ x => match x.2 with
  | .inl f => vp_in i x.1 ∧ K (f i.toNatClampNeg)
  | _ => False
def ql_lJ (h : ql_H) (r : Option Nat) (i : Int32) (K : Int64 → Prop) : Prop := ql_ar h r 1 fun _ x => match x.2 with
  | .inr (.inl f) => vp_in i x.1 ∧ K (f i.toNatClampNeg)
  | _ => False
def ql_lD (h : ql_H) (r : Option Nat) (i : Int32) (K : UInt64 → Prop) : Prop := ql_ar h r 4 fun _ x => match x.2 with
  | .inr (.inr (.inr (.inl f))) => vp_in i x.1 ∧ K (f i.toNatClampNeg)
  | _ => False
def ql_lR (h : ql_H) (r : Option Nat) (kd : Nat) (i : Int32) (K : Option Nat → Prop) : Prop := ql_ar h r kd fun _ x => match x.2 with
  | .inr (.inr (.inr (.inr f))) => vp_in i x.1 ∧ K (f i.toNatClampNeg)
  | _ => False
def ql_sI (h : ql_H) (r : Option Nat) (kd : Nat) (i : Int32) (v : Int32) (K : ql_H → Prop) : Prop := ql_ar h r kd fun a x => match x.2 with
  | .inl f => vp_in i x.1 ∧ K (ql_up h a (.inl (kd, x.1, .inl (upd f i.toNatClampNeg v))))
  | _ => False
def ql_sJ (h : ql_H) (r : Option Nat) (i : Int32) (v : Int64) (K : ql_H → Prop) : Prop := ql_ar h r 1 fun a x => match x.2 with
  | .inr (.inl f) => vp_in i x.1 ∧ K (ql_up h a (.inl (1, x.1, .inr (.inl (vp_updL f i.toNatClampNeg v)))))
  | _ => False
def ql_sD (h : ql_H) (r : Option Nat) (i : Int32) (v : UInt64) (K : ql_H → Prop) : Prop := ql_ar h r 4 fun a x => match x.2 with
  | .inr (.inr (.inr (.inl f))) => vp_in i x.1 ∧ K (ql_up h a (.inl (4, x.1, .inr (.inr (.inr (.inl (vf_upd f i.toNatClampNeg v)))))))
  | _ => False
def ql_sR (h : ql_H) (r : Option Nat) (kd ci : Nat) (i : Int32) (v : Option Nat) (K : ql_H → Prop) : Prop := ql_ob h v ci fun b _ => ql_ar h r kd fun a x => match x.2 with
  | .inr (.inr (.inr (.inr f))) => vp_in i x.1 ∧ K (ql_up h a (.inl (kd, x.1, .inr (.inr (.inr (.inr (va_up f i.toNatClampNeg (some b))))))))
  | _ => False
theorem ql_S.put {D : ql_D} {h0 h : ql_H} {s : State} {H H1 : Heap} {locs : List Loc} {a k : Nat} {o o' : ql_O} (S : ql_S D h0 s H locs h) (ha : h.2 a = some o) (e : va_at D.1 vwCl (a, ql_tr D o') H1) (z : H1.size = H.size) (oq : ∀ q : Nat, q ≠ a → H1[q]? = H[q]?) : ql_S D h0 s H1 (locs ++ [⟨a, k⟩]) (ql_up h a o') := by
  obtain ⟨⟨hz, hr⟩, hs, hd, h0z⟩ := S
  have hA : ql_A h0 a := hd a (by rw [ha]; exact fun q => by cases q)
  refine ⟨⟨z.trans hz, fun q x hq => ?_⟩, hs.put z oq hA, fun q hq => ?_, h0z⟩
  · by_cases e1 : q = a
    · subst e1
      have e2 : some o' = some x := by rw [← hq]; exact (if_pos rfl).symm
      cases e2
      exact e
    · have hq' : h.2 q = some x := by rw [← hq]; exact (if_neg e1).symm
      exact (hr q x hq').kept (oq q e1)
  · by_cases e1 : q = a
    · rw [e1]; exact hA
    · exact hd q (fun z9 => hq ((if_neg e1).trans z9))
theorem ql_C.lift {D : ql_D} {h0 h : ql_H} {p : Program} {m : MethodId} {c : Code} {cc : ByteArray} {nL : Nat} {s : State} {args : Array Value} {own : String} {H : Heap} {locs : List Loc} (C : ql_C D h0 p m c cc nL s args own) (S : ql_S D h0 s H locs h) {As : List Value} : ∀ U : State, U.heap = H → s.WarmedH U.vm → va_Pc As (ql_P D h) As.toArray U := by
  intro U hU hW
  obtain ⟨hR, hs, hd, hz⟩ := S
  have hAA : ∀ q, ql_A h q → ql_A h0 q := fun q hq => hq.elim (hd q) (fun hl => Or.inr (by rw [← hz]; exact Nat.le_trans hs.1 (by rw [hR.1]; exact hl)))
  refine ⟨rfl, by rw [hU]; exact hR, va_K.moved hW.alike C.2.1, ?_⟩
  rw [hU]
  exact ((C.2.2.kept hs.2.1).narrow hAA).moved hW
theorem ql_S.in {D : ql_D} {h0 h : ql_H} {s : State} {H : Heap} {locs : List Loc} (S : ql_S D h0 s H locs h) : ∀ q, ql_A h q → ql_A h0 q := fun q hq => hq.elim (S.2.2.1 q) (fun hl => Or.inr (by rw [← S.2.2.2]; exact Nat.le_trans S.2.1.1 (by rw [S.1.1]; exact hl)))
theorem ql_S.one {D : ql_D} {h0 h : ql_H} {s : State} {H : Heap} {locs : List Loc} (S : ql_S D h0 s H locs h) {a : Nat} {o : ql_O} (ha : h.2 a = some o) : va_P D.1 vwCl [(a, ql_tr D o)] H := by
  intro k q hk
  match k, hk with
  | 0, hk => cases hk; exact S.1.2 a o ha
  | k + 1, hk => simp at hk
section QL
variable {p : Program} {l : Launch} {e : Env} {R : Room} {s : State} {m : MethodId} {args : Array Value} {below : List Frame} {meth : Method} {c : Code} {H : Heap} {locs : List Loc} {cells slots : Nat} {Q : State → Prop}
variable {cc : ByteArray} {pc nL : Nat} {ls : Array Slot} {rest : List Value} {D : ql_D} {h0 h : ql_H} {own : String}
-- fields
theorem ql_getV (C : ql_C D h0 p m c cc nL s args own) (S : ql_S D h0 s H locs h) {ci k N index : Nat} {Cn : String} {T : u_T} (F : ql_F ci k Cn T N) (hl : Cond.fieldLink own index (T k).1 (T k).2.1 (T k).2.2.1 ∈ ql_W) (hdg : decode cc pc = .ok (.getfield index, 3)) {r : Option Nat} {K : Value → Prop} (w : ql_gV h r ci k K)
    (kk : ∀ v, K v → W p l e R s m args below meth c H locs cells slots Q (F0 m (pc + 3) ls (v :: rest))) : W p l e R s m args below meth c H locs cells slots Q (F0 m pc ls (va_rf r :: rest)) := by
  obtain ⟨a, fs, v, rfl, ha, hv, hk⟩ := ql_gV_out w
  obtain ⟨⟨hx, hb, hml, hown, hts⟩, hK⟩ := C
  exact va_get hx hb hts F.2.2 hown hK.1 (S.one ha) 0 rfl F.1 k F.2.1 (hts _ hl) (fun _ h9 => h9) hv hdg (kk v hk)
theorem ql_getI (C : ql_C D h0 p m c cc nL s args own) (S : ql_S D h0 s H locs h) {ci k N index : Nat} {Cn : String} {T : u_T} (F : ql_F ci k Cn T N) (hl : Cond.fieldLink own index (T k).1 (T k).2.1 (T k).2.2.1 ∈ ql_W) (hdg : decode cc pc = .ok (.getfield index, 3)) {r : Option Nat} {K : Int32 → Prop} (w : ql_gI h r ci k K)
    (kk : ∀ x, K x → W p l e R s m args below meth c H locs cells slots Q (F0 m (pc + 3) ls (.int x :: rest))) : W p l e R s m args below meth c H locs cells slots Q (F0 m pc ls (va_rf r :: rest)) :=
  ql_getV C S F hl hdg w fun v hv => by obtain ⟨x, rfl, hx⟩ := ql_asI_out hv; exact kk x hx
theorem ql_getJ (C : ql_C D h0 p m c cc nL s args own) (S : ql_S D h0 s H locs h) {ci k N index : Nat} {Cn : String} {T : u_T} (F : ql_F ci k Cn T N) (hl : Cond.fieldLink own index (T k).1 (T k).2.1 (T k).2.2.1 ∈ ql_W) (hdg : decode cc pc = .ok (.getfield index, 3)) {r : Option Nat} {K : Int64 → Prop} (w : ql_gJ h r ci k K)
    (kk : ∀ x, K x → W p l e R s m args below meth c H locs cells slots Q (F0 m (pc + 3) ls (.long x :: rest))) : W p l e R s m args below meth c H locs cells slots Q (F0 m pc ls (va_rf r :: rest)) :=
  ql_getV C S F hl hdg w fun v hv => by obtain ⟨x, rfl, hx⟩ := ql_asJ_out hv; exact kk x hx
theorem ql_getR (C : ql_C D h0 p m c cc nL s args own) (S : ql_S D h0 s H locs h) {ci k N index : Nat} {Cn : String} {T : u_T} (F : ql_F ci k Cn T N) (hl : Cond.fieldLink own index (T k).1 (T k).2.1 (T k).2.2.1 ∈ ql_W) (hdg : decode cc pc = .ok (.getfield index, 3)) {r : Option Nat} {K : Option Nat → Prop} (w : ql_gR h r ci k K)
    (kk : ∀ x, K x → W p l e R s m args below meth c H locs cells slots Q (F0 m (pc + 3) ls (va_rf x :: rest))) : W p l e R s m args below meth c H locs cells slots Q (F0 m pc ls (va_rf r :: rest)) :=
  ql_getV C S F hl hdg w fun v hv => by obtain ⟨x, rfl, hx⟩ := ql_asR_out hv; exact kk x hx
theorem ql_putV (C : ql_C D h0 p m c cc nL s args own) (S : ql_S D h0 s H locs h) {ci k N index : Nat} {Cn : String} {T : u_T} (F : ql_F ci k Cn T N) (hl : Cond.fieldLink own index (T k).1 (T k).2.1 (T k).2.2.1 ∈ ql_W) (ty0 : Nat → FieldType) (hty : ∀ k, k < N → parseFieldDescriptor (T k).2.2.1 = some (ty0 k)) (hnm : ∀ a, a < N → ∀ b, b < N → a ≠ b → (T a).2.1 ≠ (T b).2.1) (hfin : (T k).2.2.2 = false) (hdg : decode cc pc = .ok (.putfield index, 3)) {r : Option Nat} {v : Value} {K : ql_H → Prop} (hn : narrow (ty0 k) v = v) (hfit : fits (ty0 k) v = true) (w : ql_pV h r ci k v K)
    (kk : ∀ (h : ql_H) (H : Heap) (locs : List Loc), ql_S D h0 s H locs h → K h → W p l e R s m args below meth c H locs cells slots Q (F0 m (pc + 3) ls rest)) : W p l e R s m args below meth c H locs cells slots Q (F0 m pc ls (v :: va_rf r :: rest)) := by
  obtain ⟨a, fs, rfl, ha, hlen, hk9⟩ := ql_ob_out w
  obtain ⟨⟨hx, hb, hml, hown, hts⟩, hK, -⟩ := C
  have hap := va_apart (own := own) hts F.2.2 ty0 hty hnm hK F.1
  obtain ⟨r9, h1, cell, q1, q2, q3, q4⟩ := S.1.2 a _ ha
  cases Option.some.inj (h1.symm.trans F.1)
  obtain ⟨hS, hfc, kC, hkC, hkind⟩ := hK.1 ci _ F.1
  obtain ⟨cf, kf, fi, f, hi, hsl⟩ := hS k F.2.1
  have hlay := hts _ (F.2.2 _ (u_in_lay F.2.1))
  unfold u_lay at hlay
  rw [if_neg (by rw [hfin]; decide)] at hlay
  have hst := (u_facts hfc hkC (u_lays hts F.2.2 F.2.1) hi).1
  have h6 := u_store hfc hkC hkind hlay hi (hty k F.2.1) hn hfit
  refine W.putK hx hb (f := f) ⟨hown, hts _ hl, ⟨_, _, _, hi⟩, hst⟩ (by rw [q2]; exact h6) q1 q3 (by rw [hsl]; exact k2_hasslot (q4 k F.2.1)) rfl rfl hdg fun H' e1 e2 e3 => ?_
  rw [hsl] at e1 ⊢
  exact kk _ H' _ (S.put (o' := .inr (ci, fs.set k v)) ha (show ∃ r : vw_C, vwCl[ci]? = some r ∧ t_OB a (D.1.1 ci) r.2.2 (D.1.2 ci) H' (vp_V (fs.set k v)) from ⟨_, F.1, t_OB.to (V := updV (vp_V fs) k v) ⟨_, e1, q2, q3, t_set q4 hap F.2.1 v⟩ (fun j _ => vp_updV_set hlen v j)⟩) e2 e3) hk9
theorem ql_getVN (C : ql_C D h0 p m c cc nL s args own) (S : ql_S D h0 s H locs h) {ci k N index : Nat} {Cn : String} {T : u_T} (F : ql_F ci k Cn T N) {host : String} (hl : Cond.fieldLinkNest own index (T k).1 (T k).2.1 (T k).2.2.1 host ∈ ql_N) (hdg : decode cc pc = .ok (.getfield index, 3)) {r : Option Nat} {K : Value → Prop} (w : ql_gV h r ci k K)
    (kk : ∀ v, K v → W p l e R s m args below meth c H locs cells slots Q (F0 m (pc + 3) ls (v :: rest))) : W p l e R s m args below meth c H locs cells slots Q (F0 m pc ls (va_rf r :: rest)) := by
  obtain ⟨a, fs, v, rfl, ha, hv, hk⟩ := ql_gV_out w
  obtain ⟨⟨hx, hb, hml, hown, hts⟩, hK⟩ := C
  have hN := hK.2.2.1
  exact va_getN hx hb hts F.2.2 hown hK.1 (S.one ha) 0 rfl F.1 k F.2.1 (ql_N_use rfl (hN _ hl)) (fun _ h9 => h9) hv hdg (kk v hk)
theorem ql_getIN (C : ql_C D h0 p m c cc nL s args own) (S : ql_S D h0 s H locs h) {ci k N index : Nat} {Cn : String} {T : u_T} (F : ql_F ci k Cn T N) {host : String} (hl : Cond.fieldLinkNest own index (T k).1 (T k).2.1 (T k).2.2.1 host ∈ ql_N) (hdg : decode cc pc = .ok (.getfield index, 3)) {r : Option Nat} {K : Int32 → Prop} (w : ql_gI h r ci k K)
    (kk : ∀ x, K x → W p l e R s m args below meth c H locs cells slots Q (F0 m (pc + 3) ls (.int x :: rest))) : W p l e R s m args below meth c H locs cells slots Q (F0 m pc ls (va_rf r :: rest)) :=
  ql_getVN C S F hl hdg w fun v hv => by obtain ⟨x, rfl, hx⟩ := ql_asI_out hv; exact kk x hx
theorem ql_getJN (C : ql_C D h0 p m c cc nL s args own) (S : ql_S D h0 s H locs h) {ci k N index : Nat} {Cn : String} {T : u_T} (F : ql_F ci k Cn T N) {host : String} (hl : Cond.fieldLinkNest own index (T k).1 (T k).2.1 (T k).2.2.1 host ∈ ql_N) (hdg : decode cc pc = .ok (.getfield index, 3)) {r : Option Nat} {K : Int64 → Prop} (w : ql_gJ h r ci k K)
    (kk : ∀ x, K x → W p l e R s m args below meth c H locs cells slots Q (F0 m (pc + 3) ls (.long x :: rest))) : W p l e R s m args below meth c H locs cells slots Q (F0 m pc ls (va_rf r :: rest)) :=
  ql_getVN C S F hl hdg w fun v hv => by obtain ⟨x, rfl, hx⟩ := ql_asJ_out hv; exact kk x hx
theorem ql_getRN (C : ql_C D h0 p m c cc nL s args own) (S : ql_S D h0 s H locs h) {ci k N index : Nat} {Cn : String} {T : u_T} (F : ql_F ci k Cn T N) {host : String} (hl : Cond.fieldLinkNest own index (T k).1 (T k).2.1 (T k).2.2.1 host ∈ ql_N) (hdg : decode cc pc = .ok (.getfield index, 3)) {r : Option Nat} {K : Option Nat → Prop} (w : ql_gR h r ci k K)
    (kk : ∀ x, K x → W p l e R s m args below meth c H locs cells slots Q (F0 m (pc + 3) ls (va_rf x :: rest))) : W p l e R s m args below meth c H locs cells slots Q (F0 m pc ls (va_rf r :: rest)) :=
  ql_getVN C S F hl hdg w fun v hv => by obtain ⟨x, rfl, hx⟩ := ql_asR_out hv; exact kk x hx
theorem ql_putVN (C : ql_C D h0 p m c cc nL s args own) (S : ql_S D h0 s H locs h) {ci k N index : Nat} {Cn : String} {T : u_T} (F : ql_F ci k Cn T N) {host : String} (hl : Cond.fieldLinkNest own index (T k).1 (T k).2.1 (T k).2.2.1 host ∈ ql_N) (ty0 : Nat → FieldType) (hty : ∀ k, k < N → parseFieldDescriptor (T k).2.2.1 = some (ty0 k)) (hnm : ∀ a, a < N → ∀ b, b < N → a ≠ b → (T a).2.1 ≠ (T b).2.1) (hfin : (T k).2.2.2 = false) (hdg : decode cc pc = .ok (.putfield index, 3)) {r : Option Nat} {v : Value} {K : ql_H → Prop} (hn : narrow (ty0 k) v = v) (hfit : fits (ty0 k) v = true) (w : ql_pV h r ci k v K)
    (kk : ∀ (h : ql_H) (H : Heap) (locs : List Loc), ql_S D h0 s H locs h → K h → W p l e R s m args below meth c H locs cells slots Q (F0 m (pc + 3) ls rest)) : W p l e R s m args below meth c H locs cells slots Q (F0 m pc ls (v :: va_rf r :: rest)) := by
  obtain ⟨a, fs, rfl, ha, hlen, hk9⟩ := ql_ob_out w
  obtain ⟨⟨hx, hb, hml, hown, hts⟩, hK, hG9⟩ := C
  have hN := hG9.2.1
  have hap := va_apart (own := own) hts F.2.2 ty0 hty hnm hK F.1
  obtain ⟨r9, h1, cell, q1, q2, q3, q4⟩ := S.1.2 a _ ha
  cases Option.some.inj (h1.symm.trans F.1)
  obtain ⟨hS, hfc, kC, hkC, hkind⟩ := hK.1 ci _ F.1
  obtain ⟨cf, kf, fi, f, hi, hsl⟩ := hS k F.2.1
  have hlay := hts _ (F.2.2 _ (u_in_lay F.2.1))
  unfold u_lay at hlay
  rw [if_neg (by rw [hfin]; decide)] at hlay
  have hst := (u_facts hfc hkC (u_lays hts F.2.2 F.2.1) hi).1
  have h6 := u_store hfc hkC hkind hlay hi (hty k F.2.1) hn hfit
  refine va_WputK hx hb (f := f) hown (ql_N_use rfl (hN _ hl)) hi hst (by rw [q2]; exact h6) q1 q3 (by rw [hsl]; exact k2_hasslot (q4 k F.2.1)) rfl rfl hdg fun H' e1 e2 e3 => ?_
  rw [hsl] at e1 ⊢
  exact kk _ H' _ (S.put (o' := .inr (ci, fs.set k v)) ha (show ∃ r : vw_C, vwCl[ci]? = some r ∧ t_OB a (D.1.1 ci) r.2.2 (D.1.2 ci) H' (vp_V (fs.set k v)) from ⟨_, F.1, t_OB.to (V := updV (vp_V fs) k v) ⟨_, e1, q2, q3, t_set q4 hap F.2.1 v⟩ (fun j _ => vp_updV_set hlen v j)⟩) e2 e3) hk9
theorem ql_putVF (C : ql_C D h0 p m c cc nL s args own) (S : ql_S D h0 s H locs h) {ci k N index : Nat} {Cn : String} {T : u_T} (F : ql_F ci k Cn T N) (hl : Cond.fieldLink own index (T k).1 (T k).2.1 (T k).2.2.1 ∈ ql_W) (ty0 : Nat → FieldType) (hty : ∀ k, k < N → parseFieldDescriptor (T k).2.2.1 = some (ty0 k)) (hnm : ∀ a, a < N → ∀ b, b < N → a ≠ b → (T a).2.1 ≠ (T b).2.1) (hfin : (T k).2.2.2 = true) (hin2 : meth.name = "<init>") (hdecl : (T k).1 = own) (hdg : decode cc pc = .ok (.putfield index, 3)) {r : Option Nat} {v : Value} {K : ql_H → Prop} (hn : narrow (ty0 k) v = v) (hfit : fits (ty0 k) v = true) (w : ql_pV h r ci k v K)
    (kk : ∀ (h : ql_H) (H : Heap) (locs : List Loc), ql_S D h0 s H locs h → K h → W p l e R s m args below meth c H locs cells slots Q (F0 m (pc + 3) ls rest)) : W p l e R s m args below meth c H locs cells slots Q (F0 m pc ls (v :: va_rf r :: rest)) := by
  obtain ⟨a, fs, rfl, ha, hlen, hk9⟩ := ql_ob_out w
  obtain ⟨⟨hx, hb, hml, hown, hts⟩, hK, -⟩ := C
  have hap := va_apart (own := own) hts F.2.2 ty0 hty hnm hK F.1
  obtain ⟨r9, h1, cell, q1, q2, q3, q4⟩ := S.1.2 a _ ha
  cases Option.some.inj (h1.symm.trans F.1)
  obtain ⟨hS, hfc, kC, hkC, hkind⟩ := hK.1 ci _ F.1
  obtain ⟨cf, kf, fi, f, hi, hsl⟩ := hS k F.2.1
  have hlay := hts _ (F.2.2 _ (u_in_lay F.2.1))
  unfold u_lay at hlay
  rw [if_pos hfin] at hlay
  have hst := (u_facts hfc hkC (u_lays hts F.2.2 F.2.1) hi).1
  have hcf : m.cls = cf := by
    obtain ⟨_, _, c', _, _, _, -, -, hf', -, -, -, hown2, -⟩ := Cond.laysFinal_spec hlay
    have e1 : c' = cf := by have := hi.symm.trans hf'; simp at this; exact this.1.symm
    rw [hdecl] at hown2
    rw [← e1]; exact Option.some.inj (hown.symm.trans hown2)
  have h6 := u_fits hfc hkC hkind (Or.inr hlay) hi (hty k F.2.1) hn hfit
  refine W.putFinK hx hb hown (hts _ hl) hi hst hcf hin2 (by rw [q2]; exact h6) q1 q3 (by rw [hsl]; exact k2_hasslot (q4 k F.2.1)) rfl rfl hdg fun H' e1 e2 e3 => ?_
  rw [hsl] at e1 ⊢
  exact kk _ H' _ (S.put (o' := .inr (ci, fs.set k v)) ha (show ∃ r : vw_C, vwCl[ci]? = some r ∧ t_OB a (D.1.1 ci) r.2.2 (D.1.2 ci) H' (vp_V (fs.set k v)) from ⟨_, F.1, t_OB.to (V := updV (vp_V fs) k v) ⟨_, e1, q2, q3, t_set q4 hap F.2.1 v⟩ (fun j _ => vp_updV_set hlen v j)⟩) e2 e3) hk9
-- arrays
theorem ql_alen (C : ql_C D h0 p m c cc nL s args own) (S : ql_S D h0 s H locs h) {kd : Nat} {ty : FieldType} (ht : (ql_tys D)[kd]? = some (D.2 kd, ty)) (hdg : decode cc pc = .ok (.arraylength, 1)) {r : Option Nat} {K : Int32 → Prop} (w : ql_len h r kd K)
    (kk : ∀ x, K x → W p l e R s m args below meth c H locs cells slots Q (F0 m (pc + 1) ls (.int x :: rest))) : W p l e R s m args below meth c H locs cells slots Q (F0 m pc ls (va_rf r :: rest)) := by
  obtain ⟨a, x, rfl, ha, hk⟩ := ql_ar_out w
  exact va_alen C.1.1 C.1.2.1 C.2.1 (S.one ha) 0 kd rfl ht rfl hdg (kk _ hk)
theorem ql_iald (C : ql_C D h0 p m c cc nL s args own) (S : ql_S D h0 s H locs h) (hdg : decode cc pc = .ok (.iaload, 1)) {r : Option Nat} {i : Int32} {K : Int32 → Prop} (w : ql_lI h r 0 i K)
    (kk : ∀ x, K x → W p l e R s m args below meth c H locs cells slots Q (F0 m (pc + 1) ls (.int x :: rest))) : W p l e R s m args below meth c H locs cells slots Q (F0 m pc ls (.int i :: va_rf r :: rest)) := by
  obtain ⟨a, ⟨n, x⟩, rfl, ha, hk⟩ := ql_ar_out w
  rcases x with f | f | f | f | f <;> first | exact hk.elim | exact va_iald C.1.1 C.1.2.1 C.2.1 (S.one ha) 0 0 rfl rfl hk.1 hdg (kk _ hk.2)
theorem ql_cald (C : ql_C D h0 p m c cc nL s args own) (S : ql_S D h0 s H locs h) (hdg : decode cc pc = .ok (.caload, 1)) {r : Option Nat} {i : Int32} {K : Int32 → Prop} (w : ql_lI h r 2 i K)
    (kk : ∀ x, K x → W p l e R s m args below meth c H locs cells slots Q (F0 m (pc + 1) ls (.int x :: rest))) : W p l e R s m args below meth c H locs cells slots Q (F0 m pc ls (.int i :: va_rf r :: rest)) := by
  obtain ⟨a, ⟨n, x⟩, rfl, ha, hk⟩ := ql_ar_out w
  rcases x with f | f | f | f | f <;> first | exact hk.elim | exact va_cald C.1.1 C.1.2.1 C.2.1 (S.one ha) 0 2 rfl rfl hk.1 hdg (kk _ hk.2)
theorem ql_bald (C : ql_C D h0 p m c cc nL s args own) (S : ql_S D h0 s H locs h) (hdg : decode cc pc = .ok (.baload, 1)) {r : Option Nat} {i : Int32} {K : Int32 → Prop} (w : ql_lI h r 3 i K)
    (kk : ∀ x, K x → W p l e R s m args below meth c H locs cells slots Q (F0 m (pc + 1) ls (.int x :: rest))) : W p l e R s m args below meth c H locs cells slots Q (F0 m pc ls (.int i :: va_rf r :: rest)) := by
  obtain ⟨a, ⟨n, x⟩, rfl, ha, hk⟩ := ql_ar_out w
  rcases x with f | f | f | f | f <;> first | exact hk.elim | exact va_bald C.1.1 C.1.2.1 C.2.1 (S.one ha) 0 3 rfl rfl hk.1 hdg (kk _ hk.2)
theorem ql_lald (C : ql_C D h0 p m c cc nL s args own) (S : ql_S D h0 s H locs h) (hdg : decode cc pc = .ok (.laload, 1)) {r : Option Nat} {i : Int32} {K : Int64 → Prop} (w : ql_lJ h r i K)
    (kk : ∀ x, K x → W p l e R s m args below meth c H locs cells slots Q (F0 m (pc + 1) ls (.long x :: rest))) : W p l e R s m args below meth c H locs cells slots Q (F0 m pc ls (.int i :: va_rf r :: rest)) := by
  obtain ⟨a, ⟨n, x⟩, rfl, ha, hk⟩ := ql_ar_out w
  rcases x with f | f | f | f | f <;> first | exact hk.elim | exact va_lald C.1.1 C.1.2.1 C.2.1 (S.one ha) 0 1 rfl rfl hk.1 hdg (kk _ hk.2)
theorem ql_dald (C : ql_C D h0 p m c cc nL s args own) (S : ql_S D h0 s H locs h) (hdg : decode cc pc = .ok (.daload, 1)) {r : Option Nat} {i : Int32} {K : UInt64 → Prop} (w : ql_lD h r i K)
    (kk : ∀ x, K x → W p l e R s m args below meth c H locs cells slots Q (F0 m (pc + 1) ls (.double x :: rest))) : W p l e R s m args below meth c H locs cells slots Q (F0 m pc ls (.int i :: va_rf r :: rest)) := by
  obtain ⟨a, ⟨n, x⟩, rfl, ha, hk⟩ := ql_ar_out w
  rcases x with f | f | f | f | f <;> first | exact hk.elim | exact va_dald C.1.1 C.1.2.1 C.2.1 (S.one ha) 0 4 rfl rfl hk.1 hdg (kk _ hk.2)
theorem ql_aald (C : ql_C D h0 p m c cc nL s args own) (S : ql_S D h0 s H locs h) {kd : Nat} {ty : FieldType} (ht : (ql_tys D)[kd]? = some (D.2 kd, ty)) (hty : ty.isReference = true) (hdg : decode cc pc = .ok (.aaload, 1)) {r : Option Nat} {i : Int32} {K : Option Nat → Prop} (w : ql_lR h r kd i K)
    (kk : ∀ x, K x → W p l e R s m args below meth c H locs cells slots Q (F0 m (pc + 1) ls (va_rf x :: rest))) : W p l e R s m args below meth c H locs cells slots Q (F0 m pc ls (.int i :: va_rf r :: rest)) := by
  obtain ⟨a, ⟨n, x⟩, rfl, ha, hk⟩ := ql_ar_out w
  rcases x with f | f | f | f | f <;> first | exact hk.elim | skip
  have hin := hk.1
  have hlt : i.toNatClampNeg < n := Nat.not_le.mp fun q => hin (Or.inr q)
  exact W.aald (v := va_rf (f i.toNatClampNeg)) (ty := ty) C.1.1 C.1.2.1 (S.1.2 a _ ha) ((C.2.1.2 kd _ ht).1 n (fun j => va_rf (f j))) hty (fun q => by cases q) (by show ¬ (i < 0 ∨ (arrV _ _ _).slots.size ≤ _); rw [arrV_size]; exact hin) (by show (arrV _ _ _).slots[_]? = _; rw [arrV_read _ _ hlt]) rfl rfl hdg (kk _ hk.2)
theorem ql_iast (C : ql_C D h0 p m c cc nL s args own) (S : ql_S D h0 s H locs h) (hdg : decode cc pc = .ok (.iastore, 1)) {r : Option Nat} {i v : Int32} {K : ql_H → Prop} (w : ql_sI h r 0 i v K)
    (kk : ∀ (h : ql_H) (H : Heap) (locs : List Loc), ql_S D h0 s H locs h → K h → W p l e R s m args below meth c H locs cells slots Q (F0 m (pc + 1) ls rest)) : W p l e R s m args below meth c H locs cells slots Q (F0 m pc ls (.int v :: .int i :: va_rf r :: rest)) := by
  obtain ⟨a, ⟨n, x⟩, rfl, ha, hk⟩ := ql_ar_out w
  rcases x with f | f | f | f | f <;> first | exact hk.elim | skip
  have hin := hk.1
  refine W.iast C.1.1 C.1.2.1 (S.1.2 a _ ha) ((C.2.1.2 0 _ rfl).1 n (fun j => .int (f j))) (fun q => by cases q) (by show ¬ (i < 0 ∨ (arrV _ _ _).slots.size ≤ _); rw [arrV_size]; exact hin) rfl rfl hdg fun H1 e z oq => ?_
  refine kk _ H1 _ (S.put ha ?_ z oq) hk.2
  show H1[a]? = some (vp_cell _ _)
  rw [e]
  rw [vp_cell_i, vp_cell_i, arrV_store]
  congr 2
  funext q
  by_cases hq : q = i.toNatClampNeg
  · subst hq
    simp [updV, upd]
  · simp [updV, upd, hq]
theorem ql_cast (C : ql_C D h0 p m c cc nL s args own) (S : ql_S D h0 s H locs h) (hdg : decode cc pc = .ok (.castore, 1)) {r : Option Nat} {i v : Int32} {K : ql_H → Prop} (w : ql_sI h r 2 i (vp_nar .char v) K)
    (kk : ∀ (h : ql_H) (H : Heap) (locs : List Loc), ql_S D h0 s H locs h → K h → W p l e R s m args below meth c H locs cells slots Q (F0 m (pc + 1) ls rest)) : W p l e R s m args below meth c H locs cells slots Q (F0 m pc ls (.int v :: .int i :: va_rf r :: rest)) := by
  obtain ⟨a, ⟨n, x⟩, rfl, ha, hk⟩ := ql_ar_out w
  rcases x with f | f | f | f | f <;> first | exact hk.elim | skip
  have hin := hk.1
  refine W.cast C.1.1 C.1.2.1 (S.1.2 a _ ha) ((C.2.1.2 2 _ rfl).1 n (fun j => .int (f j))) (fun q => by cases q) (by show ¬ (i < 0 ∨ (arrV _ _ _).slots.size ≤ _); rw [arrV_size]; exact hin) rfl rfl hdg fun H1 e z oq => ?_
  refine kk _ H1 _ (S.put ha ?_ z oq) hk.2
  show H1[a]? = some (vp_cell _ _)
  rw [e]
  rw [vp_cell_i, vp_cell_i, arrV_store]
  congr 2
  funext q
  by_cases hq : q = i.toNatClampNeg
  · subst hq
    simp [updV, upd, vp_nar]
    try rfl
  · simp [updV, upd, hq]
theorem ql_last (C : ql_C D h0 p m c cc nL s args own) (S : ql_S D h0 s H locs h) (hdg : decode cc pc = .ok (.lastore, 1)) {r : Option Nat} {i : Int32} {v : Int64} {K : ql_H → Prop} (w : ql_sJ h r i v K)
    (kk : ∀ (h : ql_H) (H : Heap) (locs : List Loc), ql_S D h0 s H locs h → K h → W p l e R s m args below meth c H locs cells slots Q (F0 m (pc + 1) ls rest)) : W p l e R s m args below meth c H locs cells slots Q (F0 m pc ls (.long v :: .int i :: va_rf r :: rest)) := by
  obtain ⟨a, ⟨n, x⟩, rfl, ha, hk⟩ := ql_ar_out w
  rcases x with f | f | f | f | f <;> first | exact hk.elim | skip
  have hin := hk.1
  refine W.last C.1.1 C.1.2.1 (S.1.2 a _ ha) ((C.2.1.2 1 _ rfl).1 n (fun j => .long (f j))) (fun q => by cases q) (by show ¬ (i < 0 ∨ (arrV _ _ _).slots.size ≤ _); rw [arrV_size]; exact hin) rfl rfl hdg fun H1 e z oq => ?_
  refine kk _ H1 _ (S.put ha ?_ z oq) hk.2
  show H1[a]? = some (vp_cell _ _)
  rw [e]
  rw [vp_cell_l, vp_cell_l, arrV_store]
  congr 2
  funext q
  by_cases hq : q = i.toNatClampNeg
  · subst hq
    simp [updV, vp_updL]
  · simp [updV, vp_updL, hq]
theorem ql_dast (C : ql_C D h0 p m c cc nL s args own) (S : ql_S D h0 s H locs h) (hdg : decode cc pc = .ok (.dastore, 1)) {r : Option Nat} {i : Int32} {v : UInt64} {K : ql_H → Prop} (w : ql_sD h r i v K)
    (kk : ∀ (h : ql_H) (H : Heap) (locs : List Loc), ql_S D h0 s H locs h → K h → W p l e R s m args below meth c H locs cells slots Q (F0 m (pc + 1) ls rest)) : W p l e R s m args below meth c H locs cells slots Q (F0 m pc ls (.double v :: .int i :: va_rf r :: rest)) := by
  obtain ⟨a, ⟨n, x⟩, rfl, ha, hk⟩ := ql_ar_out w
  rcases x with f | f | f | f | f <;> first | exact hk.elim | skip
  have hin := hk.1
  refine W.dast C.1.1 C.1.2.1 (S.1.2 a _ ha) ((C.2.1.2 4 _ rfl).1 n (fun j => .double (f j))) (fun q => by cases q) (by show ¬ (i < 0 ∨ (arrV _ _ _).slots.size ≤ _); rw [arrV_size]; exact hin) rfl rfl hdg fun H1 e z oq => ?_
  refine kk _ H1 _ (S.put ha ?_ z oq) hk.2
  show H1[a]? = some (vp_cell _ _)
  rw [e]
  rw [vp_cell_d, vp_cell_d, arrV_store]
  congr 2
  funext q
  by_cases hq : q = i.toNatClampNeg
  · subst hq
    simp [updV, vf_upd]
  · simp [updV, vf_upd, hq]
theorem ql_aast (C : ql_C D h0 p m c cc nL s args own) (S : ql_S D h0 s H locs h) {kd ci : Nat} {r9 : vw_C} (ht : (ql_tys D)[kd]? = some (D.2 kd, .object r9.1)) (hc : vwCl[ci]? = some r9) (hdg : decode cc pc = .ok (.aastore, 1)) {r v : Option Nat} {i : Int32} {K : ql_H → Prop} (w : ql_sR h r kd ci i v K)
    (kk : ∀ (h : ql_H) (H : Heap) (locs : List Loc), ql_S D h0 s H locs h → K h → W p l e R s m args below meth c H locs cells slots Q (F0 m (pc + 1) ls rest)) : W p l e R s m args below meth c H locs cells slots Q (F0 m pc ls (va_rf v :: .int i :: va_rf r :: rest)) := by
  obtain ⟨b, fs, rfl, hb9, w⟩ := ql_ob_out w
  obtain ⟨a, ⟨n, x⟩, rfl, ha, hk⟩ := ql_ar_out w
  rcases x with f | f | f | f | f <;> first | exact hk.elim | skip
  have hin := hk.1
  have hlt : i.toNatClampNeg < n := Nat.not_le.mp fun q => hin (Or.inr q)
  have hp0 : ¬ i < 0 := fun q => hin (Or.inl q)
  obtain ⟨r', hr', cellV, g1, g2, g3, -⟩ := S.1.2 b _ hb9
  have hcls := (C.2.1.1 ci r9 hc).2
  obtain ⟨kA, comp, k1, k2, k3, -⟩ := (C.2.1.2 kd _ ht).2
  have hcomp : comp = D.1.1 ci := Option.some.inj (k3.symm.trans hcls.1)
  subst hcomp
  obtain ⟨kC, hkC, -⟩ := hcls.2
  refine W.aast C.1.1 C.1.2.1 (S.1.2 a _ ha) (fun q h => by cases h) (fun h => by cases h) k1 k2 rfl hkC ⟨hp0, by show _ < (arrV _ _ _).slots.size; rw [arrV_size]; exact hlt⟩ g1 (fun q h => by rw [g3] at h; cases h) (by rw [g2]; exact hkC) (by rw [g2]; exact va_assign hcls) rfl rfl hdg fun H1 e z oq => ?_
  refine kk _ H1 _ (S.put ha ?_ z oq) hk.2
  show H1[a]? = some (vp_cell _ _)
  rw [e]
  rw [vp_cell_q, vp_cell_q, arrV_store]
  congr 2
  funext q
  by_cases hq : q = i.toNatClampNeg
  · subst hq
    simp [updV, va_up, va_rf]
  · simp [updV, va_up, hq]
-- references in locals
theorem ql_aload_n (C : ql_C D h0 p m c cc nL s args own) {k : Fin 4} {i : Nat} {r : Option Nat} (hdg : decode cc pc = .ok (.aload_n k, 1)) (hi : (k : Nat) = i) (hl : ls[i]? = some (.val (va_rf r)))
    (kk : W p l e R s m args below meth c H locs cells slots Q (F0 m (pc + 1) ls (va_rf r :: rest))) : W p l e R s m args below meth c H locs cells slots Q (F0 m pc ls rest) := by
  cases r with
  | none => exact lv_aload_nN C.1.1 C.1.2.1 hdg hi hl kk
  | some a => exact lv_aload_n C.1.1 C.1.2.1 hdg hi hl kk
theorem ql_aload (C : ql_C D h0 p m c cc nL s args own) {i : Nat} {r : Option Nat} (hdg : decode cc pc = .ok (.aload i, 2)) (hl : ls[i]? = some (.val (va_rf r)))
    (kk : W p l e R s m args below meth c H locs cells slots Q (F0 m (pc + 2) ls (va_rf r :: rest))) : W p l e R s m args below meth c H locs cells slots Q (F0 m pc ls rest) := by
  cases r with
  | none => exact lv_aloadN C.1.1 C.1.2.1 hdg hl kk
  | some a => exact lv_aload C.1.1 C.1.2.1 hdg hl kk
theorem ql_astore_n (C : ql_C D h0 p m c cc nL s args own) {k : Fin 4} {i nL9 : Nat} {r : Option Nat} {lv lv' : List (Nat × Value)} (hdg : decode cc pc = .ok (.astore_n k, 1)) (hi : (k : Nat) = i) (hl : lv_has ls nL9 lv) (hn : i < nL9) (he : (i, va_rf r) :: lv.filter (fun q => !(q.1 == i) && !(q.1 + 1 == i && q.2.category == 2)) = lv')
    (kk : ∀ ls' : Array Slot, lv_has ls' nL9 lv' → W p l e R s m args below meth c H locs cells slots Q (F0 m (pc + 1) ls' rest)) : W p l e R s m args below meth c H locs cells slots Q (F0 m pc ls (va_rf r :: rest)) := by
  cases r with
  | none => exact lv_astore_nN C.1.1 C.1.2.1 hdg hi hl hn he kk
  | some a => exact lv_astore_n C.1.1 C.1.2.1 hdg hi hl hn he kk
theorem ql_astore (C : ql_C D h0 p m c cc nL s args own) {i nL9 : Nat} {r : Option Nat} {lv lv' : List (Nat × Value)} (hdg : decode cc pc = .ok (.astore i, 2)) (hl : lv_has ls nL9 lv) (hn : i < nL9) (he : (i, va_rf r) :: lv.filter (fun q => !(q.1 == i) && !(q.1 + 1 == i && q.2.category == 2)) = lv')
    (kk : ∀ ls' : Array Slot, lv_has ls' nL9 lv' → W p l e R s m args below meth c H locs cells slots Q (F0 m (pc + 2) ls' rest)) : W p l e R s m args below meth c H locs cells slots Q (F0 m pc ls (va_rf r :: rest)) := by
  cases r with
  | none => exact lv_astoreN C.1.1 C.1.2.1 hdg hl hn he kk
  | some a => exact lv_astore C.1.1 C.1.2.1 hdg hl hn he kk
theorem ql_catR (r : Option Nat) : (va_rf r).category = 1 := by cases r <;> rfl
theorem ql_ifnull (C : ql_C D h0 p m c cc nL s args own) {off : Int} {tgt : Nat} {r : Option Nat} (hdg : decode cc pc = .ok (.ifnull off, 3)) (ht : (pc : Int) + off = (tgt : Int))
    (kt : r = none → W p l e R s m args below meth c H locs cells slots Q (F0 m tgt ls rest)) (kf : ¬ r = none → W p l e R s m args below meth c H locs cells slots Q (F0 m (pc + 3) ls rest)) : W p l e R s m args below meth c H locs cells slots Q (F0 m pc ls (va_rf r :: rest)) := by
  cases r with
  | none => exact lv_ifnullN C.1.1 C.1.2.1 hdg ht (kt rfl)
  | some a => exact lv_ifnull C.1.1 C.1.2.1 hdg (kf (fun q => by cases q))
theorem ql_ifnonnull (C : ql_C D h0 p m c cc nL s args own) {off : Int} {tgt : Nat} {r : Option Nat} (hdg : decode cc pc = .ok (.ifnonnull off, 3)) (ht : (pc : Int) + off = (tgt : Int))
    (kt : ¬ r = none → W p l e R s m args below meth c H locs cells slots Q (F0 m tgt ls rest)) (kf : r = none → W p l e R s m args below meth c H locs cells slots Q (F0 m (pc + 3) ls rest)) : W p l e R s m args below meth c H locs cells slots Q (F0 m pc ls (va_rf r :: rest)) := by
  cases r with
  | none => exact lv_ifnonnullN C.1.1 C.1.2.1 hdg (kf rfl)
  | some a => exact lv_ifnonnull C.1.1 C.1.2.1 hdg ht (kt (fun q => by cases q))
theorem ql_null (C : ql_C D h0 p m c cc nL s args own) (hdg : decode cc pc = .ok (.aconst_null, 1))
    (kk : W p l e R s m args below meth c H locs cells slots Q (F0 m (pc + 1) ls (va_rf none :: rest))) : W p l e R s m args below meth c H locs cells slots Q (F0 m pc ls rest) := lv_null C.1.1 C.1.2.1 hdg kk
theorem ql_if {α : Prop} {β : Prop} {c9 : Prop} {_ : Decidable c9} (w : if c9 then α else β) (h9 : c9) : α := by rwa [if_pos h9] at w
theorem ql_ifn {α : Prop} {β : Prop} {c9 : Prop} {_ : Decidable c9} (w : if c9 then α else β) (h9 : ¬ c9) : β := by rwa [if_neg h9] at w
theorem ql_ifN {α : Prop} {β : Prop} {c9 : Prop} {_ : Decidable c9} (w : if ¬ c9 then α else β) (h9 : c9) : β := by rwa [if_neg (fun q => q h9)] at w
theorem ql_sw {x : Int32} {lo hi : Int} {n : Nat} (hn : hi + 1 = lo + n) (e : ∀ k : Nat, k < n → ¬ x = Int32.ofInt (lo + k)) : x.toInt < lo ∨ hi < x.toInt := by
  by_cases h1 : x.toInt < lo
  · exact Or.inl h1
  · by_cases h2 : hi < x.toInt
    · exact Or.inr h2
    · refine absurd ?_ (e (x.toInt - lo).toNat (by omega))
      rw [show lo + ((x.toInt - lo).toNat : Int) = x.toInt by omega]
      exact (Int32.ofInt_toInt x).symm
/-- a number that fits a field of its type -/
def ql_fz (ty : FieldType) (v : Int32) : Prop := narrow ty (.int v) = .int v ∧ fits ty (.int v) = true
/-- how often a loop is let go round -/
def ql_FU : Nat := 1000000
/-- 'throw new E()' -/
theorem ql_throw (hT9 : True) {mc0 ms0 : Nat} {Qc : Array Value → State → Outcome → State → Prop} {X : String → ql_H → Prop} (C : ql_C D h0 p m c cc nL s args own) (S : ql_S D h0 s H locs h) {cls : String} {names : List String} {ik ic : Nat}
    (hx : (∀ w ∈ vx_at0 own ic cls names, w ∈ lw_tbl) ∧ (∀ w ∈ vx_at0 own ic cls names, goodWord w = true ∨ w ∈ ql_N) ∧ Bundle.fit cls = true ∧ (∀ n ∈ names, Bundle.fit n = true) ∧ (∀ w ∈ vx_at0 own ic cls names, vx_ot w = true))
    (hk : Cond.classLink own ik cls ∈ ql_W) (hini : Cond.initialized cls ∈ ql_W) {lv : List (Nat × Value)} (hlv : lv_has ls nL lv) (htab : ∀ x ∈ c.exceptionTable.toList, False) (hlocks : meth.locks = false) (hl : l.stackTraces = false)
    (d0 : decode cc pc = .ok (.new ik, 3)) (d3 : decode cc (pc + 3) = .ok (.dup, 1)) (d4 : decode cc (pc + 4) = .ok (.invokespecial ic, 3)) (d7 : decode cc (pc + 7) = .ok (.athrow, 1))
    (hR : names.length + 3 < R.frames ∧ cells + 1 ≤ R.cells ∧ slots + 6 ≤ R.slots) (hcat : (rest.map fun v => v.category).sum + (13 * (names.length + 1) + 42) ≤ R.locals) (hc : cells + 1 ≤ mc0 ∧ slots + 6 ≤ ms0)
    (w : ∀ n9 : Nat, h.1 ≤ n9 → X cls (n9, h.2)) : W p l e R s m args below meth c H locs cells slots (vx_MQ below Qc (ql_X D h0 X) args s mc0 ms0 (ql_A h0)) (F0 m pc ls rest) := by
  have ht := C.1.2.2.2.2
  have hat : ∀ w ∈ vx_at0 own ic cls names, w.before args s = true := fun w hw => (hx.2.1 w hw).elim (fun g => ht w (ql_in (hx.1 w hw) g)) (fun e9 => ql_N_use (ql_N_is w e9) (C.2.2.2.1 w e9))
  refine vx_throw0 (A := ql_A h0) C.1.1 C.1.2.1 hl C.1.2.2.2.1 hx.2.2.1 hx.2.2.2.1 (ht _ hk) (ht _ hini) hat (fun w hw => ?_) C.2.2.1.1 C.2.2.1.2 S.2.1 (by rw [C.1.2.2.1]; exact hlv.1) d0 d3 d4 d7 (fun x hx9 => (htab x hx9).elim) hR.1 hcat hR.2.1 hR.2.2 hlocks (fun t hal h1 h2 => ?_) S.2.1.2.2 hc.1 hc.2
  · rcases List.mem_cons.mp hw with e9 | hw
    · rw [e9]; rfl
    · rcases List.mem_cons.mp hw with e9 | hw
      · rw [e9]; rfl
      · exact hx.2.2.2.2 w hw
  · refine ⟨⟨(t.heap.size, h.2), w _ (by rw [← S.1.1]; exact h1), ⟨rfl, fun a o ha => ?_⟩, S.2.2.1⟩, Nat.le_trans S.2.1.1 h1, fun q hq hA => ?_⟩
    · have hv := S.1.2 a o ha
      exact hv.kept (h2 a hv.lt)
    · rw [h2 q (Nat.lt_of_lt_of_le hq S.2.1.1)]
      exact S.2.1.2.1 q hq hA
end QL
