section QH3
variable {p : Program} {l : Launch} {e : Env} {R : Room} {s : State} {m : MethodId} {args : Array Value} {below : List Frame} {meth : Method} {c : Code} {H : Heap} {locs : List Loc} {cells slots : Nat} {Q : State → Prop}
variable {cc : ByteArray} {pc nL : Nat} {ls : Array Slot} {rest st0 : List Value} {D : ql_D} {h0 h : ql_H} {own : String}
variable {y : MethodName} {bytes : ByteArray} {maxL mc ms n index mc0 ms0 : Nat} {ret : Option FieldType} {rm : Room} {As : List Value} {Qr : Option Value → ql_H → Prop} {X : String → ql_H → Prop} {Qc : Array Value → State → Outcome → State → Prop} {hh : List (Nat × Nat × Nat × Nat)}
/-- a method with handlers -/
def ql_MH (D : ql_D) (l : Launch) (y : MethodName) (bytes : ByteArray) (maxL : Nat) (ret : Option FieldType) (hh : List (Nat × Nat × Nat × Nat)) (rm : Room) (h : ql_H) (As : List Value) (Qr : Option Value → ql_H → Prop) (X : String → ql_H → Prop) (mc ms : Nat) : Prop :=
  vx_Met l y (Cond.codeWith y bytes maxL ret hh :: ql_W) rm (va_Pc As (ql_P D h)) (ql_Q D h Qr) (ql_X D h X) mc ms (ql_A h)
def ql_YH (y : MethodName) (bytes : ByteArray) (maxL : Nat) (ret : Option FieldType) (hh : List (Nat × Nat × Nat × Nat)) (n : Nat) : Prop :=
  Cond.codeWith y bytes maxL ret hh ∈ ql_W ∧ Cond.initialized y.cls ∈ ql_W ∧ Cond.static y ∈ ql_W ∧ y.cls ≠ "java/lang/invoke/MethodHandle" ∧ y.cls ≠ "java/lang/invoke/VarHandle" ∧ (parseMethodDescriptor y.desc).map (fun d => d.parameters.length) = some n
theorem ql_ofWH (hy : plainName y.cls = true) (hlen : (lg_sl As).length ≤ maxL)
    (body : ∀ (p : Program) (e : Env) (s : State) (m : MethodId) (below : List Frame) (meth : Method) (c : Code) (ls : Array Slot), ql_C D h p m c bytes maxL s As.toArray y.cls → meth.sig.returnType = ret → meth.locks = false → meth.name = y.name → c.exceptionTable.toList = tableOf hh → ql_S D h s s.heap [] h → lv_has ls maxL (lv_args 0 As) →
      W p l e rm s m As.toArray below meth c s.heap [] 0 0 (vx_MQ below (ql_Q D h Qr) (ql_X D h X) As.toArray s mc ms (ql_A h)) (F0 m 0 ls [])) : ql_MH D l y bytes maxL ret hh rm h As Qr X mc ms := by
  refine vx_ofWH (cc := bytes) (maxL := maxL) (ret := ret) (hh := hh) hy rfl ?_
  intro p e s m args below meth c s₁ B hml hv
  obtain ⟨rfl, hR, hK⟩ := hv
  rw [lg_entry_eq]
  exact body p e s m below meth c _ ⟨⟨B.exec, B.bytes, hml, findClass_of_methodNamed B.named, fun w hw => atoms_spec (ws := Cond.codeWith y bytes maxL ret hh :: ql_W) B.pre w (List.mem_cons_of_mem _ hw)⟩, hK⟩ B.returns B.notSynchronized (name_of_methodNamed B.named B.method).1 (vx_table (x := y) B (atoms_spec (ws := Cond.codeWith y bytes maxL ret hh :: ql_W) B.pre _ List.mem_cons_self)) ⟨hR, va_S.rf, fun q hq => Or.inl hq, hR.1⟩ (lv_entry As hlen)
theorem ql_SH0 (C : ql_C D h0 p m c cc nL s args own) (S : ql_S D h0 s H locs h) (Y : ql_YH y bytes maxL ret hh n) (hlk : Cond.methodLink own index y ∈ ql_W) (hM : ql_MH D l y bytes maxL ret hh rm h As Qr X mc ms)
    (hn : As.length = n) (hR : rm.frames + 1 ≤ R.frames ∧ 8 + (maxL + 11) + rm.locals ≤ R.locals) (hm : rm.cells = mc ∧ rm.slots = ms) (hcat : (rest.map fun v => v.category).sum ≤ 8) (hsz : ls.size = nL) (hst : st0 = As.reverse ++ rest) (hdg : decode cc pc = .ok (.invokestatic index, 3)) (hf : cells + mc ≤ R.cells ∧ slots + ms ≤ R.slots)
    (kx : ∀ (E : String) (ce : Cell) (q9 : Addr) (h' : ql_H) (H1 : Heap) (locs1 : List Loc), X E h' → ql_S D h0 s H1 locs1 h' → H1[q9]? = some ce → ce.vm = .none → s.vm.findClass E = some ce.cls → vx_W p l e R s m args below meth c H1 locs1 (cells + mc) (slots + ms) Q (F0 m pc ls rest) q9)
    (kk : ∀ (v : Option Value) (h' : ql_H) (H1 : Heap) (locs1 : List Loc), Qr v h' → ql_S D h0 s H1 locs1 h' → W p l e R s m args below meth c H1 locs1 (cells + mc) (slots + ms) Q (F0 m (pc + 3) ls (v.toList ++ rest))) : W p l e R s m args below meth c H locs cells slots Q (F0 m pc ls st0) := by
  have ht := C.1.2.2.2.2
  have hT : GoodIn ql_W (va_wsS own index y (Cond.codeWith y bytes maxL ret hh :: ql_W)) := by
    intro w hw
    have hw2 : w ∈ ql_W := by
      unfold va_wsS at hw
      simp only [List.cons_append, List.nil_append, List.mem_cons] at hw
      rcases hw with h9 | h9 | h9 | h9 | h9
      · rw [h9]; exact hlk
      · rw [h9]; exact Y.2.2.1
      · rw [h9]; exact Y.2.1
      · rw [h9]; exact Y.1
      · exact h9
    exact ⟨hw2, ql_good hw2⟩
  exact ql_after S (vx_runSX (As := As) C.1 hM (vx_cwSW n ht hT rfl hm.1 hm.2 ⟨Y.2.2.2.1, Y.2.2.2.2.1, Y.2.2.2.2.2⟩ hR) ⟨ql_P.blind, C.lift S⟩ rfl hn hsz hst (lv_room hcat) hdg hf) kx kk
/-- the law's call of a wrapper: it returns an int -/
theorem ql_SHI (C : ql_C D h0 p m c cc nL s args own) (S : ql_S D h0 s H locs h) {lv : List (Nat × Value)} (hl : lv_has ls nL lv) (Y : ql_YH y bytes maxL ret hh n) (hlk : Cond.methodLink own index y ∈ ql_W) {Qq : Int32 → ql_H → Prop} (hM : ql_MH D l y bytes maxL ret hh rm h As (ql_rI Qq) (fun _ _ => False) mc ms)
    (hn : As.length = n) (hR : rm.frames + 1 ≤ R.frames ∧ 8 + (maxL + 11) + rm.locals ≤ R.locals) (hm : rm.cells = mc ∧ rm.slots = ms) (hcat : (rest.map fun v => v.category).sum ≤ 8) (hst : st0 = As.reverse ++ rest) (hdg : decode cc pc = .ok (.invokestatic index, 3)) (hf : cells + mc ≤ R.cells ∧ slots + ms ≤ R.slots)
    (kk : ∀ (x : Int32) (h : ql_H) (H : Heap) (locs : List Loc), ql_S D h0 s H locs h → Qq x h → W p l e R s m args below meth c H locs (cells + mc) (slots + ms) Q (F0 m (pc + 3) ls (.int x :: rest))) : W p l e R s m args below meth c H locs cells slots Q (F0 m pc ls st0) :=
  ql_SH0 C S Y hlk hM hn hR hm hcat hl.1 hst hdg hf (fun E ce q9 h1 H1 l1 hx S1 g1 g2 g3 => hx.elim) (fun v h1 H1 l1 hq S1 => by obtain ⟨x, rfl, hq⟩ := hq; exact kk x h1 H1 l1 S1 hq)
/-- caught by a row of this method's table that names the thrown class itself -/
theorem ql_catch (C : ql_C D h0 p m c cc nL s args own) (htab : c.exceptionTable.toList = tableOf hh) (pre : List (Nat × Nat × Nat × Nat)) (x : Nat × Nat × Nat × Nat) (suf : List (Nat × Nat × Nat × Nat)) (hs : hh = pre ++ x :: suf) {E : String} {ce : Cell} {q : Addr} {tgt : Nat}
    (hpass : ∀ z ∈ pre, z.2.2.2 ≠ 0 ∧ ∃ nm : String, Cond.classLink own z.2.2.2 nm ∈ ql_W ∧ (E, nm) ∈ ql_nc) (hx : covers ⟨x.1, x.2.1, x.2.2.1, x.2.2.2⟩ pc = true) (hz : x.2.2.2 ≠ 0) (hlink : Cond.classLink own x.2.2.2 E ∈ ql_W) (hcast : Cond.castable E E ∈ ql_N)
    (g1 : H[q]? = some ce) (g2 : ce.vm = .none) (g3 : s.vm.findClass E = some ce.cls) (ht : x.2.2.1 = tgt)
    (kk : W p l e R s m args below meth c H locs cells slots Q (F0 m tgt ls [va_rf (some q)])) : vx_W p l e R s m args below meth c H locs cells slots Q (F0 m pc ls rest) q := by
  subst ht
  refine vx_catch (name := E) (E := E) (own := own) C.1.2.2.2.1 (tableOf pre) ⟨x.1, x.2.1, x.2.2.1, x.2.2.2⟩ (tableOf suf) (by rw [htab, hs]; simp [tableOf]) ?_ hx hz (C.1.2.2.2.2 _ hlink) (ql_N_use rfl (C.2.2.2.1 _ hcast)) g1 g2 g3 kk
  intro z hz
  obtain ⟨z9, hz9, rfl⟩ := List.mem_map.mp hz
  obtain ⟨h1, nm, h2, h3⟩ := hpass z9 hz9
  exact Or.inr ⟨h1, nm, C.1.2.2.2.2 _ h2, C.2.2.2.2.2.2.2 _ h3⟩
theorem ql_HVI (C : ql_C D h0 p m c cc nL s args own) (S : ql_S D h0 s H locs h) {lv : List (Nat × Value)} (hl : lv_has ls nL lv) (Y : ql_Y y bytes maxL ret n) (hi : Cond.instanceMethod y ∈ ql_W) (hse : Cond.selects y.cls y y ∈ ql_W) (hlk : Cond.methodLink own index y ∈ ql_W) {ci N : Nat} {T : u_T} (hci : vwCl[ci]? = some (y.cls, T, N)) {r : Option Nat} {K : Nat → Prop} (w : ql_rv h r ci K) {Qq : Int32 → ql_H → Prop} (hM : ∀ b, K b → ql_M D l y bytes maxL ret rm h (.ref b :: As) (ql_rI Qq) X mc ms)
    (hn : As.length = n) (hR : rm.frames + 1 ≤ R.frames ∧ 8 + (maxL + 11) + rm.locals ≤ R.locals) (hm : rm.cells = mc ∧ rm.slots = ms) (hcat : (rest.map fun v => v.category).sum ≤ 8) (hst : ∀ b : Nat, r = some b → st0 = As.reverse ++ .ref b :: rest) (hdg : decode cc pc = .ok (.invokevirtual index, 3)) (hf : cells + mc ≤ R.cells ∧ slots + ms ≤ R.slots)
    (kx : ∀ (E : String) (ce : Cell) (q9 : Addr) (h : ql_H) (H : Heap) (locs : List Loc), X E h → ql_S D h0 s H locs h → H[q9]? = some ce → ce.vm = .none → s.vm.findClass E = some ce.cls → vx_W p l e R s m args below meth c H locs (cells + mc) (slots + ms) Q (F0 m pc ls rest) q9)
    (kk : ∀ (x : Int32) (h : ql_H) (H : Heap) (locs : List Loc), ql_S D h0 s H locs h → Qq x h → W p l e R s m args below meth c H locs (cells + mc) (slots + ms) Q (F0 m (pc + 3) ls (.int x :: rest))) : W p l e R s m args below meth c H locs cells slots Q (F0 m pc ls st0) :=
  ql_V0 C S Y hi hse hlk hci w hM hn hR hm hcat hl.1 hst hdg hf kx (fun v h1 H1 l1 hq S1 => by obtain ⟨x, rfl, hq⟩ := hq; exact kk x h1 H1 l1 S1 hq)
theorem ql_HVJ (C : ql_C D h0 p m c cc nL s args own) (S : ql_S D h0 s H locs h) {lv : List (Nat × Value)} (hl : lv_has ls nL lv) (Y : ql_Y y bytes maxL ret n) (hi : Cond.instanceMethod y ∈ ql_W) (hse : Cond.selects y.cls y y ∈ ql_W) (hlk : Cond.methodLink own index y ∈ ql_W) {ci N : Nat} {T : u_T} (hci : vwCl[ci]? = some (y.cls, T, N)) {r : Option Nat} {K : Nat → Prop} (w : ql_rv h r ci K) {Qq : Int64 → ql_H → Prop} (hM : ∀ b, K b → ql_M D l y bytes maxL ret rm h (.ref b :: As) (ql_rJ Qq) X mc ms)
    (hn : As.length = n) (hR : rm.frames + 1 ≤ R.frames ∧ 8 + (maxL + 11) + rm.locals ≤ R.locals) (hm : rm.cells = mc ∧ rm.slots = ms) (hcat : (rest.map fun v => v.category).sum ≤ 8) (hst : ∀ b : Nat, r = some b → st0 = As.reverse ++ .ref b :: rest) (hdg : decode cc pc = .ok (.invokevirtual index, 3)) (hf : cells + mc ≤ R.cells ∧ slots + ms ≤ R.slots)
    (kx : ∀ (E : String) (ce : Cell) (q9 : Addr) (h : ql_H) (H : Heap) (locs : List Loc), X E h → ql_S D h0 s H locs h → H[q9]? = some ce → ce.vm = .none → s.vm.findClass E = some ce.cls → vx_W p l e R s m args below meth c H locs (cells + mc) (slots + ms) Q (F0 m pc ls rest) q9)
    (kk : ∀ (x : Int64) (h : ql_H) (H : Heap) (locs : List Loc), ql_S D h0 s H locs h → Qq x h → W p l e R s m args below meth c H locs (cells + mc) (slots + ms) Q (F0 m (pc + 3) ls (.long x :: rest))) : W p l e R s m args below meth c H locs cells slots Q (F0 m pc ls st0) :=
  ql_V0 C S Y hi hse hlk hci w hM hn hR hm hcat hl.1 hst hdg hf kx (fun v h1 H1 l1 hq S1 => by obtain ⟨x, rfl, hq⟩ := hq; exact kk x h1 H1 l1 S1 hq)
theorem ql_HVD (C : ql_C D h0 p m c cc nL s args own) (S : ql_S D h0 s H locs h) {lv : List (Nat × Value)} (hl : lv_has ls nL lv) (Y : ql_Y y bytes maxL ret n) (hi : Cond.instanceMethod y ∈ ql_W) (hse : Cond.selects y.cls y y ∈ ql_W) (hlk : Cond.methodLink own index y ∈ ql_W) {ci N : Nat} {T : u_T} (hci : vwCl[ci]? = some (y.cls, T, N)) {r : Option Nat} {K : Nat → Prop} (w : ql_rv h r ci K) {Qq : UInt64 → ql_H → Prop} (hM : ∀ b, K b → ql_M D l y bytes maxL ret rm h (.ref b :: As) (ql_rD Qq) X mc ms)
    (hn : As.length = n) (hR : rm.frames + 1 ≤ R.frames ∧ 8 + (maxL + 11) + rm.locals ≤ R.locals) (hm : rm.cells = mc ∧ rm.slots = ms) (hcat : (rest.map fun v => v.category).sum ≤ 8) (hst : ∀ b : Nat, r = some b → st0 = As.reverse ++ .ref b :: rest) (hdg : decode cc pc = .ok (.invokevirtual index, 3)) (hf : cells + mc ≤ R.cells ∧ slots + ms ≤ R.slots)
    (kx : ∀ (E : String) (ce : Cell) (q9 : Addr) (h : ql_H) (H : Heap) (locs : List Loc), X E h → ql_S D h0 s H locs h → H[q9]? = some ce → ce.vm = .none → s.vm.findClass E = some ce.cls → vx_W p l e R s m args below meth c H locs (cells + mc) (slots + ms) Q (F0 m pc ls rest) q9)
    (kk : ∀ (x : UInt64) (h : ql_H) (H : Heap) (locs : List Loc), ql_S D h0 s H locs h → Qq x h → W p l e R s m args below meth c H locs (cells + mc) (slots + ms) Q (F0 m (pc + 3) ls (.double x :: rest))) : W p l e R s m args below meth c H locs cells slots Q (F0 m pc ls st0) :=
  ql_V0 C S Y hi hse hlk hci w hM hn hR hm hcat hl.1 hst hdg hf kx (fun v h1 H1 l1 hq S1 => by obtain ⟨x, rfl, hq⟩ := hq; exact kk x h1 H1 l1 S1 hq)
theorem ql_HVF (C : ql_C D h0 p m c cc nL s args own) (S : ql_S D h0 s H locs h) {lv : List (Nat × Value)} (hl : lv_has ls nL lv) (Y : ql_Y y bytes maxL ret n) (hi : Cond.instanceMethod y ∈ ql_W) (hse : Cond.selects y.cls y y ∈ ql_W) (hlk : Cond.methodLink own index y ∈ ql_W) {ci N : Nat} {T : u_T} (hci : vwCl[ci]? = some (y.cls, T, N)) {r : Option Nat} {K : Nat → Prop} (w : ql_rv h r ci K) {Qq : UInt32 → ql_H → Prop} (hM : ∀ b, K b → ql_M D l y bytes maxL ret rm h (.ref b :: As) (ql_rF Qq) X mc ms)
    (hn : As.length = n) (hR : rm.frames + 1 ≤ R.frames ∧ 8 + (maxL + 11) + rm.locals ≤ R.locals) (hm : rm.cells = mc ∧ rm.slots = ms) (hcat : (rest.map fun v => v.category).sum ≤ 8) (hst : ∀ b : Nat, r = some b → st0 = As.reverse ++ .ref b :: rest) (hdg : decode cc pc = .ok (.invokevirtual index, 3)) (hf : cells + mc ≤ R.cells ∧ slots + ms ≤ R.slots)
    (kx : ∀ (E : String) (ce : Cell) (q9 : Addr) (h : ql_H) (H : Heap) (locs : List Loc), X E h → ql_S D h0 s H locs h → H[q9]? = some ce → ce.vm = .none → s.vm.findClass E = some ce.cls → vx_W p l e R s m args below meth c H locs (cells + mc) (slots + ms) Q (F0 m pc ls rest) q9)
    (kk : ∀ (x : UInt32) (h : ql_H) (H : Heap) (locs : List Loc), ql_S D h0 s H locs h → Qq x h → W p l e R s m args below meth c H locs (cells + mc) (slots + ms) Q (F0 m (pc + 3) ls (.float x :: rest))) : W p l e R s m args below meth c H locs cells slots Q (F0 m pc ls st0) :=
  ql_V0 C S Y hi hse hlk hci w hM hn hR hm hcat hl.1 hst hdg hf kx (fun v h1 H1 l1 hq S1 => by obtain ⟨x, rfl, hq⟩ := hq; exact kk x h1 H1 l1 S1 hq)
theorem ql_HVR (C : ql_C D h0 p m c cc nL s args own) (S : ql_S D h0 s H locs h) {lv : List (Nat × Value)} (hl : lv_has ls nL lv) (Y : ql_Y y bytes maxL ret n) (hi : Cond.instanceMethod y ∈ ql_W) (hse : Cond.selects y.cls y y ∈ ql_W) (hlk : Cond.methodLink own index y ∈ ql_W) {ci N : Nat} {T : u_T} (hci : vwCl[ci]? = some (y.cls, T, N)) {r : Option Nat} {K : Nat → Prop} (w : ql_rv h r ci K) {Qq : Option Nat → ql_H → Prop} (hM : ∀ b, K b → ql_M D l y bytes maxL ret rm h (.ref b :: As) (ql_rR Qq) X mc ms)
    (hn : As.length = n) (hR : rm.frames + 1 ≤ R.frames ∧ 8 + (maxL + 11) + rm.locals ≤ R.locals) (hm : rm.cells = mc ∧ rm.slots = ms) (hcat : (rest.map fun v => v.category).sum ≤ 8) (hst : ∀ b : Nat, r = some b → st0 = As.reverse ++ .ref b :: rest) (hdg : decode cc pc = .ok (.invokevirtual index, 3)) (hf : cells + mc ≤ R.cells ∧ slots + ms ≤ R.slots)
    (kx : ∀ (E : String) (ce : Cell) (q9 : Addr) (h : ql_H) (H : Heap) (locs : List Loc), X E h → ql_S D h0 s H locs h → H[q9]? = some ce → ce.vm = .none → s.vm.findClass E = some ce.cls → vx_W p l e R s m args below meth c H locs (cells + mc) (slots + ms) Q (F0 m pc ls rest) q9)
    (kk : ∀ (x : Option Nat) (h : ql_H) (H : Heap) (locs : List Loc), ql_S D h0 s H locs h → Qq x h → W p l e R s m args below meth c H locs (cells + mc) (slots + ms) Q (F0 m (pc + 3) ls (va_rf x :: rest))) : W p l e R s m args below meth c H locs cells slots Q (F0 m pc ls st0) :=
  ql_V0 C S Y hi hse hlk hci w hM hn hR hm hcat hl.1 hst hdg hf kx (fun v h1 H1 l1 hq S1 => by obtain ⟨x, rfl, hq⟩ := hq; exact kk x h1 H1 l1 S1 hq)
/-- the law's script: nothing writes it -/
theorem ql_xlen (C : ql_C D h0 p m c cc nL s args own) (S : ql_S D h0 s H locs h) {b L : Nat} {xs : Nat → Int32} (hX : va_X b L xs s s.heap ∧ b < s.heap.size ∧ ¬ ql_A h0 b) (hdg : decode cc pc = .ok (.arraylength, 1))
    (kk : W p l e R s m args below meth c H locs cells slots Q (F0 m (pc + 1) ls (.int (nI L) :: rest))) : W p l e R s m args below meth c H locs cells slots Q (F0 m pc ls (.ref b :: rest)) := va_slen C.1.1 C.1.2.1 hX.1 hX.2.1 hX.2.2 S.2.1 hdg kk
theorem ql_sld (C : ql_C D h0 p m c cc nL s args own) (S : ql_S D h0 s H locs h) {b L : Nat} {xs : Nat → Int32} (hX : va_X b L xs s s.heap ∧ b < s.heap.size ∧ ¬ ql_A h0 b) {i : Int32} (hin : vp_in i L) (hdg : decode cc pc = .ok (.iaload, 1))
    (kk : W p l e R s m args below meth c H locs cells slots Q (F0 m (pc + 1) ls (.int (xs i.toNatClampNeg) :: rest))) : W p l e R s m args below meth c H locs cells slots Q (F0 m pc ls (.int i :: .ref b :: rest)) := va_sld C.1.1 C.1.2.1 hX.1 hX.2.1 hX.2.2 S.2.1 hin hdg kk
end QH3
