/-! rows that make cells, constructors' calls, copies of arrays -/
theorem ql_S.putL {D : ql_D} {h0 h : ql_H} {s : State} {H H1 : Heap} {locs L : List Loc} {a : Nat} {o o' : ql_O} (S : ql_S D h0 s H locs h) (ha : h.2 a = some o) (e : va_at D.1 vwCl (a, ql_tr D o') H1) (z : H1.size = H.size) (oq : ∀ q : Nat, q ≠ a → H1[q]? = H[q]?) (hL : ∀ q ∈ L, q.base = a) : ql_S D h0 s H1 (locs ++ L) (ql_up h a o') := by
  obtain ⟨⟨hz, hr⟩, hs, hd, h0z⟩ := S
  have hA : ql_A h0 a := hd a (by rw [ha]; exact fun q => by cases q)
  refine ⟨⟨z.trans hz, fun q x hq => ?_⟩, ⟨by rw [z]; exact hs.1, fun q h1 h2 => ?_, fun q hq => ?_⟩, fun q hq => ?_, h0z⟩
  · by_cases e1 : q = a
    · subst e1
      have e2 : some o' = some x := by rw [← hq]; exact (if_pos rfl).symm
      cases e2
      exact e
    · have hq' : h.2 q = some x := by rw [← hq]; exact (if_neg e1).symm
      exact (hr q x hq').kept (oq q e1)
  · rw [oq q (fun e9 => h2 (by rw [e9]; exact hA))]
    exact hs.2.1 q h1 h2
  · rcases List.mem_append.mp hq with h9 | h9
    · exact hs.2.2 q h9
    · rw [hL q h9]; exact hA
  · by_cases e1 : q = a
    · rw [e1]; exact hA
    · exact hd q (fun z9 => hq ((if_neg e1).trans z9))
/-- a cell is made -/
def ql_mk (h : ql_H) (o : ql_O) : ql_H := (h.1 + 1, fun q => if q = h.1 then some o else h.2 q)
def ql_nw (h : ql_H) (o : ql_O) (K : Option Nat → ql_H → Prop) : Prop := K (some h.1) (ql_mk h o)
theorem ql_S.mk {D : ql_D} {h0 h : ql_H} {s : State} {H H1 : Heap} {locs : List Loc} {o : ql_O} (S : ql_S D h0 s H locs h) (e : va_at D.1 vwCl (h.1, ql_tr D o) H1) (z : H1.size = H.size + 1) (oq : ∀ q : Nat, q < H.size → H1[q]? = H[q]?) : ql_S D h0 s H1 locs (ql_mk h o) := by
  obtain ⟨⟨hz, hr⟩, hs, hd, h0z⟩ := S
  refine ⟨⟨by rw [z, hz]; rfl, fun q x hq => ?_⟩, ⟨Nat.le_trans hs.1 (by omega), fun q h1 h2 => (oq q (Nat.lt_of_lt_of_le h1 hs.1)).trans (hs.2.1 q h1 h2), hs.2.2⟩, fun q hq => ?_, h0z⟩
  · by_cases e1 : q = h.1
    · subst e1
      have e2 : some o = some x := by rw [← hq]; exact (if_pos rfl).symm
      cases e2
      exact e
    · have hq' : h.2 q = some x := by rw [← hq]; exact (if_neg e1).symm
      have hv := hr q x hq'
      exact hv.kept (oq q hv.lt)
  · by_cases e1 : q = h.1
    · rw [e1]; exact Or.inr (by rw [← h0z, ← hz]; exact hs.1)
    · exact hd q (fun z9 => hq ((if_neg e1).trans z9))
section QN
variable {p : Program} {l : Launch} {e : Env} {R : Room} {s : State} {m : MethodId} {args : Array Value} {below : List Frame} {meth : Method} {c : Code} {H : Heap} {locs : List Loc} {cells slots : Nat} {Q : State → Prop}
variable {cc : ByteArray} {pc nL : Nat} {ls : Array Slot} {rest st0 : List Value} {D : ql_D} {h0 h : ql_H} {own : String}
variable {y : MethodName} {bytes : ByteArray} {maxL mc ms n index mc0 ms0 : Nat} {ret : Option FieldType} {rm : Room} {As : List Value} {Qr : Option Value → ql_H → Prop} {X : String → ql_H → Prop} {Qc : Array Value → State → Outcome → State → Prop}
theorem ql_new (C : ql_C D h0 p m c cc nL s args own) (S : ql_S D h0 s H locs h) {ci N : Nat} {Cn : String} {T : u_T} (hc : vwCl[ci]? = some (Cn, T, N)) (hlay : ∀ w ∈ u_ws Cn T N, w ∈ ql_W) (ty : Nat → FieldType) (hty : ∀ k, k < N → parseFieldDescriptor (T k).2.2.1 = some (ty k)) (hcl : Cond.classLink own index Cn ∈ ql_W) (hinst : Cond.instantiable Cn N ∈ ql_W) (hini : Cond.initialized Cn ∈ ql_W) {fs : List Value} (hfs : ∀ j, j < N → defaultValue (ty j) = vp_V fs j)
    (hcells : cells + 1 ≤ R.cells ∧ slots + N ≤ R.slots) (hdg : decode cc pc = .ok (.new index, 3)) {K : Option Nat → ql_H → Prop} (w : ql_nw h (.inr (ci, fs)) K)
    (kk : ∀ (r : Option Nat) (h : ql_H) (H : Heap), ql_S D h0 s H locs h → K r h → W p l e R s m args below meth c H locs (cells + 1) (slots + N) Q (F0 m (pc + 3) ls (va_rf r :: rest))) : W p l e R s m args below meth c H locs cells slots Q (F0 m pc ls rest) := by
  have ht := C.1.2.2.2.2
  have hKn := C.2.1.1 ci _ hc
  refine W.newcK C.1.1 C.1.2.1 C.1.2.2.2.1 (ht _ hcl) (ht _ hinst) (ht _ hini) rfl hdg hcells.1 hcells.2 hKn.2.1 S.1.1 fun H1 kC hkC e1 z1 o1 => ?_
  exact kk (some h.1) _ H1 (S.mk (o := .inr (ci, fs)) (show ∃ r : vw_C, vwCl[ci]? = some r ∧ t_OB h.1 (D.1.1 ci) r.2.2 (D.1.2 ci) H1 (vp_V fs) from ⟨_, hc, (u_born ty ht hlay hKn hkC e1 hty).to hfs⟩) (by rw [z1, S.1.1]) (fun q hq => o1 q (by rw [← S.1.1]; exact hq))) w
theorem ql_newa (C : ql_C D h0 p m c cc nL s args own) (S : ql_S D h0 s H locs h) {kd : Nat} {atype : ArrayType} (harr : Cond.arrayClass (newarray.typeOf atype) ∈ ql_W) (htys : (ql_tys D)[kd]? = some (D.2 kd, newarray.typeOf atype)) (hra : va_RA s (D.2 kd) (newarray.typeOf atype) → s.vm.findClass ("[" ++ (newarray.typeOf atype).toString) = some (D.2 kd)) {n9 : Int32} {N : Nat} {a0 : vp_A} (ha : ∀ cA : ClassId, vp_cell cA a0 = arrV cA N (fun _ => defaultValue (newarray.typeOf atype))) (hn : ¬ n9 < 0) (hN : n9.toNatClampNeg = N) (hbytes : N * componentBytes (newarray.typeOf atype) ≤ 536870912)
    (hcells : cells + 1 ≤ R.cells ∧ slots + N ≤ R.slots) (hdg : decode cc pc = .ok (.newarray atype, 2)) {K : Option Nat → ql_H → Prop} (w : ql_nw h (.inl (kd, a0)) K)
    (kk : ∀ (r : Option Nat) (h : ql_H) (H : Heap), ql_S D h0 s H locs h → K r h → W p l e R s m args below meth c H locs (cells + 1) (slots + N) Q (F0 m (pc + 2) ls (va_rf r :: rest))) : W p l e R s m args below meth c H locs cells slots Q (F0 m pc ls (.int n9 :: rest)) := by
  have ht := C.1.2.2.2.2
  refine va_newaK C.1.1 C.1.2.1 (ht _ harr) rfl hdg rfl hn hN hbytes hcells.1 hcells.2 S.1.1 fun H1 cA e1 z1 o1 hAr hNm => ?_
  have hcA : cA = D.2 kd := Option.some.inj (hNm.symm.trans (hra (C.2.1.2 kd _ htys).2))
  subst hcA
  exact kk (some h.1) _ H1 (S.mk (o := .inl (kd, a0)) (show H1[h.1]? = some (vp_cell (D.2 kd) a0) by rw [ha]; exact e1) (by rw [z1, S.1.1]) (fun q hq => o1 q (by rw [← S.1.1]; exact hq))) w
theorem ql_newq (C : ql_C D h0 p m c cc nL s args own) (S : ql_S D h0 s H locs h) {kd : Nat} {Cn : String} (hclink : Cond.classLink own index Cn ∈ ql_W) (hover : FieldType.object Cn ∈ ql_over) (htys : (ql_tys D)[kd]? = some (D.2 kd, .object Cn)) {n9 : Int32} {N : Nat} (hn : ¬ n9 < 0) (hN : n9.toNatClampNeg = N) (hbytes : N * 4 ≤ 536870912)
    (hcells : cells + 1 ≤ R.cells ∧ slots + N ≤ R.slots) (hdg : decode cc pc = .ok (.anewarray index, 3)) {K : Option Nat → ql_H → Prop} (w : ql_nw h (.inl (kd, N, .inr (.inr (.inr (.inr (fun _ => none)))))) K)
    (kk : ∀ (r : Option Nat) (h : ql_H) (H : Heap), ql_S D h0 s H locs h → K r h → W p l e R s m args below meth c H locs (cells + 1) (slots + N) Q (F0 m (pc + 3) ls (va_rf r :: rest))) : W p l e R s m args below meth c H locs cells slots Q (F0 m pc ls (.int n9 :: rest)) := by
  subst hN
  have ht := C.1.2.2.2.2
  refine W.anew C.1.1 C.1.2.1 C.1.2.2.2.1 (ht _ hclink) ((C.2.2.2.2.1 _ hover).use) rfl hdg rfl hn hbytes hcells.1 hcells.2 fun cA kA comp f1 f2 f3 f4 => ?_
  obtain ⟨kA', comp', g1, g2, g3, g4⟩ := (C.2.1.2 kd _ htys).2
  have hcA : cA = D.2 kd := Option.some.inj (f1.symm.trans g4)
  subst hcA
  have e1 : (H.push ({ cls := D.2 kd, slots := Array.replicate n9.toNatClampNeg .null, vm := .none } : Cell))[h.1]? = some (arrV (D.2 kd) n9.toNatClampNeg (fun _ => .null)) := by rw [← S.1.1, Array.getElem?_push_size, ← arrV_new]
  rw [S.1.1]
  exact kk (some h.1) _ _ (S.mk (o := .inl (kd, n9.toNatClampNeg, .inr (.inr (.inr (.inr (fun _ => none)))))) e1 (by rw [Array.size_push]) (fun q hq => by rw [Array.getElem?_push, if_neg (Nat.ne_of_lt hq)])) w
theorem ql_objInit (C : ql_C D h0 p m c cc nL s args own) {lv : List (Nat × Value)} (hl : lv_has ls nL lv) {idx a : Nat} (hlink : Cond.methodLink own idx objectInit ∈ ql_W) (hinst : Cond.instanceMethod objectInit ∈ ql_W) (hcode : Cond.code objectInit ⟨#[0xb1]⟩ 1 none ∈ ql_W) (hd : decode cc pc = .ok (.invokespecial idx, 3)) (hfr : 1 ≤ R.frames) (hlo : (rest.map fun v => v.category).sum + 12 ≤ R.locals)
    (kk : W p l e R s m args below meth c H locs cells slots Q (F0 m (pc + 3) ls rest)) : W p l e R s m args below meth c H locs cells slots Q (F0 m pc ls (.ref a :: rest)) := by
  have ht := C.1.2.2.2.2
  exact W.objInit C.1.1 C.1.2.1 C.1.2.2.2.1 (ht _ hlink) (ht _ hinst) (ht _ hcode) rfl (by rw [C.1.2.2.1]; exact hl.1) rfl hd hfr (by show 2 * 0 + _ + 12 ≤ _; omega) kk
/-- the reference isn't null -/
def ql_nn (r : Option Nat) (K : Nat → Prop) : Prop := match r with
  | some a => K a
  | none => False
theorem ql_nn_out {r : Option Nat} {K : Nat → Prop} (w : ql_nn r K) : ∃ a, r = some a ∧ K a := by
  cases r with
  | none => exact w.elim
  | some a => exact ⟨a, rfl, w⟩
/-- a constructor is called -/
theorem ql_I0 (C : ql_C D h0 p m c cc nL s args own) (S : ql_S D h0 s H locs h) (htab : ∀ x ∈ c.exceptionTable.toList, False) (hlocks : meth.locks = false) {lv : List (Nat × Value)} (hl : lv_has ls nL lv) (Y : ql_Y y bytes maxL none n) (hi : Cond.instanceMethod y ∈ ql_W) (hy1 : y.name = "<init>") (hlk : Cond.methodLink own index y ∈ ql_W) {r : Option Nat} {K : Nat → Prop} (w : ql_nn r K) {Qq : ql_H → Prop} (hM : ∀ b, K b → ql_M D l y bytes maxL none rm h (.ref b :: As) (ql_rV Qq) X mc ms)
    (hn : As.length = n) (hR : rm.frames + 1 ≤ R.frames ∧ 8 + (maxL + 11) + rm.locals ≤ R.locals) (hm : rm.cells = mc ∧ rm.slots = ms) (hcat : (rest.map fun v => v.category).sum ≤ 8) (hst : ∀ b : Nat, r = some b → st0 = As.reverse ++ .ref b :: rest) (hdg : decode cc pc = .ok (.invokespecial index, 3)) (hf : cells + mc ≤ R.cells ∧ slots + ms ≤ R.slots) (hc : cells + mc ≤ mc0 ∧ slots + ms ≤ ms0)
    (kk : ∀ (h : ql_H) (H : Heap) (locs : List Loc), ql_S D h0 s H locs h → Qq h → W p l e R s m args below meth c H locs (cells + mc) (slots + ms) (vx_MQ below Qc (ql_X D h0 X) args s mc0 ms0 (ql_A h0)) (F0 m (pc + 3) ls rest)) : W p l e R s m args below meth c H locs cells slots (vx_MQ below Qc (ql_X D h0 X) args s mc0 ms0 (ql_A h0)) (F0 m pc ls st0) := by
  obtain ⟨b, rfl, wK⟩ := ql_nn_out w
  have ht := C.1.2.2.2.2
  refine ql_after S (vx_runI (As := As) (b := b) C.1 (hM b wK) ⟨ql_cb ht Y hlk hm.1 hm.2 hR, hy1, ht _ hi⟩ ⟨ql_P.blind, C.lift S⟩ rfl hn hl.1 (hst b rfl) (lv_room hcat) hdg hf) (fun E ce q9 h1 H1 l1 hx S1 g1 g2 g3 => ql_out htab hlocks hx S1 g1 g2 g3 hc.1 hc.2) (fun v h1 H1 l1 hq S1 => by obtain ⟨rfl, hq⟩ := hq; exact kk h1 H1 l1 S1 hq)
theorem ql_IN0 (C : ql_C D h0 p m c cc nL s args own) (S : ql_S D h0 s H locs h) (htab : ∀ x ∈ c.exceptionTable.toList, False) (hlocks : meth.locks = false) {lv : List (Nat × Value)} (hl : lv_has ls nL lv) (Y : ql_Y y bytes maxL none n) (hi : Cond.instanceMethod y ∈ ql_W) (hy1 : y.name = "<init>") {host : String} (hlk : Cond.methodLinkNest own index y host ∈ ql_N) {r : Option Nat} {K : Nat → Prop} (w : ql_nn r K) {Qq : ql_H → Prop} (hM : ∀ b, K b → ql_M D l y bytes maxL none rm h (.ref b :: As) (ql_rV Qq) X mc ms)
    (hn : As.length = n) (hR : rm.frames + 1 ≤ R.frames ∧ 8 + (maxL + 11) + rm.locals ≤ R.locals) (hm : rm.cells = mc ∧ rm.slots = ms) (hcat : (rest.map fun v => v.category).sum ≤ 8) (hst : ∀ b : Nat, r = some b → st0 = As.reverse ++ .ref b :: rest) (hdg : decode cc pc = .ok (.invokespecial index, 3)) (hf : cells + mc ≤ R.cells ∧ slots + ms ≤ R.slots) (hc : cells + mc ≤ mc0 ∧ slots + ms ≤ ms0)
    (kk : ∀ (h : ql_H) (H : Heap) (locs : List Loc), ql_S D h0 s H locs h → Qq h → W p l e R s m args below meth c H locs (cells + mc) (slots + ms) (vx_MQ below Qc (ql_X D h0 X) args s mc0 ms0 (ql_A h0)) (F0 m (pc + 3) ls rest)) : W p l e R s m args below meth c H locs cells slots (vx_MQ below Qc (ql_X D h0 X) args s mc0 ms0 (ql_A h0)) (F0 m pc ls st0) := by
  obtain ⟨b, rfl, wK⟩ := ql_nn_out w
  have ht := C.1.2.2.2.2
  have cw : va_CN R s args own index y host bytes maxL none (Cond.code y bytes maxL none :: ql_W) rm mc ms n := va_cnB n ht (ql_GI Y.1) rfl hm.1 hm.2 (C.2.2.2.1 _ hlk) (ht _ Y.2.1) Y.2.2 hR
  refine ql_after S (vx_runIN (As := As) (b := b) C.1 (hM b wK) ⟨cw, hy1, ht _ hi⟩ ⟨ql_P.blind, C.lift S⟩ rfl hn hl.1 (hst b rfl) (lv_room hcat) hdg hf) (fun E ce q9 h1 H1 l1 hx S1 g1 g2 g3 => ql_out htab hlocks hx S1 g1 g2 g3 hc.1 hc.2) (fun v h1 H1 l1 hq S1 => by obtain ⟨rfl, hq⟩ := hq; exact kk h1 H1 l1 S1 hq)
/-- System.arraycopy of ints (kind 0) or bytes (kind 3) -/
def ql_cpI (h : ql_H) (r0 : Option Nat) (sp : Int32) (r1 : Option Nat) (dp n : Int32) (kd : Nat) (ty : FieldType) (K : ql_H → Prop) : Prop := ql_ar h r0 kd fun _ x => ql_ar h r1 kd fun a y => match x.2, y.2 with
  | .inl f, .inl g => (¬ sp < 0 ∧ ¬ dp < 0 ∧ ¬ n < 0 ∧ sp.toNatClampNeg + n.toNatClampNeg ≤ x.1 ∧ dp.toNatClampNeg + n.toNatClampNeg ≤ y.1 ∧ ∀ i, i < n.toNatClampNeg → fits ty (.int (f (sp.toNatClampNeg + i))) = true) ∧ K (ql_up h a (.inl (kd, y.1, .inl (va_cpy f g sp.toNatClampNeg dp.toNatClampNeg n.toNatClampNeg))))
  | _, _ => False
def ql_cpJ (h : ql_H) (r0 : Option Nat) (sp : Int32) (r1 : Option Nat) (dp n : Int32) (K : ql_H → Prop) : Prop := ql_ar h r0 1 fun _ x => ql_ar h r1 1 fun a y => match x.2, y.2 with
  | .inr (.inl f), .inr (.inl g) => (¬ sp < 0 ∧ ¬ dp < 0 ∧ ¬ n < 0 ∧ sp.toNatClampNeg + n.toNatClampNeg ≤ x.1 ∧ dp.toNatClampNeg + n.toNatClampNeg ≤ y.1) ∧ K (ql_up h a (.inl (1, y.1, .inr (.inl (va_cpy f g sp.toNatClampNeg dp.toNatClampNeg n.toNatClampNeg)))))
  | _, _ => False
theorem ql_nnI {z : Int32} (hz : ¬ z < 0) : z.toInt = (z.toNatClampNeg : Int) := by
  have hz0 : (0 : Int) ≤ z.toInt := by
    have := Int32.not_lt.mp hz
    simpa using Int32.le_iff_toInt_le.mp this
  show z.toInt = ((z.toInt.toNat : Nat) : Int)
  omega
theorem ql_copyI (C : ql_C D h0 p m c cc nL s args own) (S : ql_S D h0 s H locs h) {lv : List (Nat × Value)} (hl : lv_has ls nL lv) {kd : Nat} {ty : FieldType} (ht0 : (ql_tys D)[kd]? = some (D.2 kd, ty)) (hprim : refKind ty = false) (hw : Cond.methodLink own index arraycopyName ∈ ql_W ∧ Cond.native arraycopyName ∈ ql_W ∧ Cond.static arraycopyName ∈ ql_W ∧ Cond.initialized "java/lang/System" ∈ ql_W)
    (hfr : 1 ≤ R.frames) (hlo : (rest.map fun v => v.category).sum + (nativeFrameWords "java/lang/System" "arraycopy" 5 + 11) ≤ R.locals) (hdg : decode cc pc = .ok (.invokestatic index, 3)) {r0 r1 : Option Nat} {sp dp n : Int32} {K : ql_H → Prop} (w : ql_cpI h r0 sp r1 dp n kd ty K)
    (kk : ∀ (h : ql_H) (H : Heap) (locs : List Loc), ql_S D h0 s H locs h → K h → W p l e R s m args below meth c H locs cells slots Q (F0 m (pc + 3) ls rest)) : W p l e R s m args below meth c H locs cells slots Q (F0 m pc ls (.int n :: .int dp :: va_rf r1 :: .int sp :: va_rf r0 :: rest)) := by
  have ht := C.1.2.2.2.2
  obtain ⟨a0, ⟨n0, x0⟩, rfl, ha0, w⟩ := ql_ar_out w
  obtain ⟨a, ⟨n1, x1⟩, rfl, ha1, w⟩ := ql_ar_out w
  rcases x0 with f | f | f | f | f <;> first | exact w.elim | skip
  rcases x1 with g | g | g | g | g <;> first | exact w.elim | skip
  obtain ⟨⟨h1, h2, h3, h4, h5, hfit⟩, wk⟩ := w
  intro T hT X
  have hc0 : H[a0]? = some (vp_cell (D.2 kd) (n0, .inl f)) := S.1.2 a0 _ ha0
  have hc1 : H[a]? = some (vp_cell (D.2 kd) (n1, .inl g)) := S.1.2 a _ ha1
  obtain ⟨-, k0, hk0, cm0, hkk0⟩ := (C.2.1.2 kd _ ht0).1 n0 (fun j => .int (f j))
  obtain ⟨-, k1, hk1, cm1, hkk1⟩ := (C.2.1.2 kd _ ht0).1 n1 (fun j => .int (g j))
  obtain ⟨vm', X', step⟩ := X.arraycopy C.1.1 C.1.2.2.2.1 (ht _ hw.1) (ht _ hw.2.1) (ht _ hw.2.2.1) (ht _ hw.2.2.2) (src := a0) (dst := a) (cs := vp_cell (D.2 kd) (n0, .inl f)) (cd := vp_cell (D.2 kd) (n1, .inl g)) (srcPos := sp) (destPos := dp) (n := n) (by rw [hT]; exact hc0) (by rw [hT]; exact hc1)
    (fun _ h => by cases h) (fun _ h => by cases h) (fun h => by cases h) (fun h => by cases h) hk0 hk1 hkk0 hkk1 (by simp [hprim]) h1 h2 h3
    (by rw [ql_nnI h1, ql_nnI h3]; show ¬ _ > ((arrV (D.2 kd) n0 (fun j => .int (f j))).slots.size : Int); rw [arrV_size]; omega)
    (by rw [ql_nnI h2, ql_nnI h3]; show ¬ _ > ((arrV (D.2 kd) n1 (fun j => .int (g j))).slots.size : Int); rw [arrV_size]; omega)
    (fun vm₁ _ i hi => by
      have e : (vp_cell (D.2 kd) (n0, .inl f)).slots.getD (sp.toNatClampNeg + i) .null = .int (f (sp.toNatClampNeg + i)) := by
        show (arrV (D.2 kd) n0 (fun j => .int (f j))).slots.getD _ _ = _
        rw [Array.getD_eq_getD_getElem?, arrV_read _ _ (by omega)]
        rfl
      refine ⟨?_, ?_⟩
      · rw [e]
        exact hfit i hi
      · rw [e]
        exact trivial)
    (g := F0 m pc ls (.int n :: .int dp :: .ref a :: .int sp :: .ref a0 :: rest)) rfl (by rw [C.1.2.2.1]; exact hl.1) (rest := rest) rfl (by rw [C.1.2.1]; exact hdg) hfr (by show 2 * 0 + _ + _ ≤ _; omega)
  have e1 : copied (vp_cell (D.2 kd) (n0, .inl f)) (vp_cell (D.2 kd) (n1, .inl g)) sp dp n = vp_cell (D.2 kd) (n1, .inl (va_cpy f g sp.toNatClampNeg dp.toNatClampNeg n.toNatClampNeg)) := va_copied (fun z => .int z) (D.2 kd) (D.2 kd) f g h4
  rw [e1] at X' step
  have hl9 : a < H.size := (Array.getElem?_eq_some_iff.mp hc1).1
  have hheap : ((T.setVm vm').setCell a (vp_cell (D.2 kd) (n1, .inl (va_cpy f g sp.toNatClampNeg dp.toNatClampNeg n.toNatClampNeg)))).heap = H.setIfInBounds a (vp_cell (D.2 kd) (n1, .inl (va_cpy f g sp.toNatClampNeg dp.toNatClampNeg n.toNatClampNeg))) := by rw [← hT]; rfl
  obtain ⟨t, a1, b1⟩ := kk _ _ _ (S.putL (o' := .inl (kd, n1, .inl (va_cpy f g sp.toNatClampNeg dp.toNatClampNeg n.toNatClampNeg))) ha1 (show (H.setIfInBounds a _)[a]? = some _ by rw [Array.getElem?_setIfInBounds, if_pos rfl, if_pos hl9]) (by simp) (fun q hq => by simp [Array.getElem?_setIfInBounds, Ne.symm hq]) (fun q hq => by
    obtain ⟨z, -, hz⟩ := List.mem_map.mp hq
    rw [← hz])) wk _ hheap X'
  exact ⟨t, step t a1, b1⟩
theorem ql_copyJ (C : ql_C D h0 p m c cc nL s args own) (S : ql_S D h0 s H locs h) {lv : List (Nat × Value)} (hl : lv_has ls nL lv) (hw : Cond.methodLink own index arraycopyName ∈ ql_W ∧ Cond.native arraycopyName ∈ ql_W ∧ Cond.static arraycopyName ∈ ql_W ∧ Cond.initialized "java/lang/System" ∈ ql_W)
    (hfr : 1 ≤ R.frames) (hlo : (rest.map fun v => v.category).sum + (nativeFrameWords "java/lang/System" "arraycopy" 5 + 11) ≤ R.locals) (hdg : decode cc pc = .ok (.invokestatic index, 3)) {r0 r1 : Option Nat} {sp dp n : Int32} {K : ql_H → Prop} (w : ql_cpJ h r0 sp r1 dp n K)
    (kk : ∀ (h : ql_H) (H : Heap) (locs : List Loc), ql_S D h0 s H locs h → K h → W p l e R s m args below meth c H locs cells slots Q (F0 m (pc + 3) ls rest)) : W p l e R s m args below meth c H locs cells slots Q (F0 m pc ls (.int n :: .int dp :: va_rf r1 :: .int sp :: va_rf r0 :: rest)) := by
  have ht := C.1.2.2.2.2
  obtain ⟨a0, ⟨n0, x0⟩, rfl, ha0, w⟩ := ql_ar_out w
  obtain ⟨a, ⟨n1, x1⟩, rfl, ha1, w⟩ := ql_ar_out w
  rcases x0 with f | f | f | f | f <;> first | exact w.elim | skip
  rcases x1 with g | g | g | g | g <;> first | exact w.elim | skip
  obtain ⟨⟨h1, h2, h3, h4, h5⟩, wk⟩ := w
  intro T hT X
  have hc0 : H[a0]? = some (vp_cell (D.2 1) (n0, .inr (.inl f))) := S.1.2 a0 _ ha0
  have hc1 : H[a]? = some (vp_cell (D.2 1) (n1, .inr (.inl g))) := S.1.2 a _ ha1
  obtain ⟨-, k0, hk0, cm0, hkk0⟩ := (C.2.1.2 1 _ rfl).1 n0 (fun j => .long (f j))
  obtain ⟨-, k1, hk1, cm1, hkk1⟩ := (C.2.1.2 1 _ rfl).1 n1 (fun j => .long (g j))
  obtain ⟨vm', X', step⟩ := X.arraycopy C.1.1 C.1.2.2.2.1 (ht _ hw.1) (ht _ hw.2.1) (ht _ hw.2.2.1) (ht _ hw.2.2.2) (src := a0) (dst := a) (cs := vp_cell (D.2 1) (n0, .inr (.inl f))) (cd := vp_cell (D.2 1) (n1, .inr (.inl g))) (srcPos := sp) (destPos := dp) (n := n) (by rw [hT]; exact hc0) (by rw [hT]; exact hc1)
    (fun _ h => by cases h) (fun _ h => by cases h) (fun h => by cases h) (fun h => by cases h) hk0 hk1 hkk0 hkk1 (by simp [refKind]) h1 h2 h3
    (by rw [ql_nnI h1, ql_nnI h3]; show ¬ _ > ((arrV (D.2 1) n0 (fun j => .long (f j))).slots.size : Int); rw [arrV_size]; omega)
    (by rw [ql_nnI h2, ql_nnI h3]; show ¬ _ > ((arrV (D.2 1) n1 (fun j => .long (g j))).slots.size : Int); rw [arrV_size]; omega)
    (fun vm₁ _ i hi => by
      have e : (vp_cell (D.2 1) (n0, .inr (.inl f))).slots.getD (sp.toNatClampNeg + i) .null = .long (f (sp.toNatClampNeg + i)) := by
        show (arrV (D.2 1) n0 (fun j => .long (f j))).slots.getD _ _ = _
        rw [Array.getD_eq_getD_getElem?, arrV_read _ _ (by omega)]
        rfl
      refine ⟨?_, ?_⟩
      · rw [e]
        rfl
      · rw [e]
        exact trivial)
    (g := F0 m pc ls (.int n :: .int dp :: .ref a :: .int sp :: .ref a0 :: rest)) rfl (by rw [C.1.2.2.1]; exact hl.1) (rest := rest) rfl (by rw [C.1.2.1]; exact hdg) hfr (by show 2 * 0 + _ + _ ≤ _; omega)
  have e1 : copied (vp_cell (D.2 1) (n0, .inr (.inl f))) (vp_cell (D.2 1) (n1, .inr (.inl g))) sp dp n = vp_cell (D.2 1) (n1, .inr (.inl (va_cpy f g sp.toNatClampNeg dp.toNatClampNeg n.toNatClampNeg))) := va_copied (fun z => .long z) (D.2 1) (D.2 1) f g h4
  rw [e1] at X' step
  have hl9 : a < H.size := (Array.getElem?_eq_some_iff.mp hc1).1
  have hheap : ((T.setVm vm').setCell a (vp_cell (D.2 1) (n1, .inr (.inl (va_cpy f g sp.toNatClampNeg dp.toNatClampNeg n.toNatClampNeg))))).heap = H.setIfInBounds a (vp_cell (D.2 1) (n1, .inr (.inl (va_cpy f g sp.toNatClampNeg dp.toNatClampNeg n.toNatClampNeg)))) := by rw [← hT]; rfl
  obtain ⟨t, a1, b1⟩ := kk _ _ _ (S.putL (o' := .inl (1, n1, .inr (.inl (va_cpy f g sp.toNatClampNeg dp.toNatClampNeg n.toNatClampNeg)))) ha1 (show (H.setIfInBounds a _)[a]? = some _ by rw [Array.getElem?_setIfInBounds, if_pos rfl, if_pos hl9]) (by simp) (fun q hq => by simp [Array.getElem?_setIfInBounds, Ne.symm hq]) (fun q hq => by
    obtain ⟨z, -, hz⟩ := List.mem_map.mp hq
    rw [← hz])) wk _ hheap X'
  exact ⟨t, step t a1, b1⟩
/-- new int[N][K]: the rows lie behind the outer array -/
def ql_mm (h : ql_H) (N K : Nat) : ql_H := (h.1 + 1 + N, fun q => if q = h.1 then some (.inl (8, N, .inr (.inr (.inr (.inr (fun i => if i < N then some (h.1 + 1 + i) else none)))))) else if h.1 < q ∧ q ≤ h.1 + N then some (.inl (0, K, .inl (fun _ => 0))) else h.2 q)
def ql_nm (h : ql_H) (N K : Nat) (KK : Option Nat → ql_H → Prop) : Prop := KK (some h.1) (ql_mm h N K)
theorem ql_outer (c : ClassId) (N h0 : Nat) : ∀ i : Nat, Jvm.Free.Multi.outerC c N h0 i = arrV c N (fun j => va_rf (if j < i then some (h0 + 1 + j) else none))
  | 0 => by
    show ({ cls := c, slots := Array.replicate N .null, vm := .none } : Cell) = _
    rw [arrV_new]
    refine congrArg (arrV c N) (funext fun j => ?_)
    simp [va_rf]
  | i + 1 => by
    show (Jvm.Free.Multi.outerC c N h0 i).setSlot i (.ref (h0 + 1 + i)) = _
    rw [ql_outer c N h0 i, arrV_store]
    refine congrArg (arrV c N) (funext fun j => ?_)
    by_cases e : j = i
    · subst e
      simp [updV, va_rf]
    · by_cases h : j < i
      · simp [updV, e, h, Nat.lt_succ_of_lt h]
      · simp [updV, e, h, show ¬ j < i + 1 by omega]
theorem ql_mna (C : ql_C D h0 p m c cc nL s args own) (S : ql_S D h0 s H locs h) (hclink : Cond.classLink own index ("[" ++ (FieldType.array .int).toString) ∈ ql_W) (harr : Cond.arrayClass .int ∈ ql_W) {n9 k9 : Int32} {N K : Nat} (hn : ¬ n9 < 0) (hk : ¬ k9 < 0) (hN : n9.toNatClampNeg = N) (hK : k9.toNatClampNeg = K)
    (hb1 : N * 4 ≤ 536870912) (hb2 : K * componentBytes .int ≤ 536870912) (hb3 : K ≤ 536870912) (hcells : cells + (1 + N) ≤ R.cells) (hslots : slots + (N + N * K) ≤ R.slots) (hdg : decode cc pc = .ok (.multianewarray index 2, 4)) {KK : Option Nat → ql_H → Prop} (w : ql_nm h N K KK)
    (kk : ∀ (r : Option Nat) (h : ql_H) (H : Heap), ql_S D h0 s H locs h → KK r h → W p l e R s m args below meth c H locs (cells + 1 + N) (slots + N + N * K) Q (F0 m (pc + 4) ls (va_rf r :: rest))) : W p l e R s m args below meth c H locs cells slots Q (F0 m pc ls (.int k9 :: .int n9 :: rest)) := by
  subst hN
  subst hK
  have ht := C.1.2.2.2.2
  intro T hT Xs
  obtain ⟨vm₁, cA, comp, -, fA, fC, hO, -, X', step⟩ := Xs.multianewarray2F C.1.1 (ty := .int) C.1.2.2.2.1 (ht _ hclink) ((C.2.2.2.2.1 (.array .int) (by simp [ql_over])).use) (ht _ harr) (g := F0 m pc ls (.int k9 :: .int n9 :: rest)) rfl (by rw [C.1.2.1]; exact hdg) rfl hn hk hb1 hb2 hb3 rfl rfl hcells hslots
  have ecA : cA = D.2 8 := Option.some.inj (fA.symm.trans (C.2.1.2 8 _ rfl).2)
  have ecC : comp = D.2 0 := Option.some.inj (fC.symm.trans (C.2.1.2 0 _ rfl).2)
  subst ecA
  subst ecC
  generalize hF : Jvm.Free.Multi.fill (T.setVm vm₁) (D.2 8) (D.2 0) n9.toNatClampNeg k9.toNatClampNeg (defaultValue .int) n9.toNatClampNeg = F at X' step
  have hTh : (T.setVm vm₁).heap = H := hT
  obtain ⟨f1, f2, -, -⟩ := Jvm.Free.Multi.fill_facts (T.setVm vm₁) (D.2 8) (D.2 0) n9.toNatClampNeg k9.toNatClampNeg (defaultValue .int) n9.toNatClampNeg
  rw [hF, hTh] at f1 f2
  have hold : ∀ x : Nat, x < H.size → F.heap[x]? = H[x]? := fun x hx => by
    have := Jvm.Free.Multi.fill_old (T.setVm vm₁) (D.2 8) (D.2 0) n9.toNatClampNeg k9.toNatClampNeg (defaultValue .int) (a := x) (by rw [hTh]; exact hx) n9.toNatClampNeg
    rw [hF, hTh] at this
    exact this
  have hrow : ∀ j : Nat, j < n9.toNatClampNeg → F.heap[H.size + 1 + j]? = some (vp_cell (D.2 0) (k9.toNatClampNeg, .inl (fun _ => 0))) := fun j hj => by
    have := Jvm.Free.Multi.fill_inner (T.setVm vm₁) (D.2 8) (D.2 0) n9.toNatClampNeg k9.toNatClampNeg (defaultValue .int) n9.toNatClampNeg j hj
    rw [hF, hTh] at this
    rw [this, vp_cell_i, ← arrV_new]
    rfl
  have hout : Jvm.Free.Multi.outerC (D.2 8) n9.toNatClampNeg H.size n9.toNatClampNeg = vp_cell (D.2 8) (n9.toNatClampNeg, .inr (.inr (.inr (.inr (fun i => if i < n9.toNatClampNeg then some (H.size + 1 + i) else none))))) := by
    rw [vp_cell_q]
    exact ql_outer (D.2 8) n9.toNatClampNeg H.size n9.toNatClampNeg
  rw [hout] at f2
  obtain ⟨⟨hz, hr⟩, hs, hd, h0z⟩ := S
  have hsz : F.heap.size = H.size + 1 + n9.toNatClampNeg := f1
  have hS9 : ql_S D h0 s F.heap locs (ql_mm h n9.toNatClampNeg k9.toNatClampNeg) := by
    refine ⟨⟨by rw [hsz, hz]; rfl, fun q x hq => ?_⟩, ⟨Nat.le_trans hs.1 (by omega), fun q h1 h2 => (hold q (Nat.lt_of_lt_of_le h1 hs.1)).trans (hs.2.1 q h1 h2), hs.2.2⟩, fun q hq => ?_, h0z⟩
    · by_cases e1 : q = h.1
      · have e2 : (ql_mm h n9.toNatClampNeg k9.toNatClampNeg).2 q = some (.inl (8, n9.toNatClampNeg, .inr (.inr (.inr (.inr (fun i => if i < n9.toNatClampNeg then some (h.1 + 1 + i) else none)))))) := if_pos e1
        rw [e2] at hq
        cases hq
        subst e1
        show F.heap[h.1]? = some (vp_cell (D.2 8) _)
        rw [← hz]
        exact f2
      · by_cases e3 : h.1 < q ∧ q ≤ h.1 + n9.toNatClampNeg
        · have e2 : (ql_mm h n9.toNatClampNeg k9.toNatClampNeg).2 q = some (.inl (0, k9.toNatClampNeg, .inl (fun _ => 0))) := (if_neg e1).trans (if_pos e3)
          rw [e2] at hq
          cases hq
          show F.heap[q]? = some (vp_cell (D.2 0) _)
          have := hrow (q - H.size - 1) (by omega)
          rwa [show H.size + 1 + (q - H.size - 1) = q by omega] at this
        · have e2 : (ql_mm h n9.toNatClampNeg k9.toNatClampNeg).2 q = h.2 q := (if_neg e1).trans (if_neg e3)
          rw [e2] at hq
          have hv := hr q x hq
          exact hv.kept (hold q hv.lt)
    · by_cases e1 : h.1 ≤ q
      · exact Or.inr (by rw [← h0z]; exact Nat.le_trans hs.1 (by rw [hz]; exact e1))
      · refine hd q (fun z9 => hq ?_)
        exact (if_neg (show ¬ q = h.1 by omega)).trans ((if_neg (by omega)).trans z9)
  obtain ⟨t, a1, b1⟩ := kk (some h.1) (ql_mm h n9.toNatClampNeg k9.toNatClampNeg) F.heap hS9 w F rfl X'
  refine ⟨t, step t ?_, b1⟩
  have e9 : T.heap.size = h.1 := by rw [hT]; exact hz
  rw [e9]
  exact a1
end QN
