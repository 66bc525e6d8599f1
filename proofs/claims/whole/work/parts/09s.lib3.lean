/-! rows over constants: statics, constant Strings, the Kinds; calls of methods of a class above -/
/-- r is a Kind, a constant String, a constant String's bytes -/
def ql_en (σ : Nat → Nat) (r : Option Nat) (K : Nat → Prop) : Prop := ∃ i, i < 10 ∧ r = some (σ (100 + i)) ∧ K i
def ql_st (σ : Nat → Nat) (r : Option Nat) (K : Nat → Prop) : Prop := ∃ k, k < 25 ∧ r = some (σ (200 + k)) ∧ K k
def ql_sv (σ : Nat → Nat) (r : Option Nat) (K : Nat → Prop) : Prop := ∃ k, k < 25 ∧ r = some (σ (300 + k)) ∧ K k
section QS
variable {p : Program} {l : Launch} {e : Env} {R : Room} {s : State} {m : MethodId} {args : Array Value} {below : List Frame} {meth : Method} {c : Code} {H : Heap} {locs : List Loc} {cells slots : Nat} {Q : State → Prop}
variable {cc : ByteArray} {pc nL : Nat} {ls : Array Slot} {rest st0 : List Value} {D : ql_D} {h0 h : ql_H} {own : String}
variable {y : MethodName} {bytes : ByteArray} {maxL mc ms n index mc0 ms0 : Nat} {ret : Option FieldType} {rm : Room} {As : List Value} {Qr : Option Value → ql_H → Prop} {X : String → ql_H → Prop} {Qc : Array Value → State → Outcome → State → Prop}
theorem ql_C.z (C : ql_C D h0 p m c cc nL s args own) : ql_Z D.2 (ql_A h0) s s.heap := C.2.2.2.2.2.1
theorem ql_gs (C : ql_C D h0 p m c cc nL s args own) (S : ql_S D h0 s H locs h) {Cn nf d : String} {v : Value} (hZ : va_Z Cn nf d v (ql_A h0) s s.heap) (hl : Cond.fieldLink own index Cn nf d ∈ ql_W) (hdg : decode cc pc = .ok (.getstatic index, 3))
    (kk : W p l e R s m args below meth c H locs cells slots Q (F0 m (pc + 3) ls (v :: rest))) : W p l e R s m args below meth c H locs cells slots Q (F0 m pc ls rest) :=
  va_gets C.1.1 C.1.2.1 hZ S.2.1 C.1.2.2.2.1 (C.1.2.2.2.2 _ hl) (fun _ h9 => h9) hdg kk
theorem ql_gsQ (C : ql_C D h0 p m c cc nL s args own) (S : ql_S D h0 s H locs h) {Cn nf d : String} (hZ : va_Zq Cn nf d (ql_A h0) s s.heap) (hl : Cond.fieldLink own index Cn nf d ∈ ql_W) (hdg : decode cc pc = .ok (.getstatic index, 3)) {K : Option Nat → Prop} (w : ∀ r, K r)
    (kk : ∀ r : Option Nat, K r → W p l e R s m args below meth c H locs cells slots Q (F0 m (pc + 3) ls (va_rf r :: rest))) : W p l e R s m args below meth c H locs cells slots Q (F0 m pc ls rest) := by
  rcases hZ with hZ | ⟨t, hZ⟩
  · exact ql_gs C S hZ hl hdg (kk none (w _))
  · exact ql_gs C S hZ hl hdg (kk (some t) (w _))
theorem ql_ti (C : ql_C D h0 p m c cc nL s args own) (S : ql_S D h0 s H locs h) {t N : Nat} {f : Nat → Int32} (hT : va_T .int t N (fun k => .int (f k)) (ql_A h0) s s.heap) {i : Int32} (hin : vp_in i N) (hdg : decode cc pc = .ok (.iaload, 1))
    (kk : W p l e R s m args below meth c H locs cells slots Q (F0 m (pc + 1) ls (.int (f i.toNatClampNeg) :: rest))) : W p l e R s m args below meth c H locs cells slots Q (F0 m pc ls (.int i :: .ref t :: rest)) :=
  va_ti C.1.1 C.1.2.1 hT S.2.1 hin rfl hdg kk
theorem ql_tb (C : ql_C D h0 p m c cc nL s args own) (S : ql_S D h0 s H locs h) {t N : Nat} {f : Nat → Int32} (hT : va_T .byte t N (fun k => .int (f k)) (ql_A h0) s s.heap) {i : Int32} (hin : vp_in i N) (hdg : decode cc pc = .ok (.baload, 1))
    (kk : W p l e R s m args below meth c H locs cells slots Q (F0 m (pc + 1) ls (.int (f i.toNatClampNeg) :: rest))) : W p l e R s m args below meth c H locs cells slots Q (F0 m pc ls (.int i :: .ref t :: rest)) :=
  va_tb C.1.1 C.1.2.1 hT S.2.1 hin rfl hdg kk
theorem ql_tr9 (C : ql_C D h0 p m c cc nL s args own) (S : ql_S D h0 s H locs h) {t N : Nat} {f : Nat → Nat} {ty : FieldType} (hty : ty.isReference = true) (hT : va_T ty t N (fun k => .ref (f k)) (ql_A h0) s s.heap) {i : Int32} (hin : vp_in i N) (hdg : decode cc pc = .ok (.aaload, 1))
    (kk : W p l e R s m args below meth c H locs cells slots Q (F0 m (pc + 1) ls (.ref (f i.toNatClampNeg) :: rest))) : W p l e R s m args below meth c H locs cells slots Q (F0 m pc ls (.int i :: .ref t :: rest)) := by
  obtain ⟨cell, h1, h2, h3, h4, h5, h6, h7⟩ := hT.kept S.2.1.2.1
  have hlt : i.toNatClampNeg < N := Nat.not_le.mp fun q => hin (Or.inr q)
  exact W.aald (v := .ref (f i.toNatClampNeg)) (ty := ty) C.1.1 C.1.2.1 h1 h2 hty h3 (fun q => hin (q.elim Or.inl (fun q => Or.inr (Nat.le_trans h4 q)))) (h6 _ hlt) rfl rfl hdg kk
theorem ql_tlen (C : ql_C D h0 p m c cc nL s args own) (S : ql_S D h0 s H locs h) {t N : Nat} {f : Nat → Value} {ty : FieldType} (hT : va_T ty t N f (ql_A h0) s s.heap) (hdg : decode cc pc = .ok (.arraylength, 1))
    (kk : W p l e R s m args below meth c H locs cells slots Q (F0 m (pc + 1) ls (.int (nI N) :: rest))) : W p l e R s m args below meth c H locs cells slots Q (F0 m pc ls (.ref t :: rest)) :=
  va_tlen C.1.1 C.1.2.1 hT S.2.1 rfl hdg kk
theorem ql_getO (C : ql_C D h0 p m c cc nL s args own) (S : ql_S D h0 s H locs h) {o nf d : String} {v : Value} {q : Nat} (hE : va_OF o nf d v q (ql_A h0) s s.heap) (hl : Cond.fieldLink own index o nf d ∈ ql_W) (hdg : decode cc pc = .ok (.getfield index, 3))
    (kk : W p l e R s m args below meth c H locs cells slots Q (F0 m (pc + 3) ls (v :: rest))) : W p l e R s m args below meth c H locs cells slots Q (F0 m pc ls (.ref q :: rest)) :=
  vk_getf C.1.1 C.1.2.1 hE S.2.1 C.1.2.2.2.1 (C.1.2.2.2.2 _ hl) (fun _ h9 => h9) hdg kk
theorem ql_getON (C : ql_C D h0 p m c cc nL s args own) (S : ql_S D h0 s H locs h) {o nf d host : String} {v : Value} {q : Nat} (hE : va_OF o nf d v q (ql_A h0) s s.heap) (hl : Cond.fieldLinkNest own index o nf d host ∈ ql_N) (hdg : decode cc pc = .ok (.getfield index, 3))
    (kk : W p l e R s m args below meth c H locs cells slots Q (F0 m (pc + 3) ls (v :: rest))) : W p l e R s m args below meth c H locs cells slots Q (F0 m pc ls (.ref q :: rest)) := by
  obtain ⟨cf, k, i, f, cell, h1, h2, h3, h4, h5, h6⟩ := hE.kept S.2.1.2.1
  exact va_Wgetf C.1.1 C.1.2.1 C.1.2.2.2.1 (ql_N_use (A := args) rfl (C.2.2.2.1 _ hl)) h1 h2 h3 h4 h5 rfl rfl hdg kk
-- a Kind's fields
theorem ql_ordF (C : ql_C D h0 p m c cc nL s args own) {i : Nat} (hi : i < 10) : va_OF "java/lang/Enum" "ordinal" "I" (.int (nI i)) (D.2 (100 + i)) (ql_A h0) s s.heap := by
  have h9 := ((C.z.2.2.2.1.1.1 i (by exact hi)).2.2 _ (List.mem_cons_self))
  have e9 : (([0, 1, 2, 3, 4, 5, 6, 7, 8, 9] : List Int32).getD i 0) = nI i := by
    rcases (show i = 0 ∨ i = 1 ∨ i = 2 ∨ i = 3 ∨ i = 4 ∨ i = 5 ∨ i = 6 ∨ i = 7 ∨ i = 8 ∨ i = 9 by omega) with rfl | rfl | rfl | rfl | rfl | rfl | rfl | rfl | rfl | rfl <;> rfl
  rw [← e9]
  exact h9
-- constant Strings
theorem ql_stlen (C : ql_C D h0 p m c cc nL s args own) (S : ql_S D h0 s H locs h) (hdg : decode cc pc = .ok (.arraylength, 1)) {r : Option Nat} {K : Nat → Prop} (w : ql_sv D.2 r K)
    (kk : ∀ k, k < 25 → K k → W p l e R s m args below meth c H locs cells slots Q (F0 m (pc + 1) ls (.int (nI (ql_sl k)) :: rest))) : W p l e R s m args below meth c H locs cells slots Q (F0 m pc ls (va_rf r :: rest)) := by
  obtain ⟨k, hk, rfl, wk⟩ := w
  exact ql_tlen C S (C.z.2.2.2.2.1 k hk).2.2.2 hdg (kk k hk wk)
theorem ql_stld (C : ql_C D h0 p m c cc nL s args own) (S : ql_S D h0 s H locs h) (hdg : decode cc pc = .ok (.baload, 1)) {r : Option Nat} {i : Int32} {K : Nat → Prop} (w : ql_sv D.2 r (fun k => vp_in i (ql_sl k) ∧ K k))
    (kk : ∀ k, k < 25 → K k → W p l e R s m args below meth c H locs cells slots Q (F0 m (pc + 1) ls (.int (ql_sb k i.toNatClampNeg) :: rest))) : W p l e R s m args below meth c H locs cells slots Q (F0 m pc ls (.int i :: va_rf r :: rest)) := by
  obtain ⟨k, hk, rfl, hin, wk⟩ := w
  exact ql_tb C S (f := ql_sb k) (C.z.2.2.2.2.1 k hk).2.2.2 hin hdg (kk k hk wk)
theorem ql_stval (C : ql_C D h0 p m c cc nL s args own) (S : ql_S D h0 s H locs h) (hl : Cond.fieldLink own index "java/lang/String" "value" "[B" ∈ ql_W) (hdg : decode cc pc = .ok (.getfield index, 3)) {r : Option Nat} {K : Nat → Prop} (w : ql_st D.2 r K)
    (kk : ∀ k, k < 25 → K k → W p l e R s m args below meth c H locs cells slots Q (F0 m (pc + 3) ls (va_rf (some (D.2 (300 + k))) :: rest))) : W p l e R s m args below meth c H locs cells slots Q (F0 m pc ls (va_rf r :: rest)) := by
  obtain ⟨k, hk, rfl, wk⟩ := w
  exact ql_getO C S (C.z.2.2.2.2.1 k hk).2.2.1 hl hdg (kk k hk wk)
theorem ql_stcod (C : ql_C D h0 p m c cc nL s args own) (S : ql_S D h0 s H locs h) (hl : Cond.fieldLink own index "java/lang/String" "coder" "B" ∈ ql_W) (hdg : decode cc pc = .ok (.getfield index, 3)) {r : Option Nat} {K : Nat → Prop} (w : ql_st D.2 r K)
    (kk : ∀ k, k < 25 → K k → W p l e R s m args below meth c H locs cells slots Q (F0 m (pc + 3) ls (.int 0 :: rest))) : W p l e R s m args below meth c H locs cells slots Q (F0 m pc ls (va_rf r :: rest)) := by
  obtain ⟨k, hk, rfl, wk⟩ := w
  exact ql_getO C S (C.z.2.2.2.2.1 k hk).2.1 hl hdg (kk k hk wk)
theorem ql_enord (C : ql_C D h0 p m c cc nL s args own) (S : ql_S D h0 s H locs h) (hl : Cond.fieldLink own index "java/lang/Enum" "ordinal" "I" ∈ ql_W) (hdg : decode cc pc = .ok (.getfield index, 3)) {r : Option Nat} {K : Nat → Prop} (w : ql_en D.2 r K)
    (kk : ∀ i, i < 10 → K i → W p l e R s m args below meth c H locs cells slots Q (F0 m (pc + 3) ls (.int (nI i) :: rest))) : W p l e R s m args below meth c H locs cells slots Q (F0 m pc ls (va_rf r :: rest)) := by
  obtain ⟨i, hi, rfl, wk⟩ := w
  exact ql_getO C S (ql_ordF C hi) hl hdg (kk i hi wk)
theorem ql_enkw (C : ql_C D h0 p m c cc nL s args own) (S : ql_S D h0 s H locs h) {host : String} (hl : Cond.fieldLinkNest own index "ClauseLedger$Kind" "keyword" "Ljava/lang/String;" host ∈ ql_N) (hdg : decode cc pc = .ok (.getfield index, 3)) {r : Option Nat} {K : Nat → Prop} (w : ql_en D.2 r K)
    (kk : ∀ i, i < 10 → K i → W p l e R s m args below meth c H locs cells slots Q (F0 m (pc + 3) ls (va_rf (some (D.2 (200 + ql_kw i))) :: rest))) : W p l e R s m args below meth c H locs cells slots Q (F0 m pc ls (va_rf r :: rest)) := by
  obtain ⟨i, hi, rfl, wk⟩ := w
  exact ql_getON C S (C.z.2.2.2.1.2.1 i hi) hl hdg (kk i hi wk)
theorem ql_enfm (C : ql_C D h0 p m c cc nL s args own) (S : ql_S D h0 s H locs h) {host : String} (hl : Cond.fieldLinkNest own index "ClauseLedger$Kind" "form" "Ljava/lang/String;" host ∈ ql_N) (hdg : decode cc pc = .ok (.getfield index, 3)) {r : Option Nat} {K : Nat → Prop} (w : ql_en D.2 r K)
    (kk : ∀ i, i < 10 → K i → W p l e R s m args below meth c H locs cells slots Q (F0 m (pc + 3) ls (va_rf (some (D.2 (200 + ql_fm i))) :: rest))) : W p l e R s m args below meth c H locs cells slots Q (F0 m pc ls (va_rf r :: rest)) := by
  obtain ⟨i, hi, rfl, wk⟩ := w
  exact ql_getON C S (C.z.2.2.2.1.2.2 i hi) hl hdg (kk i hi wk)
theorem ql_ldcs (C : ql_C D h0 p m c cc nL s args own) {tx : String} {k : Nat} (hq : (own, index, tx, k) ∈ ql_ldc) (hdg : decode cc pc = .ok (.ldc index, 2))
    (kk : W p l e R s m args below meth c H locs cells slots Q (F0 m (pc + 2) ls (va_rf (some (D.2 (200 + k))) :: rest))) : W p l e R s m args below meth c H locs cells slots Q (F0 m pc ls rest) :=
  va_ldcS C.1.1 C.1.2.1 C.1.2.2.2.1 (C.2.2.2.2.2.2.1 _ hq) hdg kk
/-- the cell that a call goes to is an object of this class -/
def ql_is (s : State) (H : Heap) (Cn : String) (b : Nat) : Prop := ∃ cell : Cell, H[b]? = some cell ∧ cell.vm.isStatics = false ∧ s.vm.findClass Cn = some cell.cls
theorem ql_isO (C : ql_C D h0 p m c cc nL s args own) (S : ql_S D h0 s H locs h) {ci N : Nat} {Cn : String} {T : u_T} (hci : vwCl[ci]? = some (Cn, T, N)) {b : Nat} {fs : List Value} (hb9 : h.2 b = some (.inr (ci, fs))) : ql_is s H Cn b := va_recv C.2.1 (S.one hb9) (ci := ci) (q0 := 0) hci rfl
theorem ql_isS (C : ql_C D h0 p m c cc nL s args own) (S : ql_S D h0 s H locs h) {k : Nat} (hk : k < 25) : ql_is s H "java/lang/String" (D.2 (200 + k)) := vk_recv (adK := fun k => D.2 (200 + k)) C.z.2.2.2.2 hk S.2.1
theorem ql_isE (C : ql_C D h0 p m c cc nL s args own) (S : ql_S D h0 s H locs h) {i : Nat} (hi : i < 10) : ql_is s H "ClauseLedger$Kind" (D.2 (100 + i)) := va_recvE (ad := fun i => D.2 (100 + i)) (nm := ql_kn) C.z.2.2.2.1.1 hi S.2.1
/-- a call of y, declared where the call names it, on an object of class Cn -/
theorem ql_U0 (C : ql_C D h0 p m c cc nL s args own) (S : ql_S D h0 s H locs h) (Y : ql_Y y bytes maxL ret n) (hi : Cond.instanceMethod y ∈ ql_W) {Cn : String} (hse : Cond.selects Cn y y ∈ ql_W) (hlk : Cond.methodLink own index y ∈ ql_W) {b : Nat} (hb9 : ql_is s H Cn b) (hM : ql_M D l y bytes maxL ret rm h (.ref b :: As) Qr X mc ms)
    (hn : As.length = n) (hR : rm.frames + 1 ≤ R.frames ∧ 8 + (maxL + 11) + rm.locals ≤ R.locals) (hm : rm.cells = mc ∧ rm.slots = ms) (hcat : (rest.map fun v => v.category).sum ≤ 8) (hsz : ls.size = nL) (hst : st0 = As.reverse ++ .ref b :: rest) (hdg : decode cc pc = .ok (.invokevirtual index, 3)) (hf : cells + mc ≤ R.cells ∧ slots + ms ≤ R.slots)
    (kx : ∀ (E : String) (ce : Cell) (q9 : Addr) (h' : ql_H) (H1 : Heap) (locs1 : List Loc), X E h' → ql_S D h0 s H1 locs1 h' → H1[q9]? = some ce → ce.vm = .none → s.vm.findClass E = some ce.cls → vx_W p l e R s m args below meth c H1 locs1 (cells + mc) (slots + ms) Q (F0 m pc ls rest) q9)
    (kk : ∀ (v : Option Value) (h' : ql_H) (H1 : Heap) (locs1 : List Loc), Qr v h' → ql_S D h0 s H1 locs1 h' → W p l e R s m args below meth c H1 locs1 (cells + mc) (slots + ms) Q (F0 m (pc + 3) ls (v.toList ++ rest))) : W p l e R s m args below meth c H locs cells slots Q (F0 m pc ls st0) := by
  have ht := C.1.2.2.2.2
  exact ql_after S (vx_runV (As := As) (b := b) (C := Cn) C.1 hM ⟨ql_cb ht Y hlk hm.1 hm.2 hR, ht _ hi, ht _ hse⟩ ⟨ql_P.blind, hb9, C.lift S⟩ rfl hn hsz hst (lv_room hcat) hdg hf) kx kk
/-- super.y(..) -/
theorem ql_SU0 (C : ql_C D h0 p m c cc nL s args own) (S : ql_S D h0 s H locs h) (Y : ql_Y y bytes maxL ret n) (hi : Cond.instanceMethod y ∈ ql_W) (hsm : Cond.sameMethod y.cls y.cls y.name y.desc ∈ ql_W) (hsu : Cond.superclass own y.cls ∈ ql_W) (hno : y.name ≠ "<init>") {ci N : Nat} {Cn : String} {T : u_T} (hci : vwCl[ci]? = some (Cn, T, N)) (hown : own = Cn) (hlk : Cond.methodLink own index y ∈ ql_W) {b : Nat} (hb9 : ql_is s H Cn b) (hM : ql_M D l y bytes maxL ret rm h (.ref b :: As) Qr X mc ms)
    (hn : As.length = n) (hR : rm.frames + 1 ≤ R.frames ∧ 8 + (maxL + 11) + rm.locals ≤ R.locals) (hm : rm.cells = mc ∧ rm.slots = ms) (hcat : (rest.map fun v => v.category).sum ≤ 8) (hsz : ls.size = nL) (hst : st0 = As.reverse ++ .ref b :: rest) (hdg : decode cc pc = .ok (.invokespecial index, 3)) (hf : cells + mc ≤ R.cells ∧ slots + ms ≤ R.slots)
    (kx : ∀ (E : String) (ce : Cell) (q9 : Addr) (h' : ql_H) (H1 : Heap) (locs1 : List Loc), X E h' → ql_S D h0 s H1 locs1 h' → H1[q9]? = some ce → ce.vm = .none → s.vm.findClass E = some ce.cls → vx_W p l e R s m args below meth c H1 locs1 (cells + mc) (slots + ms) Q (F0 m pc ls rest) q9)
    (kk : ∀ (v : Option Value) (h' : ql_H) (H1 : Heap) (locs1 : List Loc), Qr v h' → ql_S D h0 s H1 locs1 h' → W p l e R s m args below meth c H1 locs1 (cells + mc) (slots + ms) Q (F0 m (pc + 3) ls (v.toList ++ rest))) : W p l e R s m args below meth c H locs cells slots Q (F0 m pc ls st0) := by
  subst hown
  have ht := C.1.2.2.2.2
  exact ql_after S (vx_runSU (As := As) (b := b) (C := own) (C.2.1.1 ci _ hci).2 C.1 hM ⟨⟨hm.1, hm.2, hR.1, hR.2, pay_in ht (ql_GI Y.1), List.mem_cons_self⟩, ht _ hlk, ht _ hsm, ht _ hsu, ht _ hi, ht _ Y.2.1, ht _ Y.1, hno, fun sig h9 => by have h2 := Y.2.2.2.2; rw [h9] at h2; exact (Option.some.inj h2).symm⟩ ⟨ql_P.blind, hb9, C.lift S⟩ rfl hn hsz hst (lv_room hcat) hdg hf) kx kk
theorem ql_bast (C : ql_C D h0 p m c cc nL s args own) (S : ql_S D h0 s H locs h) (hdg : decode cc pc = .ok (.bastore, 1)) {r : Option Nat} {i v : Int32} {K : ql_H → Prop} (w : ql_sI h r 3 i (vp_nar .byte v) K)
    (kk : ∀ (h : ql_H) (H : Heap) (locs : List Loc), ql_S D h0 s H locs h → K h → W p l e R s m args below meth c H locs cells slots Q (F0 m (pc + 1) ls rest)) : W p l e R s m args below meth c H locs cells slots Q (F0 m pc ls (.int v :: .int i :: va_rf r :: rest)) := by
  obtain ⟨a, ⟨n, x⟩, rfl, ha, hk⟩ := ql_ar_out w
  rcases x with f | f | f | f | f <;> first | exact hk.elim | skip
  have hin := hk.1
  refine W.bast C.1.1 C.1.2.1 (S.1.2 a _ ha) ((C.2.1.2 3 _ rfl).1 n (fun j => .int (f j))) (fun q => by cases q) (by show ¬ (i < 0 ∨ (arrV _ _ _).slots.size ≤ _); rw [arrV_size]; exact hin) rfl rfl hdg fun H1 e z oq => ?_
  refine kk _ H1 _ (S.put ha ?_ z oq) hk.2
  show H1[a]? = some (vp_cell _ _)
  rw [e]
  rw [vp_cell_i, vp_cell_i, arrV_store]
  congr 2
  funext q
  by_cases hq : q = i.toNatClampNeg
  · subst hq
    simp [updV, upd, vp_nar]
    try rfl
  · simp [updV, upd, hq]
theorem ql_newb (C : ql_C D h0 p m c cc nL s args own) (S : ql_S D h0 s H locs h) (harr : Cond.arrayClass .byte ∈ ql_W) {n9 : Int32} {B : Nat} (hB : B ≤ 65536) (hcells : cells + 1 ≤ R.cells ∧ slots + B ≤ R.slots) (hdg : decode cc pc = .ok (.newarray .byte, 2)) {K : Option Nat → ql_H → Prop} (w : (¬ n9 < 0 ∧ n9.toNatClampNeg ≤ B) ∧ ql_nw h (.inl (3, n9.toNatClampNeg, .inl (fun _ => 0))) K)
    (kk : ∀ (r : Option Nat) (h : ql_H) (H : Heap), ql_S D h0 s H locs h → K r h → W p l e R s m args below meth c H locs (cells + 1) (slots + B) Q (F0 m (pc + 2) ls (va_rf r :: rest))) : W p l e R s m args below meth c H locs cells slots Q (F0 m pc ls (.int n9 :: rest)) := by
  obtain ⟨⟨w1, w2⟩, w⟩ := w
  refine ql_newa (kd := 3) (a0 := (n9.toNatClampNeg, .inl (fun _ => 0))) (atype := .byte) C S harr rfl (fun z => z) (fun cA => rfl) w1 rfl (by show n9.toNatClampNeg * 1 ≤ 536870912; omega) ⟨hcells.1, by omega⟩ hdg w (fun r h H S w => ?_)
  exact W.widen (Nat.le_refl _) (by omega) (kk r h H S w)
theorem ql_mmin (C : ql_C D h0 p m c cc nL s args own) {lv : List (Nat × Value)} (hl : lv_has ls nL lv) (hlk : Cond.methodLink own index Lib.Math.min.name ∈ ql_W) (hst : Cond.static Lib.Math.min.name ∈ ql_W) (hini : Cond.initialized "java/lang/Math" ∈ ql_W) (hcode : Cond.code Lib.Math.min.name Lib.Math.min.code 2 (some .int) ∈ ql_W) (hfr : 1 ≤ R.frames) (hlo : (rest.map fun v => v.category).sum + 13 ≤ R.locals) (hcs : cells ≤ R.cells ∧ slots ≤ R.slots) {x y : Int32} (hdg : decode cc pc = .ok (.invokestatic index, 3))
    (kk : W p l e R s m args below meth c H locs cells slots Q (F0 m (pc + 3) ls (.int (if y < x then y else x) :: rest))) : W p l e R s m args below meth c H locs cells slots Q (F0 m pc ls (.int y :: .int x :: rest)) := by
  have ht := C.1.2.2.2.2
  exact va_mmin C.1.1 C.1.2.1 (by rw [C.1.2.2.1]; exact hl.1.symm) C.1.2.2.2.1 (ht _ hlk) (ht _ hst) (ht _ hini) (ht _ hcode) hfr hlo hcs.1 hcs.2 hdg kk
theorem ql_mmax (C : ql_C D h0 p m c cc nL s args own) {lv : List (Nat × Value)} (hl : lv_has ls nL lv) (hlk : Cond.methodLink own index Lib.Math.max.name ∈ ql_W) (hst : Cond.static Lib.Math.max.name ∈ ql_W) (hini : Cond.initialized "java/lang/Math" ∈ ql_W) (hcode : Cond.code Lib.Math.max.name Lib.Math.max.code 2 (some .int) ∈ ql_W) (hfr : 1 ≤ R.frames) (hlo : (rest.map fun v => v.category).sum + 13 ≤ R.locals) (hcs : cells ≤ R.cells ∧ slots ≤ R.slots) {x y : Int32} (hdg : decode cc pc = .ok (.invokestatic index, 3))
    (kk : W p l e R s m args below meth c H locs cells slots Q (F0 m (pc + 3) ls (.int (if x < y then y else x) :: rest))) : W p l e R s m args below meth c H locs cells slots Q (F0 m pc ls (.int y :: .int x :: rest)) := by
  have ht := C.1.2.2.2.2
  exact va_mmax C.1.1 C.1.2.1 (by rw [C.1.2.2.1]; exact hl.1.symm) C.1.2.2.2.1 (ht _ hlk) (ht _ hst) (ht _ hini) (ht _ hcode) hfr hlo hcs.1 hcs.2 hdg kk
end QS
