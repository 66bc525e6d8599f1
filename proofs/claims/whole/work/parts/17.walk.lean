set_option maxHeartbeats 4000000 in
set_option maxRecDepth 100000 in
theorem qm_L_law_2957 (l : Launch) (hl9 : l.stackTraces = false) (D : ql_D) (h0 : ql_H) (L9 : Nat) (xs9 : Nat → Int32) (a0 : Nat) (Q : Int32 → ql_H → Prop) (X : String → ql_H → Prop) (p : Program) (e : Env) (s : State) (m : MethodId) (below : List Frame) (meth : Method) (c : Code) (C : ql_C D h0 p m c cL_law 9 s [.ref a0].toArray "ClauseLedgerLaw") (hr : meth.sig.returnType = some .boolean) (hlocks : meth.locks = false) (htab : ∀ x ∈ c.exceptionTable.toList, False) (hX : va_X a0 L9 xs9 s s.heap ∧ a0 < s.heap.size ∧ ¬ ql_A h0 a0) : ∀ n : Nat, n + 1 ≤ 513 → ∀ (k28 : Option Nat → Option Nat → Option Nat → Option Nat → Int32 → ql_H → Prop) (hk28 : ∀ (rl1 : Option Nat) (rl2 : Option Nat) (rl3 : Option Nat) (rl4 : Option Nat) (xl5 : Int32) (h : ql_H) (H : Heap) (locs : List Loc) (ls : Array Slot), ql_S D h0 s H locs h → lv_has ls 9 [(0, .ref a0), (1, va_rf rl1), (2, va_rf rl2), (3, va_rf rl3), (4, va_rf rl4), (5, .int xl5)] → k28 rl1 rl2 rl3 rl4 xl5 h → W p l e ({ frames := 2048, cells := 603072, slots := 7190633, locals := 94400 } : Room) s m ([.ref a0] : List Value).toArray below meth c H locs (1032 + (513 - n) * 21) (15200 + (513 - n) * 5126) (vx_MQ below (ql_Q D h0 (ql_rI Q)) (ql_X D h0 X) ([.ref a0] : List Value).toArray s 603072 7190633 (ql_A h0)) (F0 m 28 ls [])) , ∀ (rl1 : Option Nat) (rl2 : Option Nat) (rl3 : Option Nat) (rl4 : Option Nat) (xl5 : Int32) (h : ql_H) (H : Heap) (locs : List Loc) (ls : Array Slot), ql_S D h0 s H locs h → lv_has ls 9 [(0, .ref a0), (1, va_rf rl1), (2, va_rf rl2), (3, va_rf rl3), (4, va_rf rl4), (5, .int xl5)] → qw_L_law_2957 D.2 L9 xs9 a0 Q X k28 rl1 rl2 rl3 rl4 xl5 h → W p l e ({ frames := 2048, cells := 603072, slots := 7190633, locals := 94400 } : Room) s m ([.ref a0] : List Value).toArray below meth c H locs (1053 + (513 - (n + 1)) * 21) (20326 + (513 - (n + 1)) * 5126) (vx_MQ below (ql_Q D h0 (ql_rI Q)) (ql_X D h0 X) ([.ref a0] : List Value).toArray s 603072 7190633 (ql_A h0)) (F0 m 2957 ls []) := by
  intro n hn9 k28 hk28 rl1 rl2 rl3 rl4 xl5 h H locs ls S hl w
  unfold qw_L_law_2957 at w
  refine lv_iinc (v := (xl5 + (4 : Int32))) (lv' := [(5, .int (xl5 + (4 : Int32))), (0, .ref a0), (1, va_rf rl1), (2, va_rf rl2), (3, va_rf rl3), (4, va_rf rl4)]) C.1.1 C.1.2.1 dL_law_2957 hl (k := 5) rfl rfl (by decide) (by generalize rl4 = z9; cases z9 <;> rfl) (fun ls hl => ?_)
  refine lv_goto (tgt := 28) C.1.1 C.1.2.1 dL_law_2960 (by decide) ?_
  refine W.cs (cells' := (1032 + (513 - n) * 21)) (slots' := (15200 + (513 - n) * 5126)) (by omega) (by omega) ?_
  exact hk28 rl1 rl2 rl3 rl4 (xl5 + (4 : Int32)) _ _ _ _ S (lv_sub hl [1, 2, 3, 4, 5, 0] rfl) w
set_option maxHeartbeats 4000000 in
set_option maxRecDepth 100000 in
theorem qm_L_law_343 (l : Launch) (hl9 : l.stackTraces = false) (D : ql_D) (h0 : ql_H) (L9 : Nat) (xs9 : Nat → Int32) (a0 : Nat) (Q : Int32 → ql_H → Prop) (X : String → ql_H → Prop) (p : Program) (e : Env) (s : State) (m : MethodId) (below : List Frame) (meth : Method) (c : Code) (C : ql_C D h0 p m c cL_law 9 s [.ref a0].toArray "ClauseLedgerLaw") (hr : meth.sig.returnType = some .boolean) (hlocks : meth.locks = false) (htab : ∀ x ∈ c.exceptionTable.toList, False) (hX : va_X a0 L9 xs9 s s.heap ∧ a0 < s.heap.size ∧ ¬ ql_A h0 a0) : ∀ n : Nat, n + 1 ≤ 513 → ∀ (k28 : Option Nat → Option Nat → Option Nat → Option Nat → Int32 → ql_H → Prop) (hk28 : ∀ (rl1 : Option Nat) (rl2 : Option Nat) (rl3 : Option Nat) (rl4 : Option Nat) (xl5 : Int32) (h : ql_H) (H : Heap) (locs : List Loc) (ls : Array Slot), ql_S D h0 s H locs h → lv_has ls 9 [(0, .ref a0), (1, va_rf rl1), (2, va_rf rl2), (3, va_rf rl3), (4, va_rf rl4), (5, .int xl5)] → k28 rl1 rl2 rl3 rl4 xl5 h → W p l e ({ frames := 2048, cells := 603072, slots := 7190633, locals := 94400 } : Room) s m ([.ref a0] : List Value).toArray below meth c H locs (1032 + (513 - n) * 21) (15200 + (513 - n) * 5126) (vx_MQ below (ql_Q D h0 (ql_rI Q)) (ql_X D h0 X) ([.ref a0] : List Value).toArray s 603072 7190633 (ql_A h0)) (F0 m 28 ls [])) , ∀ (rl1 : Option Nat) (rl2 : Option Nat) (rl3 : Option Nat) (rl4 : Option Nat) (xl5 : Int32) (h : ql_H) (H : Heap) (locs : List Loc) (ls : Array Slot), ql_S D h0 s H locs h → lv_has ls 9 [(0, .ref a0), (1, va_rf rl1), (2, va_rf rl2), (3, va_rf rl3), (4, va_rf rl4), (5, .int xl5)] → qw_L_law_343 D.2 L9 xs9 a0 Q X k28 rl1 rl2 rl3 rl4 xl5 h → W p l e ({ frames := 2048, cells := 603072, slots := 7190633, locals := 94400 } : Room) s m ([.ref a0] : List Value).toArray below meth c H locs (1033 + (513 - (n + 1)) * 21) (15206 + (513 - (n + 1)) * 5126) (vx_MQ below (ql_Q D h0 (ql_rI Q)) (ql_X D h0 X) ([.ref a0] : List Value).toArray s 603072 7190633 (ql_A h0)) (F0 m 343 ls []) := by
  intro n hn9 k28 hk28 rl1 rl2 rl3 rl4 xl5 h H locs ls S hl w
  unfold qw_L_law_343 at w
  refine lv_goto (tgt := 2957) C.1.1 C.1.2.1 dL_law_343 (by decide) ?_
  refine W.widen (k := (1053 + (513 - (n + 1)) * 21)) (n := (20326 + (513 - (n + 1)) * 5126)) (by omega) (by omega) ?_
  exact (qm_L_law_2957 l hl9 D h0 L9 xs9 a0 Q X p e s m below meth c C hr hlocks htab hX) n hn9 k28 hk28 rl1 rl2 rl3 rl4 xl5 _ _ _ _ S (lv_sub hl [0, 1, 2, 3, 4, 5] rfl) w
set_option maxHeartbeats 4000000 in
set_option maxRecDepth 100000 in
theorem qm_L_law_276 (l : Launch) (hl9 : l.stackTraces = false) (D : ql_D) (h0 : ql_H) (L9 : Nat) (xs9 : Nat → Int32) (a0 : Nat) (Q : Int32 → ql_H → Prop) (X : String → ql_H → Prop) (p : Program) (e : Env) (s : State) (m : MethodId) (below : List Frame) (meth : Method) (c : Code) (C : ql_C D h0 p m c cL_law 9 s [.ref a0].toArray "ClauseLedgerLaw") (hr : meth.sig.returnType = some .boolean) (hlocks : meth.locks = false) (htab : ∀ x ∈ c.exceptionTable.toList, False) (hX : va_X a0 L9 xs9 s s.heap ∧ a0 < s.heap.size ∧ ¬ ql_A h0 a0) : ∀ n : Nat, n + 1 ≤ 513 → ∀ (k28 : Option Nat → Option Nat → Option Nat → Option Nat → Int32 → ql_H → Prop) (hk28 : ∀ (rl1 : Option Nat) (rl2 : Option Nat) (rl3 : Option Nat) (rl4 : Option Nat) (xl5 : Int32) (h : ql_H) (H : Heap) (locs : List Loc) (ls : Array Slot), ql_S D h0 s H locs h → lv_has ls 9 [(0, .ref a0), (1, va_rf rl1), (2, va_rf rl2), (3, va_rf rl3), (4, va_rf rl4), (5, .int xl5)] → k28 rl1 rl2 rl3 rl4 xl5 h → W p l e ({ frames := 2048, cells := 603072, slots := 7190633, locals := 94400 } : Room) s m ([.ref a0] : List Value).toArray below meth c H locs (1032 + (513 - n) * 21) (15200 + (513 - n) * 5126) (vx_MQ below (ql_Q D h0 (ql_rI Q)) (ql_X D h0 X) ([.ref a0] : List Value).toArray s 603072 7190633 (ql_A h0)) (F0 m 28 ls [])) , ∀ (rl1 : Option Nat) (rl2 : Option Nat) (rl3 : Option Nat) (rl4 : Option Nat) (xl5 : Int32) (h : ql_H) (H : Heap) (locs : List Loc) (ls : Array Slot), ql_S D h0 s H locs h → lv_has ls 9 [(0, .ref a0), (1, va_rf rl1), (2, va_rf rl2), (3, va_rf rl3), (4, va_rf rl4), (5, .int xl5)] → qw_L_law_276 D.2 L9 xs9 a0 Q X k28 rl1 rl2 rl3 rl4 xl5 h → W p l e ({ frames := 2048, cells := 603072, slots := 7190633, locals := 94400 } : Room) s m ([.ref a0] : List Value).toArray below meth c H locs (1032 + (513 - (n + 1)) * 21) (15200 + (513 - (n + 1)) * 5126) (vx_MQ below (ql_Q D h0 (ql_rI Q)) (ql_X D h0 X) ([.ref a0] : List Value).toArray s 603072 7190633 (ql_A h0)) (F0 m 276 ls []) := by
  intro n hn9 k28 hk28 rl1 rl2 rl3 rl4 xl5 h H locs ls S hl w
  unfold qw_L_law_276 at w
  refine ql_aload_n (r := rl1) C dL_law_276 rfl (lv_at hl 1 rfl) ?_
  refine ql_aload_n (r := (some a0)) C dL_law_277 rfl (lv_at hl 0 rfl) ?_
  refine lv_iload C.1.1 C.1.2.1 dL_law_278 (lv_at hl 5 rfl) ?_
  refine lv_iconst (v := (1 : Int32)) C.1.1 C.1.2.1 dL_law_280 (by decide) ?_
  refine lv_iadd C.1.1 C.1.2.1 dL_law_281 ?_
  refine ql_sld C S hX w.1 dL_law_282 ?_
  replace w := w.2
  refine ql_aload_n (r := (some a0)) C dL_law_283 rfl (lv_at hl 0 rfl) ?_
  refine lv_iload C.1.1 C.1.2.1 dL_law_284 (lv_at hl 5 rfl) ?_
  refine lv_iconst (v := (2 : Int32)) C.1.1 C.1.2.1 dL_law_286 (by decide) ?_
  refine lv_iadd C.1.1 C.1.2.1 dL_law_287 ?_
  refine ql_sld C S hX w.1 dL_law_288 ?_
  replace w := w.2
  refine lv_i2c C.1.1 C.1.2.1 dL_law_289 rfl ?_
  refine ql_aload_n (r := rl3) C dL_law_290 rfl (lv_at hl 3 rfl) ?_
  refine ql_SHI (As := [va_rf rl1, .int (xs9 (xl5 + (1 : Int32)).toNatClampNeg), .int ((xs9 (xl5 + (2 : Int32)).toNatClampNeg).toUInt32 % 65536).toInt32, va_rf rl3]) (rest := []) C S hl qyh_L_addClause gw_769 (qm_L_addClause l hl9 D _ rl1 (xs9 (xl5 + (1 : Int32)).toNatClampNeg) ((xs9 (xl5 + (2 : Int32)).toNatClampNeg).toUInt32 % 65536).toInt32 rl3 _ _ w) rfl ⟨Nat.le_of_ble_eq_true rfl, Nat.le_of_ble_eq_true rfl⟩ ⟨rfl, rfl⟩ (by exact Nat.le_of_ble_eq_true rfl) rfl dL_law_291 ⟨(by show _ ≤ (603072 : Nat); omega), (by show _ ≤ (7190633 : Nat); omega)⟩ (fun x1 h H locs S w => ?_)
  refine W.cs (cells' := (1033 + (513 - (n + 1)) * 21)) (slots' := (15206 + (513 - (n + 1)) * 5126)) (by omega) (by omega) ?_
  refine lv_istore (lv' := [(6, .int x1), (0, .ref a0), (1, va_rf rl1), (2, va_rf rl2), (3, va_rf rl3), (4, va_rf rl4), (5, .int xl5)]) C.1.1 C.1.2.1 dL_law_294 hl (by decide) rfl (fun ls hl => ?_)
  refine ql_aload_n (r := rl2) C dL_law_296 rfl (lv_at hl 3 rfl) ?_
  refine ql_aload_n (r := (some a0)) C dL_law_297 rfl (lv_at hl 1 rfl) ?_
  refine lv_iload C.1.1 C.1.2.1 dL_law_298 (lv_at hl 6 rfl) ?_
  refine lv_iconst (v := (1 : Int32)) C.1.1 C.1.2.1 dL_law_300 (by decide) ?_
  refine lv_iadd C.1.1 C.1.2.1 dL_law_301 ?_
  refine ql_sld C S hX w.1 dL_law_302 ?_
  replace w := w.2
  refine ql_aload_n (r := (some a0)) C dL_law_303 rfl (lv_at hl 1 rfl) ?_
  refine lv_iload C.1.1 C.1.2.1 dL_law_304 (lv_at hl 6 rfl) ?_
  refine lv_iconst (v := (2 : Int32)) C.1.1 C.1.2.1 dL_law_306 (by decide) ?_
  refine lv_iadd C.1.1 C.1.2.1 dL_law_307 ?_
  refine ql_sld C S hX w.1 dL_law_308 ?_
  replace w := w.2
  refine lv_i2c C.1.1 C.1.2.1 dL_law_309 rfl ?_
  refine ql_VI (As := [.int (xs9 (xl5 + (1 : Int32)).toNatClampNeg), .int ((xs9 (xl5 + (2 : Int32)).toNatClampNeg).toUInt32 % 65536).toInt32]) (rest := []) C S htab hlocks hl qy_X12_addClause qi_X12_addClause qs_X12_addClause gw_1731 (ci := 13) rfl w (fun b w => qm_X12_addClause l hl9 D _ b (xs9 (xl5 + (1 : Int32)).toNatClampNeg) ((xs9 (xl5 + (2 : Int32)).toNatClampNeg).toUInt32 % 65536).toInt32 _ _ w) rfl ⟨Nat.le_of_ble_eq_true rfl, Nat.le_of_ble_eq_true rfl⟩ ⟨rfl, rfl⟩ (by exact Nat.le_of_ble_eq_true rfl) (fun b e9 => by cases e9; rfl) dL_law_310 ⟨(by show _ ≤ (603072 : Nat); omega), (by show _ ≤ (7190633 : Nat); omega)⟩ ⟨(by show _ ≤ (603072 : Nat); omega), (by show _ ≤ (7190633 : Nat); omega)⟩ (fun x2 h H locs S w => ?_)
  refine W.cs (cells' := (1033 + (513 - (n + 1)) * 21)) (slots' := (15206 + (513 - (n + 1)) * 5126)) (by omega) (by omega) ?_
  refine lv_istore (lv' := [(7, .int x2), (6, .int x1), (0, .ref a0), (1, va_rf rl1), (2, va_rf rl2), (3, va_rf rl3), (4, va_rf rl4), (5, .int xl5)]) C.1.1 C.1.2.1 dL_law_313 hl (by decide) rfl (fun ls hl => ?_)
  refine ql_aload_n (r := rl2) C dL_law_315 rfl (lv_at hl 4 rfl) ?_
  refine ql_VI (As := []) (rest := []) C S htab hlocks hl qy_X12_thrown qi_X12_thrown qs_X12_thrown gw_1727 (ci := 13) rfl w (fun b w => qm_X12_thrown l hl9 D _ b _ _ w) rfl ⟨Nat.le_of_ble_eq_true rfl, Nat.le_of_ble_eq_true rfl⟩ ⟨rfl, rfl⟩ (by exact Nat.le_of_ble_eq_true rfl) (fun b e9 => by cases e9; rfl) dL_law_316 ⟨(by show _ ≤ (603072 : Nat); omega), (by show _ ≤ (7190633 : Nat); omega)⟩ ⟨(by show _ ≤ (603072 : Nat); omega), (by show _ ≤ (7190633 : Nat); omega)⟩ (fun x4 h H locs S w => ?_)
  refine W.cs (cells' := (1033 + (513 - (n + 1)) * 21)) (slots' := (15206 + (513 - (n + 1)) * 5126)) (by omega) (by omega) ?_
  refine lv_iload C.1.1 C.1.2.1 dL_law_319 (lv_at hl 1 rfl) ?_
  refine lv_icmp_eq (tgt := 326) C.1.1 C.1.2.1 dL_law_321 (by decide) (fun c9 => ?_) (fun c9 => ?_)
  · replace w := ql_if w c9
    refine lv_iload C.1.1 C.1.2.1 dL_law_326 (lv_at hl 1 rfl) ?_
    refine lv_if_ne (tgt := 343) C.1.1 C.1.2.1 dL_law_328 (by decide) (fun c9 => ?_) (fun c9 => ?_)
    · replace w := ql_ifn w c9
      exact (qm_L_law_343 l hl9 D h0 L9 xs9 a0 Q X p e s m below meth c C hr hlocks htab hX) n hn9 k28 hk28 rl1 rl2 rl3 rl4 xl5 _ _ _ _ S (lv_sub hl [2, 3, 4, 5, 6, 7] rfl) w
    · replace w := ql_if w c9
      refine ql_aload_n (r := rl3) C dL_law_331 rfl (lv_at hl 5 rfl) ?_
      refine lv_iconst (v := (0 : Int32)) C.1.1 C.1.2.1 dL_law_332 (by decide) ?_
      refine ql_lald C S dL_law_333 w (fun j6 w => ?_)
      refine lv_iload C.1.1 C.1.2.1 dL_law_334 (lv_at hl 0 rfl) ?_
      refine lv_i2l C.1.1 C.1.2.1 dL_law_336 rfl ?_
      refine W.lcmp C.1.1 C.1.2.1 dL_law_337 ?_
      refine lv_if_eq (tgt := 343) C.1.1 C.1.2.1 dL_law_338 (by decide) (fun c9 => ?_) (fun c9 => ?_)
      · replace w := ql_if w c9
        exact (qm_L_law_343 l hl9 D h0 L9 xs9 a0 Q X p e s m below meth c C hr hlocks htab hX) n hn9 k28 hk28 rl1 rl2 rl3 rl4 xl5 _ _ _ _ S (lv_sub hl [2, 3, 4, 5, 6, 7] rfl) w
      · replace w := ql_ifn w c9
        refine lv_iconst (v := (0 : Int32)) C.1.1 C.1.2.1 dL_law_341 (by decide) ?_
        exact ql_zret C S hr hlocks dL_law_342 ⟨(by show _ ≤ (603072 : Nat); omega), (by show _ ≤ (7190633 : Nat); omega)⟩ w
  · replace w := ql_ifn w c9
    refine lv_iconst (v := (0 : Int32)) C.1.1 C.1.2.1 dL_law_324 (by decide) ?_
    exact ql_zret C S hr hlocks dL_law_325 ⟨(by show _ ≤ (603072 : Nat); omega), (by show _ ≤ (7190633 : Nat); omega)⟩ w
set_option maxHeartbeats 4000000 in
set_option maxRecDepth 100000 in
theorem qm_L_law_425 (l : Launch) (hl9 : l.stackTraces = false) (D : ql_D) (h0 : ql_H) (L9 : Nat) (xs9 : Nat → Int32) (a0 : Nat) (Q : Int32 → ql_H → Prop) (X : String → ql_H → Prop) (p : Program) (e : Env) (s : State) (m : MethodId) (below : List Frame) (meth : Method) (c : Code) (C : ql_C D h0 p m c cL_law 9 s [.ref a0].toArray "ClauseLedgerLaw") (hr : meth.sig.returnType = some .boolean) (hlocks : meth.locks = false) (htab : ∀ x ∈ c.exceptionTable.toList, False) (hX : va_X a0 L9 xs9 s s.heap ∧ a0 < s.heap.size ∧ ¬ ql_A h0 a0) : ∀ n : Nat, n + 1 ≤ 513 → ∀ (k28 : Option Nat → Option Nat → Option Nat → Option Nat → Int32 → ql_H → Prop) (hk28 : ∀ (rl1 : Option Nat) (rl2 : Option Nat) (rl3 : Option Nat) (rl4 : Option Nat) (xl5 : Int32) (h : ql_H) (H : Heap) (locs : List Loc) (ls : Array Slot), ql_S D h0 s H locs h → lv_has ls 9 [(0, .ref a0), (1, va_rf rl1), (2, va_rf rl2), (3, va_rf rl3), (4, va_rf rl4), (5, .int xl5)] → k28 rl1 rl2 rl3 rl4 xl5 h → W p l e ({ frames := 2048, cells := 603072, slots := 7190633, locals := 94400 } : Room) s m ([.ref a0] : List Value).toArray below meth c H locs (1032 + (513 - n) * 21) (15200 + (513 - n) * 5126) (vx_MQ below (ql_Q D h0 (ql_rI Q)) (ql_X D h0 X) ([.ref a0] : List Value).toArray s 603072 7190633 (ql_A h0)) (F0 m 28 ls [])) , ∀ (rl1 : Option Nat) (rl2 : Option Nat) (rl3 : Option Nat) (rl4 : Option Nat) (xl5 : Int32) (h : ql_H) (H : Heap) (locs : List Loc) (ls : Array Slot), ql_S D h0 s H locs h → lv_has ls 9 [(0, .ref a0), (1, va_rf rl1), (2, va_rf rl2), (3, va_rf rl3), (4, va_rf rl4), (5, .int xl5)] → qw_L_law_425 D.2 L9 xs9 a0 Q X k28 rl1 rl2 rl3 rl4 xl5 h → W p l e ({ frames := 2048, cells := 603072, slots := 7190633, locals := 94400 } : Room) s m ([.ref a0] : List Value).toArray below meth c H locs (1033 + (513 - (n + 1)) * 21) (15206 + (513 - (n + 1)) * 5126) (vx_MQ below (ql_Q D h0 (ql_rI Q)) (ql_X D h0 X) ([.ref a0] : List Value).toArray s 603072 7190633 (ql_A h0)) (F0 m 425 ls []) := by
  intro n hn9 k28 hk28 rl1 rl2 rl3 rl4 xl5 h H locs ls S hl w
  unfold qw_L_law_425 at w
  refine lv_goto (tgt := 2957) C.1.1 C.1.2.1 dL_law_425 (by decide) ?_
  refine W.widen (k := (1053 + (513 - (n + 1)) * 21)) (n := (20326 + (513 - (n + 1)) * 5126)) (by omega) (by omega) ?_
  exact (qm_L_law_2957 l hl9 D h0 L9 xs9 a0 Q X p e s m below meth c C hr hlocks htab hX) n hn9 k28 hk28 rl1 rl2 rl3 rl4 xl5 _ _ _ _ S (lv_sub hl [0, 1, 2, 3, 4, 5] rfl) w
set_option maxHeartbeats 4000000 in
set_option maxRecDepth 100000 in
theorem qm_L_law_346 (l : Launch) (hl9 : l.stackTraces = false) (D : ql_D) (h0 : ql_H) (L9 : Nat) (xs9 : Nat → Int32) (a0 : Nat) (Q : Int32 → ql_H → Prop) (X : String → ql_H → Prop) (p : Program) (e : Env) (s : State) (m : MethodId) (below : List Frame) (meth : Method) (c : Code) (C : ql_C D h0 p m c cL_law 9 s [.ref a0].toArray "ClauseLedgerLaw") (hr : meth.sig.returnType = some .boolean) (hlocks : meth.locks = false) (htab : ∀ x ∈ c.exceptionTable.toList, False) (hX : va_X a0 L9 xs9 s s.heap ∧ a0 < s.heap.size ∧ ¬ ql_A h0 a0) : ∀ n : Nat, n + 1 ≤ 513 → ∀ (k28 : Option Nat → Option Nat → Option Nat → Option Nat → Int32 → ql_H → Prop) (hk28 : ∀ (rl1 : Option Nat) (rl2 : Option Nat) (rl3 : Option Nat) (rl4 : Option Nat) (xl5 : Int32) (h : ql_H) (H : Heap) (locs : List Loc) (ls : Array Slot), ql_S D h0 s H locs h → lv_has ls 9 [(0, .ref a0), (1, va_rf rl1), (2, va_rf rl2), (3, va_rf rl3), (4, va_rf rl4), (5, .int xl5)] → k28 rl1 rl2 rl3 rl4 xl5 h → W p l e ({ frames := 2048, cells := 603072, slots := 7190633, locals := 94400 } : Room) s m ([.ref a0] : List Value).toArray below meth c H locs (1032 + (513 - n) * 21) (15200 + (513 - n) * 5126) (vx_MQ below (ql_Q D h0 (ql_rI Q)) (ql_X D h0 X) ([.ref a0] : List Value).toArray s 603072 7190633 (ql_A h0)) (F0 m 28 ls [])) , ∀ (rl1 : Option Nat) (rl2 : Option Nat) (rl3 : Option Nat) (rl4 : Option Nat) (xl5 : Int32) (h : ql_H) (H : Heap) (locs : List Loc) (ls : Array Slot), ql_S D h0 s H locs h → lv_has ls 9 [(0, .ref a0), (1, va_rf rl1), (2, va_rf rl2), (3, va_rf rl3), (4, va_rf rl4), (5, .int xl5)] → qw_L_law_346 D.2 L9 xs9 a0 Q X k28 rl1 rl2 rl3 rl4 xl5 h → W p l e ({ frames := 2048, cells := 603072, slots := 7190633, locals := 94400 } : Room) s m ([.ref a0] : List Value).toArray below meth c H locs (1032 + (513 - (n + 1)) * 21) (15200 + (513 - (n + 1)) * 5126) (vx_MQ below (ql_Q D h0 (ql_rI Q)) (ql_X D h0 X) ([.ref a0] : List Value).toArray s 603072 7190633 (ql_A h0)) (F0 m 346 ls []) := by
  intro n hn9 k28 hk28 rl1 rl2 rl3 rl4 xl5 h H locs ls S hl w
  unfold qw_L_law_346 at w
  refine ql_aload_n (r := rl1) C dL_law_346 rfl (lv_at hl 1 rfl) ?_
  refine ql_aload_n (r := (some a0)) C dL_law_347 rfl (lv_at hl 0 rfl) ?_
  refine lv_iload C.1.1 C.1.2.1 dL_law_348 (lv_at hl 5 rfl) ?_
  refine lv_iconst (v := (1 : Int32)) C.1.1 C.1.2.1 dL_law_350 (by decide) ?_
  refine lv_iadd C.1.1 C.1.2.1 dL_law_351 ?_
  refine ql_sld C S hX w.1 dL_law_352 ?_
  replace w := w.2
  refine ql_aload_n (r := (some a0)) C dL_law_353 rfl (lv_at hl 0 rfl) ?_
  refine lv_iload C.1.1 C.1.2.1 dL_law_354 (lv_at hl 5 rfl) ?_
  refine lv_iconst (v := (2 : Int32)) C.1.1 C.1.2.1 dL_law_356 (by decide) ?_
  refine lv_iadd C.1.1 C.1.2.1 dL_law_357 ?_
  refine ql_sld C S hX w.1 dL_law_358 ?_
  replace w := w.2
  refine ql_aload_n (r := (some a0)) C dL_law_359 rfl (lv_at hl 0 rfl) ?_
  refine lv_iload C.1.1 C.1.2.1 dL_law_360 (lv_at hl 5 rfl) ?_
  refine lv_iconst (v := (3 : Int32)) C.1.1 C.1.2.1 dL_law_362 (by decide) ?_
  refine lv_iadd C.1.1 C.1.2.1 dL_law_363 ?_
  refine ql_sld C S hX w.1 dL_law_364 ?_
  replace w := w.2
  refine lv_i2c C.1.1 C.1.2.1 dL_law_365 rfl ?_
  refine ql_aload_n (r := rl3) C dL_law_366 rfl (lv_at hl 3 rfl) ?_
  refine ql_SHI (As := [va_rf rl1, .int (xs9 (xl5 + (1 : Int32)).toNatClampNeg), .int (xs9 (xl5 + (2 : Int32)).toNatClampNeg), .int ((xs9 (xl5 + (3 : Int32)).toNatClampNeg).toUInt32 % 65536).toInt32, va_rf rl3]) (rest := []) C S hl qyh_L_insertNote gw_801 (qm_L_insertNote l hl9 D _ rl1 (xs9 (xl5 + (1 : Int32)).toNatClampNeg) (xs9 (xl5 + (2 : Int32)).toNatClampNeg) ((xs9 (xl5 + (3 : Int32)).toNatClampNeg).toUInt32 % 65536).toInt32 rl3 _ _ w) rfl ⟨Nat.le_of_ble_eq_true rfl, Nat.le_of_ble_eq_true rfl⟩ ⟨rfl, rfl⟩ (by exact Nat.le_of_ble_eq_true rfl) rfl dL_law_367 ⟨(by show _ ≤ (603072 : Nat); omega), (by show _ ≤ (7190633 : Nat); omega)⟩ (fun x7 h H locs S w => ?_)
  refine W.cs (cells' := (1033 + (513 - (n + 1)) * 21)) (slots' := (15206 + (513 - (n + 1)) * 5126)) (by omega) (by omega) ?_
  refine lv_istore (lv' := [(6, .int x7), (0, .ref a0), (1, va_rf rl1), (2, va_rf rl2), (3, va_rf rl3), (4, va_rf rl4), (5, .int xl5)]) C.1.1 C.1.2.1 dL_law_370 hl (by decide) rfl (fun ls hl => ?_)
  refine ql_aload_n (r := rl2) C dL_law_372 rfl (lv_at hl 3 rfl) ?_
  refine ql_aload_n (r := (some a0)) C dL_law_373 rfl (lv_at hl 1 rfl) ?_
  refine lv_iload C.1.1 C.1.2.1 dL_law_374 (lv_at hl 6 rfl) ?_
  refine lv_iconst (v := (1 : Int32)) C.1.1 C.1.2.1 dL_law_376 (by decide) ?_
  refine lv_iadd C.1.1 C.1.2.1 dL_law_377 ?_
  refine ql_sld C S hX w.1 dL_law_378 ?_
  replace w := w.2
  refine ql_aload_n (r := (some a0)) C dL_law_379 rfl (lv_at hl 1 rfl) ?_
  refine lv_iload C.1.1 C.1.2.1 dL_law_380 (lv_at hl 6 rfl) ?_
  refine lv_iconst (v := (2 : Int32)) C.1.1 C.1.2.1 dL_law_382 (by decide) ?_
  refine lv_iadd C.1.1 C.1.2.1 dL_law_383 ?_
  refine ql_sld C S hX w.1 dL_law_384 ?_
  replace w := w.2
  refine ql_aload_n (r := (some a0)) C dL_law_385 rfl (lv_at hl 1 rfl) ?_
  refine lv_iload C.1.1 C.1.2.1 dL_law_386 (lv_at hl 6 rfl) ?_
  refine lv_iconst (v := (3 : Int32)) C.1.1 C.1.2.1 dL_law_388 (by decide) ?_
  refine lv_iadd C.1.1 C.1.2.1 dL_law_389 ?_
  refine ql_sld C S hX w.1 dL_law_390 ?_
  replace w := w.2
  refine lv_i2c C.1.1 C.1.2.1 dL_law_391 rfl ?_
  refine ql_VI (As := [.int (xs9 (xl5 + (1 : Int32)).toNatClampNeg), .int (xs9 (xl5 + (2 : Int32)).toNatClampNeg), .int ((xs9 (xl5 + (3 : Int32)).toNatClampNeg).toUInt32 % 65536).toInt32]) (rest := []) C S htab hlocks hl qy_X12_insertNote qi_X12_insertNote qs_X12_insertNote gw_1768 (ci := 13) rfl w (fun b w => qm_X12_insertNote l hl9 D _ b (xs9 (xl5 + (1 : Int32)).toNatClampNeg) (xs9 (xl5 + (2 : Int32)).toNatClampNeg) ((xs9 (xl5 + (3 : Int32)).toNatClampNeg).toUInt32 % 65536).toInt32 _ _ w) rfl ⟨Nat.le_of_ble_eq_true rfl, Nat.le_of_ble_eq_true rfl⟩ ⟨rfl, rfl⟩ (by exact Nat.le_of_ble_eq_true rfl) (fun b e9 => by cases e9; rfl) dL_law_392 ⟨(by show _ ≤ (603072 : Nat); omega), (by show _ ≤ (7190633 : Nat); omega)⟩ ⟨(by show _ ≤ (603072 : Nat); omega), (by show _ ≤ (7190633 : Nat); omega)⟩ (fun x8 h H locs S w => ?_)
  refine W.cs (cells' := (1033 + (513 - (n + 1)) * 21)) (slots' := (15206 + (513 - (n + 1)) * 5126)) (by omega) (by omega) ?_
  refine lv_istore (lv' := [(7, .int x8), (6, .int x7), (0, .ref a0), (1, va_rf rl1), (2, va_rf rl2), (3, va_rf rl3), (4, va_rf rl4), (5, .int xl5)]) C.1.1 C.1.2.1 dL_law_395 hl (by decide) rfl (fun ls hl => ?_)
  refine ql_aload_n (r := rl2) C dL_law_397 rfl (lv_at hl 4 rfl) ?_
  refine ql_VI (As := []) (rest := []) C S htab hlocks hl qy_X12_thrown qi_X12_thrown qs_X12_thrown gw_1727 (ci := 13) rfl w (fun b w => qm_X12_thrown l hl9 D _ b _ _ w) rfl ⟨Nat.le_of_ble_eq_true rfl, Nat.le_of_ble_eq_true rfl⟩ ⟨rfl, rfl⟩ (by exact Nat.le_of_ble_eq_true rfl) (fun b e9 => by cases e9; rfl) dL_law_398 ⟨(by show _ ≤ (603072 : Nat); omega), (by show _ ≤ (7190633 : Nat); omega)⟩ ⟨(by show _ ≤ (603072 : Nat); omega), (by show _ ≤ (7190633 : Nat); omega)⟩ (fun x10 h H locs S w => ?_)
  refine W.cs (cells' := (1033 + (513 - (n + 1)) * 21)) (slots' := (15206 + (513 - (n + 1)) * 5126)) (by omega) (by omega) ?_
  refine lv_iload C.1.1 C.1.2.1 dL_law_401 (lv_at hl 1 rfl) ?_
  refine lv_icmp_eq (tgt := 408) C.1.1 C.1.2.1 dL_law_403 (by decide) (fun c9 => ?_) (fun c9 => ?_)
  · replace w := ql_if w c9
    refine lv_iload C.1.1 C.1.2.1 dL_law_408 (lv_at hl 1 rfl) ?_
    refine lv_if_ne (tgt := 425) C.1.1 C.1.2.1 dL_law_410 (by decide) (fun c9 => ?_) (fun c9 => ?_)
    · replace w := ql_ifn w c9
      exact (qm_L_law_425 l hl9 D h0 L9 xs9 a0 Q X p e s m below meth c C hr hlocks htab hX) n hn9 k28 hk28 rl1 rl2 rl3 rl4 xl5 _ _ _ _ S (lv_sub hl [2, 3, 4, 5, 6, 7] rfl) w
    · replace w := ql_if w c9
      refine ql_aload_n (r := rl3) C dL_law_413 rfl (lv_at hl 5 rfl) ?_
      refine lv_iconst (v := (0 : Int32)) C.1.1 C.1.2.1 dL_law_414 (by decide) ?_
      refine ql_lald C S dL_law_415 w (fun j12 w => ?_)
      refine lv_iload C.1.1 C.1.2.1 dL_law_416 (lv_at hl 0 rfl) ?_
      refine lv_i2l C.1.1 C.1.2.1 dL_law_418 rfl ?_
      refine W.lcmp C.1.1 C.1.2.1 dL_law_419 ?_
      refine lv_if_eq (tgt := 425) C.1.1 C.1.2.1 dL_law_420 (by decide) (fun c9 => ?_) (fun c9 => ?_)
      · replace w := ql_if w c9
        exact (qm_L_law_425 l hl9 D h0 L9 xs9 a0 Q X p e s m below meth c C hr hlocks htab hX) n hn9 k28 hk28 rl1 rl2 rl3 rl4 xl5 _ _ _ _ S (lv_sub hl [2, 3, 4, 5, 6, 7] rfl) w
      · replace w := ql_ifn w c9
        refine lv_iconst (v := (0 : Int32)) C.1.1 C.1.2.1 dL_law_423 (by decide) ?_
        exact ql_zret C S hr hlocks dL_law_424 ⟨(by show _ ≤ (603072 : Nat); omega), (by show _ ≤ (7190633 : Nat); omega)⟩ w
  · replace w := ql_ifn w c9
    refine lv_iconst (v := (0 : Int32)) C.1.1 C.1.2.1 dL_law_406 (by decide) ?_
    exact ql_zret C S hr hlocks dL_law_407 ⟨(by show _ ≤ (603072 : Nat); omega), (by show _ ≤ (7190633 : Nat); omega)⟩ w
set_option maxHeartbeats 4000000 in
set_option maxRecDepth 100000 in
theorem qm_L_law_507 (l : Launch) (hl9 : l.stackTraces = false) (D : ql_D) (h0 : ql_H) (L9 : Nat) (xs9 : Nat → Int32) (a0 : Nat) (Q : Int32 → ql_H → Prop) (X : String → ql_H → Prop) (p : Program) (e : Env) (s : State) (m : MethodId) (below : List Frame) (meth : Method) (c : Code) (C : ql_C D h0 p m c cL_law 9 s [.ref a0].toArray "ClauseLedgerLaw") (hr : meth.sig.returnType = some .boolean) (hlocks : meth.locks = false) (htab : ∀ x ∈ c.exceptionTable.toList, False) (hX : va_X a0 L9 xs9 s s.heap ∧ a0 < s.heap.size ∧ ¬ ql_A h0 a0) : ∀ n : Nat, n + 1 ≤ 513 → ∀ (k28 : Option Nat → Option Nat → Option Nat → Option Nat → Int32 → ql_H → Prop) (hk28 : ∀ (rl1 : Option Nat) (rl2 : Option Nat) (rl3 : Option Nat) (rl4 : Option Nat) (xl5 : Int32) (h : ql_H) (H : Heap) (locs : List Loc) (ls : Array Slot), ql_S D h0 s H locs h → lv_has ls 9 [(0, .ref a0), (1, va_rf rl1), (2, va_rf rl2), (3, va_rf rl3), (4, va_rf rl4), (5, .int xl5)] → k28 rl1 rl2 rl3 rl4 xl5 h → W p l e ({ frames := 2048, cells := 603072, slots := 7190633, locals := 94400 } : Room) s m ([.ref a0] : List Value).toArray below meth c H locs (1032 + (513 - n) * 21) (15200 + (513 - n) * 5126) (vx_MQ below (ql_Q D h0 (ql_rI Q)) (ql_X D h0 X) ([.ref a0] : List Value).toArray s 603072 7190633 (ql_A h0)) (F0 m 28 ls [])) , ∀ (rl1 : Option Nat) (rl2 : Option Nat) (rl3 : Option Nat) (rl4 : Option Nat) (xl5 : Int32) (h : ql_H) (H : Heap) (locs : List Loc) (ls : Array Slot), ql_S D h0 s H locs h → lv_has ls 9 [(0, .ref a0), (1, va_rf rl1), (2, va_rf rl2), (3, va_rf rl3), (4, va_rf rl4), (5, .int xl5)] → qw_L_law_507 D.2 L9 xs9 a0 Q X k28 rl1 rl2 rl3 rl4 xl5 h → W p l e ({ frames := 2048, cells := 603072, slots := 7190633, locals := 94400 } : Room) s m ([.ref a0] : List Value).toArray below meth c H locs (1033 + (513 - (n + 1)) * 21) (15206 + (513 - (n + 1)) * 5126) (vx_MQ below (ql_Q D h0 (ql_rI Q)) (ql_X D h0 X) ([.ref a0] : List Value).toArray s 603072 7190633 (ql_A h0)) (F0 m 507 ls []) := by
  intro n hn9 k28 hk28 rl1 rl2 rl3 rl4 xl5 h H locs ls S hl w
  unfold qw_L_law_507 at w
  refine lv_goto (tgt := 2957) C.1.1 C.1.2.1 dL_law_507 (by decide) ?_
  refine W.widen (k := (1053 + (513 - (n + 1)) * 21)) (n := (20326 + (513 - (n + 1)) * 5126)) (by omega) (by omega) ?_
  exact (qm_L_law_2957 l hl9 D h0 L9 xs9 a0 Q X p e s m below meth c C hr hlocks htab hX) n hn9 k28 hk28 rl1 rl2 rl3 rl4 xl5 _ _ _ _ S (lv_sub hl [0, 1, 2, 3, 4, 5] rfl) w
set_option maxHeartbeats 4000000 in
set_option maxRecDepth 100000 in
theorem qm_L_law_428 (l : Launch) (hl9 : l.stackTraces = false) (D : ql_D) (h0 : ql_H) (L9 : Nat) (xs9 : Nat → Int32) (a0 : Nat) (Q : Int32 → ql_H → Prop) (X : String → ql_H → Prop) (p : Program) (e : Env) (s : State) (m : MethodId) (below : List Frame) (meth : Method) (c : Code) (C : ql_C D h0 p m c cL_law 9 s [.ref a0].toArray "ClauseLedgerLaw") (hr : meth.sig.returnType = some .boolean) (hlocks : meth.locks = false) (htab : ∀ x ∈ c.exceptionTable.toList, False) (hX : va_X a0 L9 xs9 s s.heap ∧ a0 < s.heap.size ∧ ¬ ql_A h0 a0) : ∀ n : Nat, n + 1 ≤ 513 → ∀ (k28 : Option Nat → Option Nat → Option Nat → Option Nat → Int32 → ql_H → Prop) (hk28 : ∀ (rl1 : Option Nat) (rl2 : Option Nat) (rl3 : Option Nat) (rl4 : Option Nat) (xl5 : Int32) (h : ql_H) (H : Heap) (locs : List Loc) (ls : Array Slot), ql_S D h0 s H locs h → lv_has ls 9 [(0, .ref a0), (1, va_rf rl1), (2, va_rf rl2), (3, va_rf rl3), (4, va_rf rl4), (5, .int xl5)] → k28 rl1 rl2 rl3 rl4 xl5 h → W p l e ({ frames := 2048, cells := 603072, slots := 7190633, locals := 94400 } : Room) s m ([.ref a0] : List Value).toArray below meth c H locs (1032 + (513 - n) * 21) (15200 + (513 - n) * 5126) (vx_MQ below (ql_Q D h0 (ql_rI Q)) (ql_X D h0 X) ([.ref a0] : List Value).toArray s 603072 7190633 (ql_A h0)) (F0 m 28 ls [])) , ∀ (rl1 : Option Nat) (rl2 : Option Nat) (rl3 : Option Nat) (rl4 : Option Nat) (xl5 : Int32) (h : ql_H) (H : Heap) (locs : List Loc) (ls : Array Slot), ql_S D h0 s H locs h → lv_has ls 9 [(0, .ref a0), (1, va_rf rl1), (2, va_rf rl2), (3, va_rf rl3), (4, va_rf rl4), (5, .int xl5)] → qw_L_law_428 D.2 L9 xs9 a0 Q X k28 rl1 rl2 rl3 rl4 xl5 h → W p l e ({ frames := 2048, cells := 603072, slots := 7190633, locals := 94400 } : Room) s m ([.ref a0] : List Value).toArray below meth c H locs (1032 + (513 - (n + 1)) * 21) (15200 + (513 - (n + 1)) * 5126) (vx_MQ below (ql_Q D h0 (ql_rI Q)) (ql_X D h0 X) ([.ref a0] : List Value).toArray s 603072 7190633 (ql_A h0)) (F0 m 428 ls []) := by
  intro n hn9 k28 hk28 rl1 rl2 rl3 rl4 xl5 h H locs ls S hl w
  unfold qw_L_law_428 at w
  refine ql_aload_n (r := rl1) C dL_law_428 rfl (lv_at hl 1 rfl) ?_
  refine ql_aload_n (r := (some a0)) C dL_law_429 rfl (lv_at hl 0 rfl) ?_
  refine lv_iload C.1.1 C.1.2.1 dL_law_430 (lv_at hl 5 rfl) ?_
  refine lv_iconst (v := (1 : Int32)) C.1.1 C.1.2.1 dL_law_432 (by decide) ?_
  refine lv_iadd C.1.1 C.1.2.1 dL_law_433 ?_
  refine ql_sld C S hX w.1 dL_law_434 ?_
  replace w := w.2
  refine ql_aload_n (r := (some a0)) C dL_law_435 rfl (lv_at hl 0 rfl) ?_
  refine lv_iload C.1.1 C.1.2.1 dL_law_436 (lv_at hl 5 rfl) ?_
  refine lv_iconst (v := (2 : Int32)) C.1.1 C.1.2.1 dL_law_438 (by decide) ?_
  refine lv_iadd C.1.1 C.1.2.1 dL_law_439 ?_
  refine ql_sld C S hX w.1 dL_law_440 ?_
  replace w := w.2
  refine ql_aload_n (r := (some a0)) C dL_law_441 rfl (lv_at hl 0 rfl) ?_
  refine lv_iload C.1.1 C.1.2.1 dL_law_442 (lv_at hl 5 rfl) ?_
  refine lv_iconst (v := (3 : Int32)) C.1.1 C.1.2.1 dL_law_444 (by decide) ?_
  refine lv_iadd C.1.1 C.1.2.1 dL_law_445 ?_
  refine ql_sld C S hX w.1 dL_law_446 ?_
  replace w := w.2
  refine lv_i2c C.1.1 C.1.2.1 dL_law_447 rfl ?_
  refine ql_aload_n (r := rl3) C dL_law_448 rfl (lv_at hl 3 rfl) ?_
  refine ql_SHI (As := [va_rf rl1, .int (xs9 (xl5 + (1 : Int32)).toNatClampNeg), .int (xs9 (xl5 + (2 : Int32)).toNatClampNeg), .int ((xs9 (xl5 + (3 : Int32)).toNatClampNeg).toUInt32 % 65536).toInt32, va_rf rl3]) (rest := []) C S hl qyh_L_replaceNote gw_871 (qm_L_replaceNote l hl9 D _ rl1 (xs9 (xl5 + (1 : Int32)).toNatClampNeg) (xs9 (xl5 + (2 : Int32)).toNatClampNeg) ((xs9 (xl5 + (3 : Int32)).toNatClampNeg).toUInt32 % 65536).toInt32 rl3 _ _ w) rfl ⟨Nat.le_of_ble_eq_true rfl, Nat.le_of_ble_eq_true rfl⟩ ⟨rfl, rfl⟩ (by exact Nat.le_of_ble_eq_true rfl) rfl dL_law_449 ⟨(by show _ ≤ (603072 : Nat); omega), (by show _ ≤ (7190633 : Nat); omega)⟩ (fun x13 h H locs S w => ?_)
  refine W.cs (cells' := (1033 + (513 - (n + 1)) * 21)) (slots' := (15206 + (513 - (n + 1)) * 5126)) (by omega) (by omega) ?_
  refine lv_istore (lv' := [(6, .int x13), (0, .ref a0), (1, va_rf rl1), (2, va_rf rl2), (3, va_rf rl3), (4, va_rf rl4), (5, .int xl5)]) C.1.1 C.1.2.1 dL_law_452 hl (by decide) rfl (fun ls hl => ?_)
  refine ql_aload_n (r := rl2) C dL_law_454 rfl (lv_at hl 3 rfl) ?_
  refine ql_aload_n (r := (some a0)) C dL_law_455 rfl (lv_at hl 1 rfl) ?_
  refine lv_iload C.1.1 C.1.2.1 dL_law_456 (lv_at hl 6 rfl) ?_
  refine lv_iconst (v := (1 : Int32)) C.1.1 C.1.2.1 dL_law_458 (by decide) ?_
  refine lv_iadd C.1.1 C.1.2.1 dL_law_459 ?_
  refine ql_sld C S hX w.1 dL_law_460 ?_
  replace w := w.2
  refine ql_aload_n (r := (some a0)) C dL_law_461 rfl (lv_at hl 1 rfl) ?_
  refine lv_iload C.1.1 C.1.2.1 dL_law_462 (lv_at hl 6 rfl) ?_
  refine lv_iconst (v := (2 : Int32)) C.1.1 C.1.2.1 dL_law_464 (by decide) ?_
  refine lv_iadd C.1.1 C.1.2.1 dL_law_465 ?_
  refine ql_sld C S hX w.1 dL_law_466 ?_
  replace w := w.2
  refine ql_aload_n (r := (some a0)) C dL_law_467 rfl (lv_at hl 1 rfl) ?_
  refine lv_iload C.1.1 C.1.2.1 dL_law_468 (lv_at hl 6 rfl) ?_
  refine lv_iconst (v := (3 : Int32)) C.1.1 C.1.2.1 dL_law_470 (by decide) ?_
  refine lv_iadd C.1.1 C.1.2.1 dL_law_471 ?_
  refine ql_sld C S hX w.1 dL_law_472 ?_
  replace w := w.2
  refine lv_i2c C.1.1 C.1.2.1 dL_law_473 rfl ?_
  refine ql_VI (As := [.int (xs9 (xl5 + (1 : Int32)).toNatClampNeg), .int (xs9 (xl5 + (2 : Int32)).toNatClampNeg), .int ((xs9 (xl5 + (3 : Int32)).toNatClampNeg).toUInt32 % 65536).toInt32]) (rest := []) C S htab hlocks hl qy_X12_replaceNote qi_X12_replaceNote qs_X12_replaceNote gw_1800 (ci := 13) rfl w (fun b w => qm_X12_replaceNote l hl9 D _ b (xs9 (xl5 + (1 : Int32)).toNatClampNeg) (xs9 (xl5 + (2 : Int32)).toNatClampNeg) ((xs9 (xl5 + (3 : Int32)).toNatClampNeg).toUInt32 % 65536).toInt32 _ _ w) rfl ⟨Nat.le_of_ble_eq_true rfl, Nat.le_of_ble_eq_true rfl⟩ ⟨rfl, rfl⟩ (by exact Nat.le_of_ble_eq_true rfl) (fun b e9 => by cases e9; rfl) dL_law_474 ⟨(by show _ ≤ (603072 : Nat); omega), (by show _ ≤ (7190633 : Nat); omega)⟩ ⟨(by show _ ≤ (603072 : Nat); omega), (by show _ ≤ (7190633 : Nat); omega)⟩ (fun x14 h H locs S w => ?_)
  refine W.cs (cells' := (1033 + (513 - (n + 1)) * 21)) (slots' := (15206 + (513 - (n + 1)) * 5126)) (by omega) (by omega) ?_
  refine lv_istore (lv' := [(7, .int x14), (6, .int x13), (0, .ref a0), (1, va_rf rl1), (2, va_rf rl2), (3, va_rf rl3), (4, va_rf rl4), (5, .int xl5)]) C.1.1 C.1.2.1 dL_law_477 hl (by decide) rfl (fun ls hl => ?_)
  refine ql_aload_n (r := rl2) C dL_law_479 rfl (lv_at hl 4 rfl) ?_
  refine ql_VI (As := []) (rest := []) C S htab hlocks hl qy_X12_thrown qi_X12_thrown qs_X12_thrown gw_1727 (ci := 13) rfl w (fun b w => qm_X12_thrown l hl9 D _ b _ _ w) rfl ⟨Nat.le_of_ble_eq_true rfl, Nat.le_of_ble_eq_true rfl⟩ ⟨rfl, rfl⟩ (by exact Nat.le_of_ble_eq_true rfl) (fun b e9 => by cases e9; rfl) dL_law_480 ⟨(by show _ ≤ (603072 : Nat); omega), (by show _ ≤ (7190633 : Nat); omega)⟩ ⟨(by show _ ≤ (603072 : Nat); omega), (by show _ ≤ (7190633 : Nat); omega)⟩ (fun x16 h H locs S w => ?_)
  refine W.cs (cells' := (1033 + (513 - (n + 1)) * 21)) (slots' := (15206 + (513 - (n + 1)) * 5126)) (by omega) (by omega) ?_
  refine lv_iload C.1.1 C.1.2.1 dL_law_483 (lv_at hl 1 rfl) ?_
  refine lv_icmp_eq (tgt := 490) C.1.1 C.1.2.1 dL_law_485 (by decide) (fun c9 => ?_) (fun c9 => ?_)
  · replace w := ql_if w c9
    refine lv_iload C.1.1 C.1.2.1 dL_law_490 (lv_at hl 1 rfl) ?_
    refine lv_if_ne (tgt := 507) C.1.1 C.1.2.1 dL_law_492 (by decide) (fun c9 => ?_) (fun c9 => ?_)
    · replace w := ql_ifn w c9
      exact (qm_L_law_507 l hl9 D h0 L9 xs9 a0 Q X p e s m below meth c C hr hlocks htab hX) n hn9 k28 hk28 rl1 rl2 rl3 rl4 xl5 _ _ _ _ S (lv_sub hl [2, 3, 4, 5, 6, 7] rfl) w
    · replace w := ql_if w c9
      refine ql_aload_n (r := rl3) C dL_law_495 rfl (lv_at hl 5 rfl) ?_
      refine lv_iconst (v := (0 : Int32)) C.1.1 C.1.2.1 dL_law_496 (by decide) ?_
      refine ql_lald C S dL_law_497 w (fun j18 w => ?_)
      refine lv_iload C.1.1 C.1.2.1 dL_law_498 (lv_at hl 0 rfl) ?_
      refine lv_i2l C.1.1 C.1.2.1 dL_law_500 rfl ?_
      refine W.lcmp C.1.1 C.1.2.1 dL_law_501 ?_
      refine lv_if_eq (tgt := 507) C.1.1 C.1.2.1 dL_law_502 (by decide) (fun c9 => ?_) (fun c9 => ?_)
      · replace w := ql_if w c9
        exact (qm_L_law_507 l hl9 D h0 L9 xs9 a0 Q X p e s m below meth c C hr hlocks htab hX) n hn9 k28 hk28 rl1 rl2 rl3 rl4 xl5 _ _ _ _ S (lv_sub hl [2, 3, 4, 5, 6, 7] rfl) w
      · replace w := ql_ifn w c9
        refine lv_iconst (v := (0 : Int32)) C.1.1 C.1.2.1 dL_law_505 (by decide) ?_
        exact ql_zret C S hr hlocks dL_law_506 ⟨(by show _ ≤ (603072 : Nat); omega), (by show _ ≤ (7190633 : Nat); omega)⟩ w
  · replace w := ql_ifn w c9
    refine lv_iconst (v := (0 : Int32)) C.1.1 C.1.2.1 dL_law_488 (by decide) ?_
    exact ql_zret C S hr hlocks dL_law_489 ⟨(by show _ ≤ (603072 : Nat); omega), (by show _ ≤ (7190633 : Nat); omega)⟩ w
set_option maxHeartbeats 4000000 in
set_option maxRecDepth 100000 in
theorem qm_L_law_575 (l : Launch) (hl9 : l.stackTraces = false) (D : ql_D) (h0 : ql_H) (L9 : Nat) (xs9 : Nat → Int32) (a0 : Nat) (Q : Int32 → ql_H → Prop) (X : String → ql_H → Prop) (p : Program) (e : Env) (s : State) (m : MethodId) (below : List Frame) (meth : Method) (c : Code) (C : ql_C D h0 p m c cL_law 9 s [.ref a0].toArray "ClauseLedgerLaw") (hr : meth.sig.returnType = some .boolean) (hlocks : meth.locks = false) (htab : ∀ x ∈ c.exceptionTable.toList, False) (hX : va_X a0 L9 xs9 s s.heap ∧ a0 < s.heap.size ∧ ¬ ql_A h0 a0) : ∀ n : Nat, n + 1 ≤ 513 → ∀ (k28 : Option Nat → Option Nat → Option Nat → Option Nat → Int32 → ql_H → Prop) (hk28 : ∀ (rl1 : Option Nat) (rl2 : Option Nat) (rl3 : Option Nat) (rl4 : Option Nat) (xl5 : Int32) (h : ql_H) (H : Heap) (locs : List Loc) (ls : Array Slot), ql_S D h0 s H locs h → lv_has ls 9 [(0, .ref a0), (1, va_rf rl1), (2, va_rf rl2), (3, va_rf rl3), (4, va_rf rl4), (5, .int xl5)] → k28 rl1 rl2 rl3 rl4 xl5 h → W p l e ({ frames := 2048, cells := 603072, slots := 7190633, locals := 94400 } : Room) s m ([.ref a0] : List Value).toArray below meth c H locs (1032 + (513 - n) * 21) (15200 + (513 - n) * 5126) (vx_MQ below (ql_Q D h0 (ql_rI Q)) (ql_X D h0 X) ([.ref a0] : List Value).toArray s 603072 7190633 (ql_A h0)) (F0 m 28 ls [])) , ∀ (rl1 : Option Nat) (rl2 : Option Nat) (rl3 : Option Nat) (rl4 : Option Nat) (xl5 : Int32) (h : ql_H) (H : Heap) (locs : List Loc) (ls : Array Slot), ql_S D h0 s H locs h → lv_has ls 9 [(0, .ref a0), (1, va_rf rl1), (2, va_rf rl2), (3, va_rf rl3), (4, va_rf rl4), (5, .int xl5)] → qw_L_law_575 D.2 L9 xs9 a0 Q X k28 rl1 rl2 rl3 rl4 xl5 h → W p l e ({ frames := 2048, cells := 603072, slots := 7190633, locals := 94400 } : Room) s m ([.ref a0] : List Value).toArray below meth c H locs (1033 + (513 - (n + 1)) * 21) (15206 + (513 - (n + 1)) * 5126) (vx_MQ below (ql_Q D h0 (ql_rI Q)) (ql_X D h0 X) ([.ref a0] : List Value).toArray s 603072 7190633 (ql_A h0)) (F0 m 575 ls []) := by
  intro n hn9 k28 hk28 rl1 rl2 rl3 rl4 xl5 h H locs ls S hl w
  unfold qw_L_law_575 at w
  refine lv_goto (tgt := 2957) C.1.1 C.1.2.1 dL_law_575 (by decide) ?_
  refine W.widen (k := (1053 + (513 - (n + 1)) * 21)) (n := (20326 + (513 - (n + 1)) * 5126)) (by omega) (by omega) ?_
  exact (qm_L_law_2957 l hl9 D h0 L9 xs9 a0 Q X p e s m below meth c C hr hlocks htab hX) n hn9 k28 hk28 rl1 rl2 rl3 rl4 xl5 _ _ _ _ S (lv_sub hl [0, 1, 2, 3, 4, 5] rfl) w
set_option maxHeartbeats 4000000 in
set_option maxRecDepth 100000 in
theorem qm_L_law_510 (l : Launch) (hl9 : l.stackTraces = false) (D : ql_D) (h0 : ql_H) (L9 : Nat) (xs9 : Nat → Int32) (a0 : Nat) (Q : Int32 → ql_H → Prop) (X : String → ql_H → Prop) (p : Program) (e : Env) (s : State) (m : MethodId) (below : List Frame) (meth : Method) (c : Code) (C : ql_C D h0 p m c cL_law 9 s [.ref a0].toArray "ClauseLedgerLaw") (hr : meth.sig.returnType = some .boolean) (hlocks : meth.locks = false) (htab : ∀ x ∈ c.exceptionTable.toList, False) (hX : va_X a0 L9 xs9 s s.heap ∧ a0 < s.heap.size ∧ ¬ ql_A h0 a0) : ∀ n : Nat, n + 1 ≤ 513 → ∀ (k28 : Option Nat → Option Nat → Option Nat → Option Nat → Int32 → ql_H → Prop) (hk28 : ∀ (rl1 : Option Nat) (rl2 : Option Nat) (rl3 : Option Nat) (rl4 : Option Nat) (xl5 : Int32) (h : ql_H) (H : Heap) (locs : List Loc) (ls : Array Slot), ql_S D h0 s H locs h → lv_has ls 9 [(0, .ref a0), (1, va_rf rl1), (2, va_rf rl2), (3, va_rf rl3), (4, va_rf rl4), (5, .int xl5)] → k28 rl1 rl2 rl3 rl4 xl5 h → W p l e ({ frames := 2048, cells := 603072, slots := 7190633, locals := 94400 } : Room) s m ([.ref a0] : List Value).toArray below meth c H locs (1032 + (513 - n) * 21) (15200 + (513 - n) * 5126) (vx_MQ below (ql_Q D h0 (ql_rI Q)) (ql_X D h0 X) ([.ref a0] : List Value).toArray s 603072 7190633 (ql_A h0)) (F0 m 28 ls [])) , ∀ (rl1 : Option Nat) (rl2 : Option Nat) (rl3 : Option Nat) (rl4 : Option Nat) (xl5 : Int32) (h : ql_H) (H : Heap) (locs : List Loc) (ls : Array Slot), ql_S D h0 s H locs h → lv_has ls 9 [(0, .ref a0), (1, va_rf rl1), (2, va_rf rl2), (3, va_rf rl3), (4, va_rf rl4), (5, .int xl5)] → qw_L_law_510 D.2 L9 xs9 a0 Q X k28 rl1 rl2 rl3 rl4 xl5 h → W p l e ({ frames := 2048, cells := 603072, slots := 7190633, locals := 94400 } : Room) s m ([.ref a0] : List Value).toArray below meth c H locs (1032 + (513 - (n + 1)) * 21) (15200 + (513 - (n + 1)) * 5126) (vx_MQ below (ql_Q D h0 (ql_rI Q)) (ql_X D h0 X) ([.ref a0] : List Value).toArray s 603072 7190633 (ql_A h0)) (F0 m 510 ls []) := by
  intro n hn9 k28 hk28 rl1 rl2 rl3 rl4 xl5 h H locs ls S hl w
  unfold qw_L_law_510 at w
  refine ql_aload_n (r := rl1) C dL_law_510 rfl (lv_at hl 1 rfl) ?_
  refine ql_aload_n (r := (some a0)) C dL_law_511 rfl (lv_at hl 0 rfl) ?_
  refine lv_iload C.1.1 C.1.2.1 dL_law_512 (lv_at hl 5 rfl) ?_
  refine lv_iconst (v := (1 : Int32)) C.1.1 C.1.2.1 dL_law_514 (by decide) ?_
  refine lv_iadd C.1.1 C.1.2.1 dL_law_515 ?_
  refine ql_sld C S hX w.1 dL_law_516 ?_
  replace w := w.2
  refine ql_aload_n (r := (some a0)) C dL_law_517 rfl (lv_at hl 0 rfl) ?_
  refine lv_iload C.1.1 C.1.2.1 dL_law_518 (lv_at hl 5 rfl) ?_
  refine lv_iconst (v := (2 : Int32)) C.1.1 C.1.2.1 dL_law_520 (by decide) ?_
  refine lv_iadd C.1.1 C.1.2.1 dL_law_521 ?_
  refine ql_sld C S hX w.1 dL_law_522 ?_
  replace w := w.2
  refine ql_aload_n (r := rl3) C dL_law_523 rfl (lv_at hl 3 rfl) ?_
  refine ql_SHI (As := [va_rf rl1, .int (xs9 (xl5 + (1 : Int32)).toNatClampNeg), .int (xs9 (xl5 + (2 : Int32)).toNatClampNeg), va_rf rl3]) (rest := []) C S hl qyh_L_deleteNote gw_889 (qm_L_deleteNote l hl9 D _ rl1 (xs9 (xl5 + (1 : Int32)).toNatClampNeg) (xs9 (xl5 + (2 : Int32)).toNatClampNeg) rl3 _ _ w) rfl ⟨Nat.le_of_ble_eq_true rfl, Nat.le_of_ble_eq_true rfl⟩ ⟨rfl, rfl⟩ (by exact Nat.le_of_ble_eq_true rfl) rfl dL_law_524 ⟨(by show _ ≤ (603072 : Nat); omega), (by show _ ≤ (7190633 : Nat); omega)⟩ (fun x19 h H locs S w => ?_)
  refine W.cs (cells' := (1033 + (513 - (n + 1)) * 21)) (slots' := (15206 + (513 - (n + 1)) * 5126)) (by omega) (by omega) ?_
  refine lv_istore (lv' := [(6, .int x19), (0, .ref a0), (1, va_rf rl1), (2, va_rf rl2), (3, va_rf rl3), (4, va_rf rl4), (5, .int xl5)]) C.1.1 C.1.2.1 dL_law_527 hl (by decide) rfl (fun ls hl => ?_)
  refine ql_aload_n (r := rl2) C dL_law_529 rfl (lv_at hl 3 rfl) ?_
  refine ql_aload_n (r := (some a0)) C dL_law_530 rfl (lv_at hl 1 rfl) ?_
  refine lv_iload C.1.1 C.1.2.1 dL_law_531 (lv_at hl 6 rfl) ?_
  refine lv_iconst (v := (1 : Int32)) C.1.1 C.1.2.1 dL_law_533 (by decide) ?_
  refine lv_iadd C.1.1 C.1.2.1 dL_law_534 ?_
  refine ql_sld C S hX w.1 dL_law_535 ?_
  replace w := w.2
  refine ql_aload_n (r := (some a0)) C dL_law_536 rfl (lv_at hl 1 rfl) ?_
  refine lv_iload C.1.1 C.1.2.1 dL_law_537 (lv_at hl 6 rfl) ?_
  refine lv_iconst (v := (2 : Int32)) C.1.1 C.1.2.1 dL_law_539 (by decide) ?_
  refine lv_iadd C.1.1 C.1.2.1 dL_law_540 ?_
  refine ql_sld C S hX w.1 dL_law_541 ?_
  replace w := w.2
  refine ql_VI (As := [.int (xs9 (xl5 + (1 : Int32)).toNatClampNeg), .int (xs9 (xl5 + (2 : Int32)).toNatClampNeg)]) (rest := []) C S htab hlocks hl qy_X12_deleteNote qi_X12_deleteNote qs_X12_deleteNote gw_1804 (ci := 13) rfl w (fun b w => qm_X12_deleteNote l hl9 D _ b (xs9 (xl5 + (1 : Int32)).toNatClampNeg) (xs9 (xl5 + (2 : Int32)).toNatClampNeg) _ _ w) rfl ⟨Nat.le_of_ble_eq_true rfl, Nat.le_of_ble_eq_true rfl⟩ ⟨rfl, rfl⟩ (by exact Nat.le_of_ble_eq_true rfl) (fun b e9 => by cases e9; rfl) dL_law_542 ⟨(by show _ ≤ (603072 : Nat); omega), (by show _ ≤ (7190633 : Nat); omega)⟩ ⟨(by show _ ≤ (603072 : Nat); omega), (by show _ ≤ (7190633 : Nat); omega)⟩ (fun x20 h H locs S w => ?_)
  refine W.cs (cells' := (1033 + (513 - (n + 1)) * 21)) (slots' := (15206 + (513 - (n + 1)) * 5126)) (by omega) (by omega) ?_
  refine lv_istore (lv' := [(7, .int x20), (6, .int x19), (0, .ref a0), (1, va_rf rl1), (2, va_rf rl2), (3, va_rf rl3), (4, va_rf rl4), (5, .int xl5)]) C.1.1 C.1.2.1 dL_law_545 hl (by decide) rfl (fun ls hl => ?_)
  refine ql_aload_n (r := rl2) C dL_law_547 rfl (lv_at hl 4 rfl) ?_
  refine ql_VI (As := []) (rest := []) C S htab hlocks hl qy_X12_thrown qi_X12_thrown qs_X12_thrown gw_1727 (ci := 13) rfl w (fun b w => qm_X12_thrown l hl9 D _ b _ _ w) rfl ⟨Nat.le_of_ble_eq_true rfl, Nat.le_of_ble_eq_true rfl⟩ ⟨rfl, rfl⟩ (by exact Nat.le_of_ble_eq_true rfl) (fun b e9 => by cases e9; rfl) dL_law_548 ⟨(by show _ ≤ (603072 : Nat); omega), (by show _ ≤ (7190633 : Nat); omega)⟩ ⟨(by show _ ≤ (603072 : Nat); omega), (by show _ ≤ (7190633 : Nat); omega)⟩ (fun x22 h H locs S w => ?_)
  refine W.cs (cells' := (1033 + (513 - (n + 1)) * 21)) (slots' := (15206 + (513 - (n + 1)) * 5126)) (by omega) (by omega) ?_
  refine lv_iload C.1.1 C.1.2.1 dL_law_551 (lv_at hl 1 rfl) ?_
  refine lv_icmp_eq (tgt := 558) C.1.1 C.1.2.1 dL_law_553 (by decide) (fun c9 => ?_) (fun c9 => ?_)
  · replace w := ql_if w c9
    refine lv_iload C.1.1 C.1.2.1 dL_law_558 (lv_at hl 1 rfl) ?_
    refine lv_if_ne (tgt := 575) C.1.1 C.1.2.1 dL_law_560 (by decide) (fun c9 => ?_) (fun c9 => ?_)
    · replace w := ql_ifn w c9
      exact (qm_L_law_575 l hl9 D h0 L9 xs9 a0 Q X p e s m below meth c C hr hlocks htab hX) n hn9 k28 hk28 rl1 rl2 rl3 rl4 xl5 _ _ _ _ S (lv_sub hl [2, 3, 4, 5, 6, 7] rfl) w
    · replace w := ql_if w c9
      refine ql_aload_n (r := rl3) C dL_law_563 rfl (lv_at hl 5 rfl) ?_
      refine lv_iconst (v := (0 : Int32)) C.1.1 C.1.2.1 dL_law_564 (by decide) ?_
      refine ql_lald C S dL_law_565 w (fun j24 w => ?_)
      refine lv_iload C.1.1 C.1.2.1 dL_law_566 (lv_at hl 0 rfl) ?_
      refine lv_i2l C.1.1 C.1.2.1 dL_law_568 rfl ?_
      refine W.lcmp C.1.1 C.1.2.1 dL_law_569 ?_
      refine lv_if_eq (tgt := 575) C.1.1 C.1.2.1 dL_law_570 (by decide) (fun c9 => ?_) (fun c9 => ?_)
      · replace w := ql_if w c9
        exact (qm_L_law_575 l hl9 D h0 L9 xs9 a0 Q X p e s m below meth c C hr hlocks htab hX) n hn9 k28 hk28 rl1 rl2 rl3 rl4 xl5 _ _ _ _ S (lv_sub hl [2, 3, 4, 5, 6, 7] rfl) w
      · replace w := ql_ifn w c9
        refine lv_iconst (v := (0 : Int32)) C.1.1 C.1.2.1 dL_law_573 (by decide) ?_
        exact ql_zret C S hr hlocks dL_law_574 ⟨(by show _ ≤ (603072 : Nat); omega), (by show _ ≤ (7190633 : Nat); omega)⟩ w
  · replace w := ql_ifn w c9
    refine lv_iconst (v := (0 : Int32)) C.1.1 C.1.2.1 dL_law_556 (by decide) ?_
    exact ql_zret C S hr hlocks dL_law_557 ⟨(by show _ ≤ (603072 : Nat); omega), (by show _ ≤ (7190633 : Nat); omega)⟩ w
set_option maxHeartbeats 4000000 in
set_option maxRecDepth 100000 in
theorem qm_L_law_643 (l : Launch) (hl9 : l.stackTraces = false) (D : ql_D) (h0 : ql_H) (L9 : Nat) (xs9 : Nat → Int32) (a0 : Nat) (Q : Int32 → ql_H → Prop) (X : String → ql_H → Prop) (p : Program) (e : Env) (s : State) (m : MethodId) (below : List Frame) (meth : Method) (c : Code) (C : ql_C D h0 p m c cL_law 9 s [.ref a0].toArray "ClauseLedgerLaw") (hr : meth.sig.returnType = some .boolean) (hlocks : meth.locks = false) (htab : ∀ x ∈ c.exceptionTable.toList, False) (hX : va_X a0 L9 xs9 s s.heap ∧ a0 < s.heap.size ∧ ¬ ql_A h0 a0) : ∀ n : Nat, n + 1 ≤ 513 → ∀ (k28 : Option Nat → Option Nat → Option Nat → Option Nat → Int32 → ql_H → Prop) (hk28 : ∀ (rl1 : Option Nat) (rl2 : Option Nat) (rl3 : Option Nat) (rl4 : Option Nat) (xl5 : Int32) (h : ql_H) (H : Heap) (locs : List Loc) (ls : Array Slot), ql_S D h0 s H locs h → lv_has ls 9 [(0, .ref a0), (1, va_rf rl1), (2, va_rf rl2), (3, va_rf rl3), (4, va_rf rl4), (5, .int xl5)] → k28 rl1 rl2 rl3 rl4 xl5 h → W p l e ({ frames := 2048, cells := 603072, slots := 7190633, locals := 94400 } : Room) s m ([.ref a0] : List Value).toArray below meth c H locs (1032 + (513 - n) * 21) (15200 + (513 - n) * 5126) (vx_MQ below (ql_Q D h0 (ql_rI Q)) (ql_X D h0 X) ([.ref a0] : List Value).toArray s 603072 7190633 (ql_A h0)) (F0 m 28 ls [])) , ∀ (rl1 : Option Nat) (rl2 : Option Nat) (rl3 : Option Nat) (rl4 : Option Nat) (xl5 : Int32) (h : ql_H) (H : Heap) (locs : List Loc) (ls : Array Slot), ql_S D h0 s H locs h → lv_has ls 9 [(0, .ref a0), (1, va_rf rl1), (2, va_rf rl2), (3, va_rf rl3), (4, va_rf rl4), (5, .int xl5)] → qw_L_law_643 D.2 L9 xs9 a0 Q X k28 rl1 rl2 rl3 rl4 xl5 h → W p l e ({ frames := 2048, cells := 603072, slots := 7190633, locals := 94400 } : Room) s m ([.ref a0] : List Value).toArray below meth c H locs (1033 + (513 - (n + 1)) * 21) (15206 + (513 - (n + 1)) * 5126) (vx_MQ below (ql_Q D h0 (ql_rI Q)) (ql_X D h0 X) ([.ref a0] : List Value).toArray s 603072 7190633 (ql_A h0)) (F0 m 643 ls []) := by
  intro n hn9 k28 hk28 rl1 rl2 rl3 rl4 xl5 h H locs ls S hl w
  unfold qw_L_law_643 at w
  refine lv_goto (tgt := 2957) C.1.1 C.1.2.1 dL_law_643 (by decide) ?_
  refine W.widen (k := (1053 + (513 - (n + 1)) * 21)) (n := (20326 + (513 - (n + 1)) * 5126)) (by omega) (by omega) ?_
  exact (qm_L_law_2957 l hl9 D h0 L9 xs9 a0 Q X p e s m below meth c C hr hlocks htab hX) n hn9 k28 hk28 rl1 rl2 rl3 rl4 xl5 _ _ _ _ S (lv_sub hl [0, 1, 2, 3, 4, 5] rfl) w
set_option maxHeartbeats 4000000 in
set_option maxRecDepth 100000 in
theorem qm_L_law_578 (l : Launch) (hl9 : l.stackTraces = false) (D : ql_D) (h0 : ql_H) (L9 : Nat) (xs9 : Nat → Int32) (a0 : Nat) (Q : Int32 → ql_H → Prop) (X : String → ql_H → Prop) (p : Program) (e : Env) (s : State) (m : MethodId) (below : List Frame) (meth : Method) (c : Code) (C : ql_C D h0 p m c cL_law 9 s [.ref a0].toArray "ClauseLedgerLaw") (hr : meth.sig.returnType = some .boolean) (hlocks : meth.locks = false) (htab : ∀ x ∈ c.exceptionTable.toList, False) (hX : va_X a0 L9 xs9 s s.heap ∧ a0 < s.heap.size ∧ ¬ ql_A h0 a0) : ∀ n : Nat, n + 1 ≤ 513 → ∀ (k28 : Option Nat → Option Nat → Option Nat → Option Nat → Int32 → ql_H → Prop) (hk28 : ∀ (rl1 : Option Nat) (rl2 : Option Nat) (rl3 : Option Nat) (rl4 : Option Nat) (xl5 : Int32) (h : ql_H) (H : Heap) (locs : List Loc) (ls : Array Slot), ql_S D h0 s H locs h → lv_has ls 9 [(0, .ref a0), (1, va_rf rl1), (2, va_rf rl2), (3, va_rf rl3), (4, va_rf rl4), (5, .int xl5)] → k28 rl1 rl2 rl3 rl4 xl5 h → W p l e ({ frames := 2048, cells := 603072, slots := 7190633, locals := 94400 } : Room) s m ([.ref a0] : List Value).toArray below meth c H locs (1032 + (513 - n) * 21) (15200 + (513 - n) * 5126) (vx_MQ below (ql_Q D h0 (ql_rI Q)) (ql_X D h0 X) ([.ref a0] : List Value).toArray s 603072 7190633 (ql_A h0)) (F0 m 28 ls [])) , ∀ (rl1 : Option Nat) (rl2 : Option Nat) (rl3 : Option Nat) (rl4 : Option Nat) (xl5 : Int32) (h : ql_H) (H : Heap) (locs : List Loc) (ls : Array Slot), ql_S D h0 s H locs h → lv_has ls 9 [(0, .ref a0), (1, va_rf rl1), (2, va_rf rl2), (3, va_rf rl3), (4, va_rf rl4), (5, .int xl5)] → qw_L_law_578 D.2 L9 xs9 a0 Q X k28 rl1 rl2 rl3 rl4 xl5 h → W p l e ({ frames := 2048, cells := 603072, slots := 7190633, locals := 94400 } : Room) s m ([.ref a0] : List Value).toArray below meth c H locs (1032 + (513 - (n + 1)) * 21) (15200 + (513 - (n + 1)) * 5126) (vx_MQ below (ql_Q D h0 (ql_rI Q)) (ql_X D h0 X) ([.ref a0] : List Value).toArray s 603072 7190633 (ql_A h0)) (F0 m 578 ls []) := by
  intro n hn9 k28 hk28 rl1 rl2 rl3 rl4 xl5 h H locs ls S hl w
  unfold qw_L_law_578 at w
  refine ql_aload_n (r := rl1) C dL_law_578 rfl (lv_at hl 1 rfl) ?_
  refine ql_aload_n (r := (some a0)) C dL_law_579 rfl (lv_at hl 0 rfl) ?_
  refine lv_iload C.1.1 C.1.2.1 dL_law_580 (lv_at hl 5 rfl) ?_
  refine lv_iconst (v := (1 : Int32)) C.1.1 C.1.2.1 dL_law_582 (by decide) ?_
  refine lv_iadd C.1.1 C.1.2.1 dL_law_583 ?_
  refine ql_sld C S hX w.1 dL_law_584 ?_
  replace w := w.2
  refine ql_aload_n (r := (some a0)) C dL_law_585 rfl (lv_at hl 0 rfl) ?_
  refine lv_iload C.1.1 C.1.2.1 dL_law_586 (lv_at hl 5 rfl) ?_
  refine lv_iconst (v := (2 : Int32)) C.1.1 C.1.2.1 dL_law_588 (by decide) ?_
  refine lv_iadd C.1.1 C.1.2.1 dL_law_589 ?_
  refine ql_sld C S hX w.1 dL_law_590 ?_
  replace w := w.2
  refine ql_aload_n (r := rl3) C dL_law_591 rfl (lv_at hl 3 rfl) ?_
  refine ql_SHI (As := [va_rf rl1, .int (xs9 (xl5 + (1 : Int32)).toNatClampNeg), .int (xs9 (xl5 + (2 : Int32)).toNatClampNeg), va_rf rl3]) (rest := []) C S hl qyh_L_setSunset gw_901 (qm_L_setSunset l hl9 D _ rl1 (xs9 (xl5 + (1 : Int32)).toNatClampNeg) (xs9 (xl5 + (2 : Int32)).toNatClampNeg) rl3 _ _ w) rfl ⟨Nat.le_of_ble_eq_true rfl, Nat.le_of_ble_eq_true rfl⟩ ⟨rfl, rfl⟩ (by exact Nat.le_of_ble_eq_true rfl) rfl dL_law_592 ⟨(by show _ ≤ (603072 : Nat); omega), (by show _ ≤ (7190633 : Nat); omega)⟩ (fun x25 h H locs S w => ?_)
  refine W.cs (cells' := (1033 + (513 - (n + 1)) * 21)) (slots' := (15206 + (513 - (n + 1)) * 5126)) (by omega) (by omega) ?_
  refine lv_istore (lv' := [(6, .int x25), (0, .ref a0), (1, va_rf rl1), (2, va_rf rl2), (3, va_rf rl3), (4, va_rf rl4), (5, .int xl5)]) C.1.1 C.1.2.1 dL_law_595 hl (by decide) rfl (fun ls hl => ?_)
  refine ql_aload_n (r := rl2) C dL_law_597 rfl (lv_at hl 3 rfl) ?_
  refine ql_aload_n (r := (some a0)) C dL_law_598 rfl (lv_at hl 1 rfl) ?_
  refine lv_iload C.1.1 C.1.2.1 dL_law_599 (lv_at hl 6 rfl) ?_
  refine lv_iconst (v := (1 : Int32)) C.1.1 C.1.2.1 dL_law_601 (by decide) ?_
  refine lv_iadd C.1.1 C.1.2.1 dL_law_602 ?_
  refine ql_sld C S hX w.1 dL_law_603 ?_
  replace w := w.2
  refine ql_aload_n (r := (some a0)) C dL_law_604 rfl (lv_at hl 1 rfl) ?_
  refine lv_iload C.1.1 C.1.2.1 dL_law_605 (lv_at hl 6 rfl) ?_
  refine lv_iconst (v := (2 : Int32)) C.1.1 C.1.2.1 dL_law_607 (by decide) ?_
  refine lv_iadd C.1.1 C.1.2.1 dL_law_608 ?_
  refine ql_sld C S hX w.1 dL_law_609 ?_
  replace w := w.2
  refine ql_VI (As := [.int (xs9 (xl5 + (1 : Int32)).toNatClampNeg), .int (xs9 (xl5 + (2 : Int32)).toNatClampNeg)]) (rest := []) C S htab hlocks hl qy_X12_setSunset qi_X12_setSunset qs_X12_setSunset gw_1808 (ci := 13) rfl w (fun b w => qm_X12_setSunset l hl9 D _ b (xs9 (xl5 + (1 : Int32)).toNatClampNeg) (xs9 (xl5 + (2 : Int32)).toNatClampNeg) _ _ w) rfl ⟨Nat.le_of_ble_eq_true rfl, Nat.le_of_ble_eq_true rfl⟩ ⟨rfl, rfl⟩ (by exact Nat.le_of_ble_eq_true rfl) (fun b e9 => by cases e9; rfl) dL_law_610 ⟨(by show _ ≤ (603072 : Nat); omega), (by show _ ≤ (7190633 : Nat); omega)⟩ ⟨(by show _ ≤ (603072 : Nat); omega), (by show _ ≤ (7190633 : Nat); omega)⟩ (fun x26 h H locs S w => ?_)
  refine W.cs (cells' := (1033 + (513 - (n + 1)) * 21)) (slots' := (15206 + (513 - (n + 1)) * 5126)) (by omega) (by omega) ?_
  refine lv_istore (lv' := [(7, .int x26), (6, .int x25), (0, .ref a0), (1, va_rf rl1), (2, va_rf rl2), (3, va_rf rl3), (4, va_rf rl4), (5, .int xl5)]) C.1.1 C.1.2.1 dL_law_613 hl (by decide) rfl (fun ls hl => ?_)
  refine ql_aload_n (r := rl2) C dL_law_615 rfl (lv_at hl 4 rfl) ?_
  refine ql_VI (As := []) (rest := []) C S htab hlocks hl qy_X12_thrown qi_X12_thrown qs_X12_thrown gw_1727 (ci := 13) rfl w (fun b w => qm_X12_thrown l hl9 D _ b _ _ w) rfl ⟨Nat.le_of_ble_eq_true rfl, Nat.le_of_ble_eq_true rfl⟩ ⟨rfl, rfl⟩ (by exact Nat.le_of_ble_eq_true rfl) (fun b e9 => by cases e9; rfl) dL_law_616 ⟨(by show _ ≤ (603072 : Nat); omega), (by show _ ≤ (7190633 : Nat); omega)⟩ ⟨(by show _ ≤ (603072 : Nat); omega), (by show _ ≤ (7190633 : Nat); omega)⟩ (fun x28 h H locs S w => ?_)
  refine W.cs (cells' := (1033 + (513 - (n + 1)) * 21)) (slots' := (15206 + (513 - (n + 1)) * 5126)) (by omega) (by omega) ?_
  refine lv_iload C.1.1 C.1.2.1 dL_law_619 (lv_at hl 1 rfl) ?_
  refine lv_icmp_eq (tgt := 626) C.1.1 C.1.2.1 dL_law_621 (by decide) (fun c9 => ?_) (fun c9 => ?_)
  · replace w := ql_if w c9
    refine lv_iload C.1.1 C.1.2.1 dL_law_626 (lv_at hl 1 rfl) ?_
    refine lv_if_ne (tgt := 643) C.1.1 C.1.2.1 dL_law_628 (by decide) (fun c9 => ?_) (fun c9 => ?_)
    · replace w := ql_ifn w c9
      exact (qm_L_law_643 l hl9 D h0 L9 xs9 a0 Q X p e s m below meth c C hr hlocks htab hX) n hn9 k28 hk28 rl1 rl2 rl3 rl4 xl5 _ _ _ _ S (lv_sub hl [2, 3, 4, 5, 6, 7] rfl) w
    · replace w := ql_if w c9
      refine ql_aload_n (r := rl3) C dL_law_631 rfl (lv_at hl 5 rfl) ?_
      refine lv_iconst (v := (0 : Int32)) C.1.1 C.1.2.1 dL_law_632 (by decide) ?_
      refine ql_lald C S dL_law_633 w (fun j30 w => ?_)
      refine lv_iload C.1.1 C.1.2.1 dL_law_634 (lv_at hl 0 rfl) ?_
      refine lv_i2l C.1.1 C.1.2.1 dL_law_636 rfl ?_
      refine W.lcmp C.1.1 C.1.2.1 dL_law_637 ?_
      refine lv_if_eq (tgt := 643) C.1.1 C.1.2.1 dL_law_638 (by decide) (fun c9 => ?_) (fun c9 => ?_)
      · replace w := ql_if w c9
        exact (qm_L_law_643 l hl9 D h0 L9 xs9 a0 Q X p e s m below meth c C hr hlocks htab hX) n hn9 k28 hk28 rl1 rl2 rl3 rl4 xl5 _ _ _ _ S (lv_sub hl [2, 3, 4, 5, 6, 7] rfl) w
      · replace w := ql_ifn w c9
        refine lv_iconst (v := (0 : Int32)) C.1.1 C.1.2.1 dL_law_641 (by decide) ?_
        exact ql_zret C S hr hlocks dL_law_642 ⟨(by show _ ≤ (603072 : Nat); omega), (by show _ ≤ (7190633 : Nat); omega)⟩ w
  · replace w := ql_ifn w c9
    refine lv_iconst (v := (0 : Int32)) C.1.1 C.1.2.1 dL_law_624 (by decide) ?_
    exact ql_zret C S hr hlocks dL_law_625 ⟨(by show _ ≤ (603072 : Nat); omega), (by show _ ≤ (7190633 : Nat); omega)⟩ w
set_option maxHeartbeats 4000000 in
set_option maxRecDepth 100000 in
theorem qm_L_law_711 (l : Launch) (hl9 : l.stackTraces = false) (D : ql_D) (h0 : ql_H) (L9 : Nat) (xs9 : Nat → Int32) (a0 : Nat) (Q : Int32 → ql_H → Prop) (X : String → ql_H → Prop) (p : Program) (e : Env) (s : State) (m : MethodId) (below : List Frame) (meth : Method) (c : Code) (C : ql_C D h0 p m c cL_law 9 s [.ref a0].toArray "ClauseLedgerLaw") (hr : meth.sig.returnType = some .boolean) (hlocks : meth.locks = false) (htab : ∀ x ∈ c.exceptionTable.toList, False) (hX : va_X a0 L9 xs9 s s.heap ∧ a0 < s.heap.size ∧ ¬ ql_A h0 a0) : ∀ n : Nat, n + 1 ≤ 513 → ∀ (k28 : Option Nat → Option Nat → Option Nat → Option Nat → Int32 → ql_H → Prop) (hk28 : ∀ (rl1 : Option Nat) (rl2 : Option Nat) (rl3 : Option Nat) (rl4 : Option Nat) (xl5 : Int32) (h : ql_H) (H : Heap) (locs : List Loc) (ls : Array Slot), ql_S D h0 s H locs h → lv_has ls 9 [(0, .ref a0), (1, va_rf rl1), (2, va_rf rl2), (3, va_rf rl3), (4, va_rf rl4), (5, .int xl5)] → k28 rl1 rl2 rl3 rl4 xl5 h → W p l e ({ frames := 2048, cells := 603072, slots := 7190633, locals := 94400 } : Room) s m ([.ref a0] : List Value).toArray below meth c H locs (1032 + (513 - n) * 21) (15200 + (513 - n) * 5126) (vx_MQ below (ql_Q D h0 (ql_rI Q)) (ql_X D h0 X) ([.ref a0] : List Value).toArray s 603072 7190633 (ql_A h0)) (F0 m 28 ls [])) , ∀ (rl1 : Option Nat) (rl2 : Option Nat) (rl3 : Option Nat) (rl4 : Option Nat) (xl5 : Int32) (h : ql_H) (H : Heap) (locs : List Loc) (ls : Array Slot), ql_S D h0 s H locs h → lv_has ls 9 [(0, .ref a0), (1, va_rf rl1), (2, va_rf rl2), (3, va_rf rl3), (4, va_rf rl4), (5, .int xl5)] → qw_L_law_711 D.2 L9 xs9 a0 Q X k28 rl1 rl2 rl3 rl4 xl5 h → W p l e ({ frames := 2048, cells := 603072, slots := 7190633, locals := 94400 } : Room) s m ([.ref a0] : List Value).toArray below meth c H locs (1033 + (513 - (n + 1)) * 21) (15206 + (513 - (n + 1)) * 5126) (vx_MQ below (ql_Q D h0 (ql_rI Q)) (ql_X D h0 X) ([.ref a0] : List Value).toArray s 603072 7190633 (ql_A h0)) (F0 m 711 ls []) := by
  intro n hn9 k28 hk28 rl1 rl2 rl3 rl4 xl5 h H locs ls S hl w
  unfold qw_L_law_711 at w
  refine lv_goto (tgt := 2957) C.1.1 C.1.2.1 dL_law_711 (by decide) ?_
  refine W.widen (k := (1053 + (513 - (n + 1)) * 21)) (n := (20326 + (513 - (n + 1)) * 5126)) (by omega) (by omega) ?_
  exact (qm_L_law_2957 l hl9 D h0 L9 xs9 a0 Q X p e s m below meth c C hr hlocks htab hX) n hn9 k28 hk28 rl1 rl2 rl3 rl4 xl5 _ _ _ _ S (lv_sub hl [0, 1, 2, 3, 4, 5] rfl) w
set_option maxHeartbeats 4000000 in
set_option maxRecDepth 100000 in
theorem qm_L_law_646 (l : Launch) (hl9 : l.stackTraces = false) (D : ql_D) (h0 : ql_H) (L9 : Nat) (xs9 : Nat → Int32) (a0 : Nat) (Q : Int32 → ql_H → Prop) (X : String → ql_H → Prop) (p : Program) (e : Env) (s : State) (m : MethodId) (below : List Frame) (meth : Method) (c : Code) (C : ql_C D h0 p m c cL_law 9 s [.ref a0].toArray "ClauseLedgerLaw") (hr : meth.sig.returnType = some .boolean) (hlocks : meth.locks = false) (htab : ∀ x ∈ c.exceptionTable.toList, False) (hX : va_X a0 L9 xs9 s s.heap ∧ a0 < s.heap.size ∧ ¬ ql_A h0 a0) : ∀ n : Nat, n + 1 ≤ 513 → ∀ (k28 : Option Nat → Option Nat → Option Nat → Option Nat → Int32 → ql_H → Prop) (hk28 : ∀ (rl1 : Option Nat) (rl2 : Option Nat) (rl3 : Option Nat) (rl4 : Option Nat) (xl5 : Int32) (h : ql_H) (H : Heap) (locs : List Loc) (ls : Array Slot), ql_S D h0 s H locs h → lv_has ls 9 [(0, .ref a0), (1, va_rf rl1), (2, va_rf rl2), (3, va_rf rl3), (4, va_rf rl4), (5, .int xl5)] → k28 rl1 rl2 rl3 rl4 xl5 h → W p l e ({ frames := 2048, cells := 603072, slots := 7190633, locals := 94400 } : Room) s m ([.ref a0] : List Value).toArray below meth c H locs (1032 + (513 - n) * 21) (15200 + (513 - n) * 5126) (vx_MQ below (ql_Q D h0 (ql_rI Q)) (ql_X D h0 X) ([.ref a0] : List Value).toArray s 603072 7190633 (ql_A h0)) (F0 m 28 ls [])) , ∀ (rl1 : Option Nat) (rl2 : Option Nat) (rl3 : Option Nat) (rl4 : Option Nat) (xl5 : Int32) (h : ql_H) (H : Heap) (locs : List Loc) (ls : Array Slot), ql_S D h0 s H locs h → lv_has ls 9 [(0, .ref a0), (1, va_rf rl1), (2, va_rf rl2), (3, va_rf rl3), (4, va_rf rl4), (5, .int xl5)] → qw_L_law_646 D.2 L9 xs9 a0 Q X k28 rl1 rl2 rl3 rl4 xl5 h → W p l e ({ frames := 2048, cells := 603072, slots := 7190633, locals := 94400 } : Room) s m ([.ref a0] : List Value).toArray below meth c H locs (1032 + (513 - (n + 1)) * 21) (15200 + (513 - (n + 1)) * 5126) (vx_MQ below (ql_Q D h0 (ql_rI Q)) (ql_X D h0 X) ([.ref a0] : List Value).toArray s 603072 7190633 (ql_A h0)) (F0 m 646 ls []) := by
  intro n hn9 k28 hk28 rl1 rl2 rl3 rl4 xl5 h H locs ls S hl w
  unfold qw_L_law_646 at w
  refine ql_aload_n (r := rl1) C dL_law_646 rfl (lv_at hl 1 rfl) ?_
  refine ql_aload_n (r := (some a0)) C dL_law_647 rfl (lv_at hl 0 rfl) ?_
  refine lv_iload C.1.1 C.1.2.1 dL_law_648 (lv_at hl 5 rfl) ?_
  refine lv_iconst (v := (1 : Int32)) C.1.1 C.1.2.1 dL_law_650 (by decide) ?_
  refine lv_iadd C.1.1 C.1.2.1 dL_law_651 ?_
  refine ql_sld C S hX w.1 dL_law_652 ?_
  replace w := w.2
  refine ql_aload_n (r := (some a0)) C dL_law_653 rfl (lv_at hl 0 rfl) ?_
  refine lv_iload C.1.1 C.1.2.1 dL_law_654 (lv_at hl 5 rfl) ?_
  refine lv_iconst (v := (2 : Int32)) C.1.1 C.1.2.1 dL_law_656 (by decide) ?_
  refine lv_iadd C.1.1 C.1.2.1 dL_law_657 ?_
  refine ql_sld C S hX w.1 dL_law_658 ?_
  replace w := w.2
  refine ql_aload_n (r := rl3) C dL_law_659 rfl (lv_at hl 3 rfl) ?_
  refine ql_SHI (As := [va_rf rl1, .int (xs9 (xl5 + (1 : Int32)).toNatClampNeg), .int (xs9 (xl5 + (2 : Int32)).toNatClampNeg), va_rf rl3]) (rest := []) C S hl qyh_L_cite gw_912 (qm_L_cite l hl9 D _ rl1 (xs9 (xl5 + (1 : Int32)).toNatClampNeg) (xs9 (xl5 + (2 : Int32)).toNatClampNeg) rl3 _ _ w) rfl ⟨Nat.le_of_ble_eq_true rfl, Nat.le_of_ble_eq_true rfl⟩ ⟨rfl, rfl⟩ (by exact Nat.le_of_ble_eq_true rfl) rfl dL_law_660 ⟨(by show _ ≤ (603072 : Nat); omega), (by show _ ≤ (7190633 : Nat); omega)⟩ (fun x31 h H locs S w => ?_)
  refine W.cs (cells' := (1033 + (513 - (n + 1)) * 21)) (slots' := (15206 + (513 - (n + 1)) * 5126)) (by omega) (by omega) ?_
  refine lv_istore (lv' := [(6, .int x31), (0, .ref a0), (1, va_rf rl1), (2, va_rf rl2), (3, va_rf rl3), (4, va_rf rl4), (5, .int xl5)]) C.1.1 C.1.2.1 dL_law_663 hl (by decide) rfl (fun ls hl => ?_)
  refine ql_aload_n (r := rl2) C dL_law_665 rfl (lv_at hl 3 rfl) ?_
  refine ql_aload_n (r := (some a0)) C dL_law_666 rfl (lv_at hl 1 rfl) ?_
  refine lv_iload C.1.1 C.1.2.1 dL_law_667 (lv_at hl 6 rfl) ?_
  refine lv_iconst (v := (1 : Int32)) C.1.1 C.1.2.1 dL_law_669 (by decide) ?_
  refine lv_iadd C.1.1 C.1.2.1 dL_law_670 ?_
  refine ql_sld C S hX w.1 dL_law_671 ?_
  replace w := w.2
  refine ql_aload_n (r := (some a0)) C dL_law_672 rfl (lv_at hl 1 rfl) ?_
  refine lv_iload C.1.1 C.1.2.1 dL_law_673 (lv_at hl 6 rfl) ?_
  refine lv_iconst (v := (2 : Int32)) C.1.1 C.1.2.1 dL_law_675 (by decide) ?_
  refine lv_iadd C.1.1 C.1.2.1 dL_law_676 ?_
  refine ql_sld C S hX w.1 dL_law_677 ?_
  replace w := w.2
  refine ql_VI (As := [.int (xs9 (xl5 + (1 : Int32)).toNatClampNeg), .int (xs9 (xl5 + (2 : Int32)).toNatClampNeg)]) (rest := []) C S htab hlocks hl qy_X12_cite qi_X12_cite qs_X12_cite gw_1816 (ci := 13) rfl w (fun b w => qm_X12_cite l hl9 D _ b (xs9 (xl5 + (1 : Int32)).toNatClampNeg) (xs9 (xl5 + (2 : Int32)).toNatClampNeg) _ _ w) rfl ⟨Nat.le_of_ble_eq_true rfl, Nat.le_of_ble_eq_true rfl⟩ ⟨rfl, rfl⟩ (by exact Nat.le_of_ble_eq_true rfl) (fun b e9 => by cases e9; rfl) dL_law_678 ⟨(by show _ ≤ (603072 : Nat); omega), (by show _ ≤ (7190633 : Nat); omega)⟩ ⟨(by show _ ≤ (603072 : Nat); omega), (by show _ ≤ (7190633 : Nat); omega)⟩ (fun x32 h H locs S w => ?_)
  refine W.cs (cells' := (1033 + (513 - (n + 1)) * 21)) (slots' := (15206 + (513 - (n + 1)) * 5126)) (by omega) (by omega) ?_
  refine lv_istore (lv' := [(7, .int x32), (6, .int x31), (0, .ref a0), (1, va_rf rl1), (2, va_rf rl2), (3, va_rf rl3), (4, va_rf rl4), (5, .int xl5)]) C.1.1 C.1.2.1 dL_law_681 hl (by decide) rfl (fun ls hl => ?_)
  refine ql_aload_n (r := rl2) C dL_law_683 rfl (lv_at hl 4 rfl) ?_
  refine ql_VI (As := []) (rest := []) C S htab hlocks hl qy_X12_thrown qi_X12_thrown qs_X12_thrown gw_1727 (ci := 13) rfl w (fun b w => qm_X12_thrown l hl9 D _ b _ _ w) rfl ⟨Nat.le_of_ble_eq_true rfl, Nat.le_of_ble_eq_true rfl⟩ ⟨rfl, rfl⟩ (by exact Nat.le_of_ble_eq_true rfl) (fun b e9 => by cases e9; rfl) dL_law_684 ⟨(by show _ ≤ (603072 : Nat); omega), (by show _ ≤ (7190633 : Nat); omega)⟩ ⟨(by show _ ≤ (603072 : Nat); omega), (by show _ ≤ (7190633 : Nat); omega)⟩ (fun x34 h H locs S w => ?_)
  refine W.cs (cells' := (1033 + (513 - (n + 1)) * 21)) (slots' := (15206 + (513 - (n + 1)) * 5126)) (by omega) (by omega) ?_
  refine lv_iload C.1.1 C.1.2.1 dL_law_687 (lv_at hl 1 rfl) ?_
  refine lv_icmp_eq (tgt := 694) C.1.1 C.1.2.1 dL_law_689 (by decide) (fun c9 => ?_) (fun c9 => ?_)
  · replace w := ql_if w c9
    refine lv_iload C.1.1 C.1.2.1 dL_law_694 (lv_at hl 1 rfl) ?_
    refine lv_if_ne (tgt := 711) C.1.1 C.1.2.1 dL_law_696 (by decide) (fun c9 => ?_) (fun c9 => ?_)
    · replace w := ql_ifn w c9
      exact (qm_L_law_711 l hl9 D h0 L9 xs9 a0 Q X p e s m below meth c C hr hlocks htab hX) n hn9 k28 hk28 rl1 rl2 rl3 rl4 xl5 _ _ _ _ S (lv_sub hl [2, 3, 4, 5, 6, 7] rfl) w
    · replace w := ql_if w c9
      refine ql_aload_n (r := rl3) C dL_law_699 rfl (lv_at hl 5 rfl) ?_
      refine lv_iconst (v := (0 : Int32)) C.1.1 C.1.2.1 dL_law_700 (by decide) ?_
      refine ql_lald C S dL_law_701 w (fun j36 w => ?_)
      refine lv_iload C.1.1 C.1.2.1 dL_law_702 (lv_at hl 0 rfl) ?_
      refine lv_i2l C.1.1 C.1.2.1 dL_law_704 rfl ?_
      refine W.lcmp C.1.1 C.1.2.1 dL_law_705 ?_
      refine lv_if_eq (tgt := 711) C.1.1 C.1.2.1 dL_law_706 (by decide) (fun c9 => ?_) (fun c9 => ?_)
      · replace w := ql_if w c9
        exact (qm_L_law_711 l hl9 D h0 L9 xs9 a0 Q X p e s m below meth c C hr hlocks htab hX) n hn9 k28 hk28 rl1 rl2 rl3 rl4 xl5 _ _ _ _ S (lv_sub hl [2, 3, 4, 5, 6, 7] rfl) w
      · replace w := ql_ifn w c9
        refine lv_iconst (v := (0 : Int32)) C.1.1 C.1.2.1 dL_law_709 (by decide) ?_
        exact ql_zret C S hr hlocks dL_law_710 ⟨(by show _ ≤ (603072 : Nat); omega), (by show _ ≤ (7190633 : Nat); omega)⟩ w
  · replace w := ql_ifn w c9
    refine lv_iconst (v := (0 : Int32)) C.1.1 C.1.2.1 dL_law_692 (by decide) ?_
    exact ql_zret C S hr hlocks dL_law_693 ⟨(by show _ ≤ (603072 : Nat); omega), (by show _ ≤ (7190633 : Nat); omega)⟩ w
set_option maxHeartbeats 4000000 in
set_option maxRecDepth 100000 in
theorem qm_L_law_779 (l : Launch) (hl9 : l.stackTraces = false) (D : ql_D) (h0 : ql_H) (L9 : Nat) (xs9 : Nat → Int32) (a0 : Nat) (Q : Int32 → ql_H → Prop) (X : String → ql_H → Prop) (p : Program) (e : Env) (s : State) (m : MethodId) (below : List Frame) (meth : Method) (c : Code) (C : ql_C D h0 p m c cL_law 9 s [.ref a0].toArray "ClauseLedgerLaw") (hr : meth.sig.returnType = some .boolean) (hlocks : meth.locks = false) (htab : ∀ x ∈ c.exceptionTable.toList, False) (hX : va_X a0 L9 xs9 s s.heap ∧ a0 < s.heap.size ∧ ¬ ql_A h0 a0) : ∀ n : Nat, n + 1 ≤ 513 → ∀ (k28 : Option Nat → Option Nat → Option Nat → Option Nat → Int32 → ql_H → Prop) (hk28 : ∀ (rl1 : Option Nat) (rl2 : Option Nat) (rl3 : Option Nat) (rl4 : Option Nat) (xl5 : Int32) (h : ql_H) (H : Heap) (locs : List Loc) (ls : Array Slot), ql_S D h0 s H locs h → lv_has ls 9 [(0, .ref a0), (1, va_rf rl1), (2, va_rf rl2), (3, va_rf rl3), (4, va_rf rl4), (5, .int xl5)] → k28 rl1 rl2 rl3 rl4 xl5 h → W p l e ({ frames := 2048, cells := 603072, slots := 7190633, locals := 94400 } : Room) s m ([.ref a0] : List Value).toArray below meth c H locs (1032 + (513 - n) * 21) (15200 + (513 - n) * 5126) (vx_MQ below (ql_Q D h0 (ql_rI Q)) (ql_X D h0 X) ([.ref a0] : List Value).toArray s 603072 7190633 (ql_A h0)) (F0 m 28 ls [])) , ∀ (rl1 : Option Nat) (rl2 : Option Nat) (rl3 : Option Nat) (rl4 : Option Nat) (xl5 : Int32) (h : ql_H) (H : Heap) (locs : List Loc) (ls : Array Slot), ql_S D h0 s H locs h → lv_has ls 9 [(0, .ref a0), (1, va_rf rl1), (2, va_rf rl2), (3, va_rf rl3), (4, va_rf rl4), (5, .int xl5)] → qw_L_law_779 D.2 L9 xs9 a0 Q X k28 rl1 rl2 rl3 rl4 xl5 h → W p l e ({ frames := 2048, cells := 603072, slots := 7190633, locals := 94400 } : Room) s m ([.ref a0] : List Value).toArray below meth c H locs (1033 + (513 - (n + 1)) * 21) (15206 + (513 - (n + 1)) * 5126) (vx_MQ below (ql_Q D h0 (ql_rI Q)) (ql_X D h0 X) ([.ref a0] : List Value).toArray s 603072 7190633 (ql_A h0)) (F0 m 779 ls []) := by
  intro n hn9 k28 hk28 rl1 rl2 rl3 rl4 xl5 h H locs ls S hl w
  unfold qw_L_law_779 at w
  refine lv_goto (tgt := 2957) C.1.1 C.1.2.1 dL_law_779 (by decide) ?_
  refine W.widen (k := (1053 + (513 - (n + 1)) * 21)) (n := (20326 + (513 - (n + 1)) * 5126)) (by omega) (by omega) ?_
  exact (qm_L_law_2957 l hl9 D h0 L9 xs9 a0 Q X p e s m below meth c C hr hlocks htab hX) n hn9 k28 hk28 rl1 rl2 rl3 rl4 xl5 _ _ _ _ S (lv_sub hl [0, 1, 2, 3, 4, 5] rfl) w
set_option maxHeartbeats 4000000 in
set_option maxRecDepth 100000 in
theorem qm_L_law_714 (l : Launch) (hl9 : l.stackTraces = false) (D : ql_D) (h0 : ql_H) (L9 : Nat) (xs9 : Nat → Int32) (a0 : Nat) (Q : Int32 → ql_H → Prop) (X : String → ql_H → Prop) (p : Program) (e : Env) (s : State) (m : MethodId) (below : List Frame) (meth : Method) (c : Code) (C : ql_C D h0 p m c cL_law 9 s [.ref a0].toArray "ClauseLedgerLaw") (hr : meth.sig.returnType = some .boolean) (hlocks : meth.locks = false) (htab : ∀ x ∈ c.exceptionTable.toList, False) (hX : va_X a0 L9 xs9 s s.heap ∧ a0 < s.heap.size ∧ ¬ ql_A h0 a0) : ∀ n : Nat, n + 1 ≤ 513 → ∀ (k28 : Option Nat → Option Nat → Option Nat → Option Nat → Int32 → ql_H → Prop) (hk28 : ∀ (rl1 : Option Nat) (rl2 : Option Nat) (rl3 : Option Nat) (rl4 : Option Nat) (xl5 : Int32) (h : ql_H) (H : Heap) (locs : List Loc) (ls : Array Slot), ql_S D h0 s H locs h → lv_has ls 9 [(0, .ref a0), (1, va_rf rl1), (2, va_rf rl2), (3, va_rf rl3), (4, va_rf rl4), (5, .int xl5)] → k28 rl1 rl2 rl3 rl4 xl5 h → W p l e ({ frames := 2048, cells := 603072, slots := 7190633, locals := 94400 } : Room) s m ([.ref a0] : List Value).toArray below meth c H locs (1032 + (513 - n) * 21) (15200 + (513 - n) * 5126) (vx_MQ below (ql_Q D h0 (ql_rI Q)) (ql_X D h0 X) ([.ref a0] : List Value).toArray s 603072 7190633 (ql_A h0)) (F0 m 28 ls [])) , ∀ (rl1 : Option Nat) (rl2 : Option Nat) (rl3 : Option Nat) (rl4 : Option Nat) (xl5 : Int32) (h : ql_H) (H : Heap) (locs : List Loc) (ls : Array Slot), ql_S D h0 s H locs h → lv_has ls 9 [(0, .ref a0), (1, va_rf rl1), (2, va_rf rl2), (3, va_rf rl3), (4, va_rf rl4), (5, .int xl5)] → qw_L_law_714 D.2 L9 xs9 a0 Q X k28 rl1 rl2 rl3 rl4 xl5 h → W p l e ({ frames := 2048, cells := 603072, slots := 7190633, locals := 94400 } : Room) s m ([.ref a0] : List Value).toArray below meth c H locs (1032 + (513 - (n + 1)) * 21) (15200 + (513 - (n + 1)) * 5126) (vx_MQ below (ql_Q D h0 (ql_rI Q)) (ql_X D h0 X) ([.ref a0] : List Value).toArray s 603072 7190633 (ql_A h0)) (F0 m 714 ls []) := by
  intro n hn9 k28 hk28 rl1 rl2 rl3 rl4 xl5 h H locs ls S hl w
  unfold qw_L_law_714 at w
  refine ql_aload_n (r := rl1) C dL_law_714 rfl (lv_at hl 1 rfl) ?_
  refine ql_aload_n (r := (some a0)) C dL_law_715 rfl (lv_at hl 0 rfl) ?_
  refine lv_iload C.1.1 C.1.2.1 dL_law_716 (lv_at hl 5 rfl) ?_
  refine lv_iconst (v := (1 : Int32)) C.1.1 C.1.2.1 dL_law_718 (by decide) ?_
  refine lv_iadd C.1.1 C.1.2.1 dL_law_719 ?_
  refine ql_sld C S hX w.1 dL_law_720 ?_
  replace w := w.2
  refine ql_aload_n (r := (some a0)) C dL_law_721 rfl (lv_at hl 0 rfl) ?_
  refine lv_iload C.1.1 C.1.2.1 dL_law_722 (lv_at hl 5 rfl) ?_
  refine lv_iconst (v := (2 : Int32)) C.1.1 C.1.2.1 dL_law_724 (by decide) ?_
  refine lv_iadd C.1.1 C.1.2.1 dL_law_725 ?_
  refine ql_sld C S hX w.1 dL_law_726 ?_
  replace w := w.2
  refine ql_aload_n (r := rl3) C dL_law_727 rfl (lv_at hl 3 rfl) ?_
  refine ql_SHI (As := [va_rf rl1, .int (xs9 (xl5 + (1 : Int32)).toNatClampNeg), .int (xs9 (xl5 + (2 : Int32)).toNatClampNeg), va_rf rl3]) (rest := []) C S hl qyh_L_uncite gw_931 (qm_L_uncite l hl9 D _ rl1 (xs9 (xl5 + (1 : Int32)).toNatClampNeg) (xs9 (xl5 + (2 : Int32)).toNatClampNeg) rl3 _ _ w) rfl ⟨Nat.le_of_ble_eq_true rfl, Nat.le_of_ble_eq_true rfl⟩ ⟨rfl, rfl⟩ (by exact Nat.le_of_ble_eq_true rfl) rfl dL_law_728 ⟨(by show _ ≤ (603072 : Nat); omega), (by show _ ≤ (7190633 : Nat); omega)⟩ (fun x37 h H locs S w => ?_)
  refine W.cs (cells' := (1033 + (513 - (n + 1)) * 21)) (slots' := (15206 + (513 - (n + 1)) * 5126)) (by omega) (by omega) ?_
  refine lv_istore (lv' := [(6, .int x37), (0, .ref a0), (1, va_rf rl1), (2, va_rf rl2), (3, va_rf rl3), (4, va_rf rl4), (5, .int xl5)]) C.1.1 C.1.2.1 dL_law_731 hl (by decide) rfl (fun ls hl => ?_)
  refine ql_aload_n (r := rl2) C dL_law_733 rfl (lv_at hl 3 rfl) ?_
  refine ql_aload_n (r := (some a0)) C dL_law_734 rfl (lv_at hl 1 rfl) ?_
  refine lv_iload C.1.1 C.1.2.1 dL_law_735 (lv_at hl 6 rfl) ?_
  refine lv_iconst (v := (1 : Int32)) C.1.1 C.1.2.1 dL_law_737 (by decide) ?_
  refine lv_iadd C.1.1 C.1.2.1 dL_law_738 ?_
  refine ql_sld C S hX w.1 dL_law_739 ?_
  replace w := w.2
  refine ql_aload_n (r := (some a0)) C dL_law_740 rfl (lv_at hl 1 rfl) ?_
  refine lv_iload C.1.1 C.1.2.1 dL_law_741 (lv_at hl 6 rfl) ?_
  refine lv_iconst (v := (2 : Int32)) C.1.1 C.1.2.1 dL_law_743 (by decide) ?_
  refine lv_iadd C.1.1 C.1.2.1 dL_law_744 ?_
  refine ql_sld C S hX w.1 dL_law_745 ?_
  replace w := w.2
  refine ql_VI (As := [.int (xs9 (xl5 + (1 : Int32)).toNatClampNeg), .int (xs9 (xl5 + (2 : Int32)).toNatClampNeg)]) (rest := []) C S htab hlocks hl qy_X12_uncite qi_X12_uncite qs_X12_uncite gw_1824 (ci := 13) rfl w (fun b w => qm_X12_uncite l hl9 D _ b (xs9 (xl5 + (1 : Int32)).toNatClampNeg) (xs9 (xl5 + (2 : Int32)).toNatClampNeg) _ _ w) rfl ⟨Nat.le_of_ble_eq_true rfl, Nat.le_of_ble_eq_true rfl⟩ ⟨rfl, rfl⟩ (by exact Nat.le_of_ble_eq_true rfl) (fun b e9 => by cases e9; rfl) dL_law_746 ⟨(by show _ ≤ (603072 : Nat); omega), (by show _ ≤ (7190633 : Nat); omega)⟩ ⟨(by show _ ≤ (603072 : Nat); omega), (by show _ ≤ (7190633 : Nat); omega)⟩ (fun x38 h H locs S w => ?_)
  refine W.cs (cells' := (1033 + (513 - (n + 1)) * 21)) (slots' := (15206 + (513 - (n + 1)) * 5126)) (by omega) (by omega) ?_
  refine lv_istore (lv' := [(7, .int x38), (6, .int x37), (0, .ref a0), (1, va_rf rl1), (2, va_rf rl2), (3, va_rf rl3), (4, va_rf rl4), (5, .int xl5)]) C.1.1 C.1.2.1 dL_law_749 hl (by decide) rfl (fun ls hl => ?_)
  refine ql_aload_n (r := rl2) C dL_law_751 rfl (lv_at hl 4 rfl) ?_
  refine ql_VI (As := []) (rest := []) C S htab hlocks hl qy_X12_thrown qi_X12_thrown qs_X12_thrown gw_1727 (ci := 13) rfl w (fun b w => qm_X12_thrown l hl9 D _ b _ _ w) rfl ⟨Nat.le_of_ble_eq_true rfl, Nat.le_of_ble_eq_true rfl⟩ ⟨rfl, rfl⟩ (by exact Nat.le_of_ble_eq_true rfl) (fun b e9 => by cases e9; rfl) dL_law_752 ⟨(by show _ ≤ (603072 : Nat); omega), (by show _ ≤ (7190633 : Nat); omega)⟩ ⟨(by show _ ≤ (603072 : Nat); omega), (by show _ ≤ (7190633 : Nat); omega)⟩ (fun x40 h H locs S w => ?_)
  refine W.cs (cells' := (1033 + (513 - (n + 1)) * 21)) (slots' := (15206 + (513 - (n + 1)) * 5126)) (by omega) (by omega) ?_
  refine lv_iload C.1.1 C.1.2.1 dL_law_755 (lv_at hl 1 rfl) ?_
  refine lv_icmp_eq (tgt := 762) C.1.1 C.1.2.1 dL_law_757 (by decide) (fun c9 => ?_) (fun c9 => ?_)
  · replace w := ql_if w c9
    refine lv_iload C.1.1 C.1.2.1 dL_law_762 (lv_at hl 1 rfl) ?_
    refine lv_if_ne (tgt := 779) C.1.1 C.1.2.1 dL_law_764 (by decide) (fun c9 => ?_) (fun c9 => ?_)
    · replace w := ql_ifn w c9
      exact (qm_L_law_779 l hl9 D h0 L9 xs9 a0 Q X p e s m below meth c C hr hlocks htab hX) n hn9 k28 hk28 rl1 rl2 rl3 rl4 xl5 _ _ _ _ S (lv_sub hl [2, 3, 4, 5, 6, 7] rfl) w
    · replace w := ql_if w c9
      refine ql_aload_n (r := rl3) C dL_law_767 rfl (lv_at hl 5 rfl) ?_
      refine lv_iconst (v := (0 : Int32)) C.1.1 C.1.2.1 dL_law_768 (by decide) ?_
      refine ql_lald C S dL_law_769 w (fun j42 w => ?_)
      refine lv_iload C.1.1 C.1.2.1 dL_law_770 (lv_at hl 0 rfl) ?_
      refine lv_i2l C.1.1 C.1.2.1 dL_law_772 rfl ?_
      refine W.lcmp C.1.1 C.1.2.1 dL_law_773 ?_
      refine lv_if_eq (tgt := 779) C.1.1 C.1.2.1 dL_law_774 (by decide) (fun c9 => ?_) (fun c9 => ?_)
      · replace w := ql_if w c9
        exact (qm_L_law_779 l hl9 D h0 L9 xs9 a0 Q X p e s m below meth c C hr hlocks htab hX) n hn9 k28 hk28 rl1 rl2 rl3 rl4 xl5 _ _ _ _ S (lv_sub hl [2, 3, 4, 5, 6, 7] rfl) w
      · replace w := ql_ifn w c9
        refine lv_iconst (v := (0 : Int32)) C.1.1 C.1.2.1 dL_law_777 (by decide) ?_
        exact ql_zret C S hr hlocks dL_law_778 ⟨(by show _ ≤ (603072 : Nat); omega), (by show _ ≤ (7190633 : Nat); omega)⟩ w
  · replace w := ql_ifn w c9
    refine lv_iconst (v := (0 : Int32)) C.1.1 C.1.2.1 dL_law_760 (by decide) ?_
    exact ql_zret C S hr hlocks dL_law_761 ⟨(by show _ ≤ (603072 : Nat); omega), (by show _ ≤ (7190633 : Nat); omega)⟩ w
set_option maxHeartbeats 4000000 in
set_option maxRecDepth 100000 in
theorem qm_L_law_835 (l : Launch) (hl9 : l.stackTraces = false) (D : ql_D) (h0 : ql_H) (L9 : Nat) (xs9 : Nat → Int32) (a0 : Nat) (Q : Int32 → ql_H → Prop) (X : String → ql_H → Prop) (p : Program) (e : Env) (s : State) (m : MethodId) (below : List Frame) (meth : Method) (c : Code) (C : ql_C D h0 p m c cL_law 9 s [.ref a0].toArray "ClauseLedgerLaw") (hr : meth.sig.returnType = some .boolean) (hlocks : meth.locks = false) (htab : ∀ x ∈ c.exceptionTable.toList, False) (hX : va_X a0 L9 xs9 s s.heap ∧ a0 < s.heap.size ∧ ¬ ql_A h0 a0) : ∀ n : Nat, n + 1 ≤ 513 → ∀ (k28 : Option Nat → Option Nat → Option Nat → Option Nat → Int32 → ql_H → Prop) (hk28 : ∀ (rl1 : Option Nat) (rl2 : Option Nat) (rl3 : Option Nat) (rl4 : Option Nat) (xl5 : Int32) (h : ql_H) (H : Heap) (locs : List Loc) (ls : Array Slot), ql_S D h0 s H locs h → lv_has ls 9 [(0, .ref a0), (1, va_rf rl1), (2, va_rf rl2), (3, va_rf rl3), (4, va_rf rl4), (5, .int xl5)] → k28 rl1 rl2 rl3 rl4 xl5 h → W p l e ({ frames := 2048, cells := 603072, slots := 7190633, locals := 94400 } : Room) s m ([.ref a0] : List Value).toArray below meth c H locs (1032 + (513 - n) * 21) (15200 + (513 - n) * 5126) (vx_MQ below (ql_Q D h0 (ql_rI Q)) (ql_X D h0 X) ([.ref a0] : List Value).toArray s 603072 7190633 (ql_A h0)) (F0 m 28 ls [])) , ∀ (rl1 : Option Nat) (rl2 : Option Nat) (rl3 : Option Nat) (rl4 : Option Nat) (xl5 : Int32) (h : ql_H) (H : Heap) (locs : List Loc) (ls : Array Slot), ql_S D h0 s H locs h → lv_has ls 9 [(0, .ref a0), (1, va_rf rl1), (2, va_rf rl2), (3, va_rf rl3), (4, va_rf rl4), (5, .int xl5)] → qw_L_law_835 D.2 L9 xs9 a0 Q X k28 rl1 rl2 rl3 rl4 xl5 h → W p l e ({ frames := 2048, cells := 603072, slots := 7190633, locals := 94400 } : Room) s m ([.ref a0] : List Value).toArray below meth c H locs (1033 + (513 - (n + 1)) * 21) (15206 + (513 - (n + 1)) * 5126) (vx_MQ below (ql_Q D h0 (ql_rI Q)) (ql_X D h0 X) ([.ref a0] : List Value).toArray s 603072 7190633 (ql_A h0)) (F0 m 835 ls []) := by
  intro n hn9 k28 hk28 rl1 rl2 rl3 rl4 xl5 h H locs ls S hl w
  unfold qw_L_law_835 at w
  refine lv_goto (tgt := 2957) C.1.1 C.1.2.1 dL_law_835 (by decide) ?_
  refine W.widen (k := (1053 + (513 - (n + 1)) * 21)) (n := (20326 + (513 - (n + 1)) * 5126)) (by omega) (by omega) ?_
  exact (qm_L_law_2957 l hl9 D h0 L9 xs9 a0 Q X p e s m below meth c C hr hlocks htab hX) n hn9 k28 hk28 rl1 rl2 rl3 rl4 xl5 _ _ _ _ S (lv_sub hl [0, 1, 2, 3, 4, 5] rfl) w
set_option maxHeartbeats 4000000 in
set_option maxRecDepth 100000 in
theorem qm_L_law_782 (l : Launch) (hl9 : l.stackTraces = false) (D : ql_D) (h0 : ql_H) (L9 : Nat) (xs9 : Nat → Int32) (a0 : Nat) (Q : Int32 → ql_H → Prop) (X : String → ql_H → Prop) (p : Program) (e : Env) (s : State) (m : MethodId) (below : List Frame) (meth : Method) (c : Code) (C : ql_C D h0 p m c cL_law 9 s [.ref a0].toArray "ClauseLedgerLaw") (hr : meth.sig.returnType = some .boolean) (hlocks : meth.locks = false) (htab : ∀ x ∈ c.exceptionTable.toList, False) (hX : va_X a0 L9 xs9 s s.heap ∧ a0 < s.heap.size ∧ ¬ ql_A h0 a0) : ∀ n : Nat, n + 1 ≤ 513 → ∀ (k28 : Option Nat → Option Nat → Option Nat → Option Nat → Int32 → ql_H → Prop) (hk28 : ∀ (rl1 : Option Nat) (rl2 : Option Nat) (rl3 : Option Nat) (rl4 : Option Nat) (xl5 : Int32) (h : ql_H) (H : Heap) (locs : List Loc) (ls : Array Slot), ql_S D h0 s H locs h → lv_has ls 9 [(0, .ref a0), (1, va_rf rl1), (2, va_rf rl2), (3, va_rf rl3), (4, va_rf rl4), (5, .int xl5)] → k28 rl1 rl2 rl3 rl4 xl5 h → W p l e ({ frames := 2048, cells := 603072, slots := 7190633, locals := 94400 } : Room) s m ([.ref a0] : List Value).toArray below meth c H locs (1032 + (513 - n) * 21) (15200 + (513 - n) * 5126) (vx_MQ below (ql_Q D h0 (ql_rI Q)) (ql_X D h0 X) ([.ref a0] : List Value).toArray s 603072 7190633 (ql_A h0)) (F0 m 28 ls [])) , ∀ (rl1 : Option Nat) (rl2 : Option Nat) (rl3 : Option Nat) (rl4 : Option Nat) (xl5 : Int32) (h : ql_H) (H : Heap) (locs : List Loc) (ls : Array Slot), ql_S D h0 s H locs h → lv_has ls 9 [(0, .ref a0), (1, va_rf rl1), (2, va_rf rl2), (3, va_rf rl3), (4, va_rf rl4), (5, .int xl5)] → qw_L_law_782 D.2 L9 xs9 a0 Q X k28 rl1 rl2 rl3 rl4 xl5 h → W p l e ({ frames := 2048, cells := 603072, slots := 7190633, locals := 94400 } : Room) s m ([.ref a0] : List Value).toArray below meth c H locs (1032 + (513 - (n + 1)) * 21) (15200 + (513 - (n + 1)) * 5126) (vx_MQ below (ql_Q D h0 (ql_rI Q)) (ql_X D h0 X) ([.ref a0] : List Value).toArray s 603072 7190633 (ql_A h0)) (F0 m 782 ls []) := by
  intro n hn9 k28 hk28 rl1 rl2 rl3 rl4 xl5 h H locs ls S hl w
  unfold qw_L_law_782 at w
  refine ql_aload_n (r := rl1) C dL_law_782 rfl (lv_at hl 1 rfl) ?_
  refine ql_aload_n (r := (some a0)) C dL_law_783 rfl (lv_at hl 0 rfl) ?_
  refine lv_iload C.1.1 C.1.2.1 dL_law_784 (lv_at hl 5 rfl) ?_
  refine lv_iconst (v := (1 : Int32)) C.1.1 C.1.2.1 dL_law_786 (by decide) ?_
  refine lv_iadd C.1.1 C.1.2.1 dL_law_787 ?_
  refine ql_sld C S hX w.1 dL_law_788 ?_
  replace w := w.2
  refine ql_aload_n (r := rl3) C dL_law_789 rfl (lv_at hl 3 rfl) ?_
  refine ql_SHI (As := [va_rf rl1, .int (xs9 (xl5 + (1 : Int32)).toNatClampNeg), va_rf rl3]) (rest := []) C S hl qyh_L_repeal gw_942 (qm_L_repeal l hl9 D _ rl1 (xs9 (xl5 + (1 : Int32)).toNatClampNeg) rl3 _ _ w) rfl ⟨Nat.le_of_ble_eq_true rfl, Nat.le_of_ble_eq_true rfl⟩ ⟨rfl, rfl⟩ (by exact Nat.le_of_ble_eq_true rfl) rfl dL_law_790 ⟨(by show _ ≤ (603072 : Nat); omega), (by show _ ≤ (7190633 : Nat); omega)⟩ (fun x43 h H locs S w => ?_)
  refine W.cs (cells' := (1033 + (513 - (n + 1)) * 21)) (slots' := (15206 + (513 - (n + 1)) * 5126)) (by omega) (by omega) ?_
  refine lv_istore (lv' := [(6, .int x43), (0, .ref a0), (1, va_rf rl1), (2, va_rf rl2), (3, va_rf rl3), (4, va_rf rl4), (5, .int xl5)]) C.1.1 C.1.2.1 dL_law_793 hl (by decide) rfl (fun ls hl => ?_)
  refine ql_aload_n (r := rl2) C dL_law_795 rfl (lv_at hl 3 rfl) ?_
  refine ql_aload_n (r := (some a0)) C dL_law_796 rfl (lv_at hl 1 rfl) ?_
  refine lv_iload C.1.1 C.1.2.1 dL_law_797 (lv_at hl 6 rfl) ?_
  refine lv_iconst (v := (1 : Int32)) C.1.1 C.1.2.1 dL_law_799 (by decide) ?_
  refine lv_iadd C.1.1 C.1.2.1 dL_law_800 ?_
  refine ql_sld C S hX w.1 dL_law_801 ?_
  replace w := w.2
  refine ql_VI (As := [.int (xs9 (xl5 + (1 : Int32)).toNatClampNeg)]) (rest := []) C S htab hlocks hl qy_X12_repeal qi_X12_repeal qs_X12_repeal gw_1832 (ci := 13) rfl w (fun b w => qm_X12_repeal l hl9 D _ b (xs9 (xl5 + (1 : Int32)).toNatClampNeg) _ _ w) rfl ⟨Nat.le_of_ble_eq_true rfl, Nat.le_of_ble_eq_true rfl⟩ ⟨rfl, rfl⟩ (by exact Nat.le_of_ble_eq_true rfl) (fun b e9 => by cases e9; rfl) dL_law_802 ⟨(by show _ ≤ (603072 : Nat); omega), (by show _ ≤ (7190633 : Nat); omega)⟩ ⟨(by show _ ≤ (603072 : Nat); omega), (by show _ ≤ (7190633 : Nat); omega)⟩ (fun x44 h H locs S w => ?_)
  refine W.cs (cells' := (1033 + (513 - (n + 1)) * 21)) (slots' := (15206 + (513 - (n + 1)) * 5126)) (by omega) (by omega) ?_
  refine lv_istore (lv' := [(7, .int x44), (6, .int x43), (0, .ref a0), (1, va_rf rl1), (2, va_rf rl2), (3, va_rf rl3), (4, va_rf rl4), (5, .int xl5)]) C.1.1 C.1.2.1 dL_law_805 hl (by decide) rfl (fun ls hl => ?_)
  refine ql_aload_n (r := rl2) C dL_law_807 rfl (lv_at hl 4 rfl) ?_
  refine ql_VI (As := []) (rest := []) C S htab hlocks hl qy_X12_thrown qi_X12_thrown qs_X12_thrown gw_1727 (ci := 13) rfl w (fun b w => qm_X12_thrown l hl9 D _ b _ _ w) rfl ⟨Nat.le_of_ble_eq_true rfl, Nat.le_of_ble_eq_true rfl⟩ ⟨rfl, rfl⟩ (by exact Nat.le_of_ble_eq_true rfl) (fun b e9 => by cases e9; rfl) dL_law_808 ⟨(by show _ ≤ (603072 : Nat); omega), (by show _ ≤ (7190633 : Nat); omega)⟩ ⟨(by show _ ≤ (603072 : Nat); omega), (by show _ ≤ (7190633 : Nat); omega)⟩ (fun x46 h H locs S w => ?_)
  refine W.cs (cells' := (1033 + (513 - (n + 1)) * 21)) (slots' := (15206 + (513 - (n + 1)) * 5126)) (by omega) (by omega) ?_
  refine lv_iload C.1.1 C.1.2.1 dL_law_811 (lv_at hl 1 rfl) ?_
  refine lv_icmp_eq (tgt := 818) C.1.1 C.1.2.1 dL_law_813 (by decide) (fun c9 => ?_) (fun c9 => ?_)
  · replace w := ql_if w c9
    refine lv_iload C.1.1 C.1.2.1 dL_law_818 (lv_at hl 1 rfl) ?_
    refine lv_if_ne (tgt := 835) C.1.1 C.1.2.1 dL_law_820 (by decide) (fun c9 => ?_) (fun c9 => ?_)
    · replace w := ql_ifn w c9
      exact (qm_L_law_835 l hl9 D h0 L9 xs9 a0 Q X p e s m below meth c C hr hlocks htab hX) n hn9 k28 hk28 rl1 rl2 rl3 rl4 xl5 _ _ _ _ S (lv_sub hl [2, 3, 4, 5, 6, 7] rfl) w
    · replace w := ql_if w c9
      refine ql_aload_n (r := rl3) C dL_law_823 rfl (lv_at hl 5 rfl) ?_
      refine lv_iconst (v := (0 : Int32)) C.1.1 C.1.2.1 dL_law_824 (by decide) ?_
      refine ql_lald C S dL_law_825 w (fun j48 w => ?_)
      refine lv_iload C.1.1 C.1.2.1 dL_law_826 (lv_at hl 0 rfl) ?_
      refine lv_i2l C.1.1 C.1.2.1 dL_law_828 rfl ?_
      refine W.lcmp C.1.1 C.1.2.1 dL_law_829 ?_
      refine lv_if_eq (tgt := 835) C.1.1 C.1.2.1 dL_law_830 (by decide) (fun c9 => ?_) (fun c9 => ?_)
      · replace w := ql_if w c9
        exact (qm_L_law_835 l hl9 D h0 L9 xs9 a0 Q X p e s m below meth c C hr hlocks htab hX) n hn9 k28 hk28 rl1 rl2 rl3 rl4 xl5 _ _ _ _ S (lv_sub hl [2, 3, 4, 5, 6, 7] rfl) w
      · replace w := ql_ifn w c9
        refine lv_iconst (v := (0 : Int32)) C.1.1 C.1.2.1 dL_law_833 (by decide) ?_
        exact ql_zret C S hr hlocks dL_law_834 ⟨(by show _ ≤ (603072 : Nat); omega), (by show _ ≤ (7190633 : Nat); omega)⟩ w
  · replace w := ql_ifn w c9
    refine lv_iconst (v := (0 : Int32)) C.1.1 C.1.2.1 dL_law_816 (by decide) ?_
    exact ql_zret C S hr hlocks dL_law_817 ⟨(by show _ ≤ (603072 : Nat); omega), (by show _ ≤ (7190633 : Nat); omega)⟩ w
set_option maxHeartbeats 4000000 in
set_option maxRecDepth 100000 in
theorem qm_L_law_838 (l : Launch) (hl9 : l.stackTraces = false) (D : ql_D) (h0 : ql_H) (L9 : Nat) (xs9 : Nat → Int32) (a0 : Nat) (Q : Int32 → ql_H → Prop) (X : String → ql_H → Prop) (p : Program) (e : Env) (s : State) (m : MethodId) (below : List Frame) (meth : Method) (c : Code) (C : ql_C D h0 p m c cL_law 9 s [.ref a0].toArray "ClauseLedgerLaw") (hr : meth.sig.returnType = some .boolean) (hlocks : meth.locks = false) (htab : ∀ x ∈ c.exceptionTable.toList, False) (hX : va_X a0 L9 xs9 s s.heap ∧ a0 < s.heap.size ∧ ¬ ql_A h0 a0) : ∀ n : Nat, n + 1 ≤ 513 → ∀ (k28 : Option Nat → Option Nat → Option Nat → Option Nat → Int32 → ql_H → Prop) (hk28 : ∀ (rl1 : Option Nat) (rl2 : Option Nat) (rl3 : Option Nat) (rl4 : Option Nat) (xl5 : Int32) (h : ql_H) (H : Heap) (locs : List Loc) (ls : Array Slot), ql_S D h0 s H locs h → lv_has ls 9 [(0, .ref a0), (1, va_rf rl1), (2, va_rf rl2), (3, va_rf rl3), (4, va_rf rl4), (5, .int xl5)] → k28 rl1 rl2 rl3 rl4 xl5 h → W p l e ({ frames := 2048, cells := 603072, slots := 7190633, locals := 94400 } : Room) s m ([.ref a0] : List Value).toArray below meth c H locs (1032 + (513 - n) * 21) (15200 + (513 - n) * 5126) (vx_MQ below (ql_Q D h0 (ql_rI Q)) (ql_X D h0 X) ([.ref a0] : List Value).toArray s 603072 7190633 (ql_A h0)) (F0 m 28 ls [])) , ∀ (rl1 : Option Nat) (rl2 : Option Nat) (rl3 : Option Nat) (rl4 : Option Nat) (xl5 : Int32) (h : ql_H) (H : Heap) (locs : List Loc) (ls : Array Slot), ql_S D h0 s H locs h → lv_has ls 9 [(0, .ref a0), (1, va_rf rl1), (2, va_rf rl2), (3, va_rf rl3), (4, va_rf rl4), (5, .int xl5)] → qw_L_law_838 D.2 L9 xs9 a0 Q X k28 rl1 rl2 rl3 rl4 xl5 h → W p l e ({ frames := 2048, cells := 603072, slots := 7190633, locals := 94400 } : Room) s m ([.ref a0] : List Value).toArray below meth c H locs (1032 + (513 - (n + 1)) * 21) (15200 + (513 - (n + 1)) * 5126) (vx_MQ below (ql_Q D h0 (ql_rI Q)) (ql_X D h0 X) ([.ref a0] : List Value).toArray s 603072 7190633 (ql_A h0)) (F0 m 838 ls []) := by
  intro n hn9 k28 hk28 rl1 rl2 rl3 rl4 xl5 h H locs ls S hl w
  unfold qw_L_law_838 at w
  refine ql_aload_n (r := rl1) C dL_law_838 rfl (lv_at hl 1 rfl) ?_
  refine ql_VI (As := []) (rest := []) C S htab hlocks hl qy_X11_consolidate qi_X11_consolidate qs_X11_consolidate gw_382 (ci := 12) rfl w (fun b w => qm_X11_consolidate l hl9 D _ b _ _ w) rfl ⟨Nat.le_of_ble_eq_true rfl, Nat.le_of_ble_eq_true rfl⟩ ⟨rfl, rfl⟩ (by exact Nat.le_of_ble_eq_true rfl) (fun b e9 => by cases e9; rfl) dL_law_839 ⟨(by show _ ≤ (603072 : Nat); omega), (by show _ ≤ (7190633 : Nat); omega)⟩ ⟨(by show _ ≤ (603072 : Nat); omega), (by show _ ≤ (7190633 : Nat); omega)⟩ (fun x49 h H locs S w => ?_)
  refine W.cs (cells' := (1033 + (513 - (n + 1)) * 21)) (slots' := (15206 + (513 - (n + 1)) * 5126)) (by omega) (by omega) ?_
  refine ql_aload_n (r := rl2) C dL_law_842 rfl (lv_at hl 2 rfl) ?_
  refine ql_VI (As := []) (rest := [.int x49]) C S htab hlocks hl qy_X12_consolidate qi_X12_consolidate qs_X12_consolidate gw_1840 (ci := 13) rfl w (fun b w => qm_X12_consolidate l hl9 D _ b _ _ w) rfl ⟨Nat.le_of_ble_eq_true rfl, Nat.le_of_ble_eq_true rfl⟩ ⟨rfl, rfl⟩ (by exact Nat.le_of_ble_eq_true rfl) (fun b e9 => by cases e9; rfl) dL_law_843 ⟨(by show _ ≤ (603072 : Nat); omega), (by show _ ≤ (7190633 : Nat); omega)⟩ ⟨(by show _ ≤ (603072 : Nat); omega), (by show _ ≤ (7190633 : Nat); omega)⟩ (fun x51 h H locs S w => ?_)
  refine W.cs (cells' := (1033 + (513 - (n + 1)) * 21)) (slots' := (15206 + (513 - (n + 1)) * 5126)) (by omega) (by omega) ?_
  refine lv_icmp_eq (tgt := 2957) C.1.1 C.1.2.1 dL_law_846 (by decide) (fun c9 => ?_) (fun c9 => ?_)
  · replace w := ql_if w c9
    refine W.widen (k := (1053 + (513 - (n + 1)) * 21)) (n := (20326 + (513 - (n + 1)) * 5126)) (by omega) (by omega) ?_
    exact (qm_L_law_2957 l hl9 D h0 L9 xs9 a0 Q X p e s m below meth c C hr hlocks htab hX) n hn9 k28 hk28 rl1 rl2 rl3 rl4 xl5 _ _ _ _ S (lv_sub hl [0, 1, 2, 3, 4, 5] rfl) w
  · replace w := ql_ifn w c9
    refine lv_iconst (v := (0 : Int32)) C.1.1 C.1.2.1 dL_law_849 (by decide) ?_
    exact ql_zret C S hr hlocks dL_law_850 ⟨(by show _ ≤ (603072 : Nat); omega), (by show _ ≤ (7190633 : Nat); omega)⟩ w
set_option maxHeartbeats 4000000 in
set_option maxRecDepth 100000 in
theorem qm_L_law_904 (l : Launch) (hl9 : l.stackTraces = false) (D : ql_D) (h0 : ql_H) (L9 : Nat) (xs9 : Nat → Int32) (a0 : Nat) (Q : Int32 → ql_H → Prop) (X : String → ql_H → Prop) (p : Program) (e : Env) (s : State) (m : MethodId) (below : List Frame) (meth : Method) (c : Code) (C : ql_C D h0 p m c cL_law 9 s [.ref a0].toArray "ClauseLedgerLaw") (hr : meth.sig.returnType = some .boolean) (hlocks : meth.locks = false) (htab : ∀ x ∈ c.exceptionTable.toList, False) (hX : va_X a0 L9 xs9 s s.heap ∧ a0 < s.heap.size ∧ ¬ ql_A h0 a0) : ∀ n : Nat, n + 1 ≤ 513 → ∀ (k28 : Option Nat → Option Nat → Option Nat → Option Nat → Int32 → ql_H → Prop) (hk28 : ∀ (rl1 : Option Nat) (rl2 : Option Nat) (rl3 : Option Nat) (rl4 : Option Nat) (xl5 : Int32) (h : ql_H) (H : Heap) (locs : List Loc) (ls : Array Slot), ql_S D h0 s H locs h → lv_has ls 9 [(0, .ref a0), (1, va_rf rl1), (2, va_rf rl2), (3, va_rf rl3), (4, va_rf rl4), (5, .int xl5)] → k28 rl1 rl2 rl3 rl4 xl5 h → W p l e ({ frames := 2048, cells := 603072, slots := 7190633, locals := 94400 } : Room) s m ([.ref a0] : List Value).toArray below meth c H locs (1032 + (513 - n) * 21) (15200 + (513 - n) * 5126) (vx_MQ below (ql_Q D h0 (ql_rI Q)) (ql_X D h0 X) ([.ref a0] : List Value).toArray s 603072 7190633 (ql_A h0)) (F0 m 28 ls [])) , ∀ (rl1 : Option Nat) (rl2 : Option Nat) (rl3 : Option Nat) (rl4 : Option Nat) (xl5 : Int32) (h : ql_H) (H : Heap) (locs : List Loc) (ls : Array Slot), ql_S D h0 s H locs h → lv_has ls 9 [(0, .ref a0), (1, va_rf rl1), (2, va_rf rl2), (3, va_rf rl3), (4, va_rf rl4), (5, .int xl5)] → qw_L_law_904 D.2 L9 xs9 a0 Q X k28 rl1 rl2 rl3 rl4 xl5 h → W p l e ({ frames := 2048, cells := 603072, slots := 7190633, locals := 94400 } : Room) s m ([.ref a0] : List Value).toArray below meth c H locs (1033 + (513 - (n + 1)) * 21) (15206 + (513 - (n + 1)) * 5126) (vx_MQ below (ql_Q D h0 (ql_rI Q)) (ql_X D h0 X) ([.ref a0] : List Value).toArray s 603072 7190633 (ql_A h0)) (F0 m 904 ls []) := by
  intro n hn9 k28 hk28 rl1 rl2 rl3 rl4 xl5 h H locs ls S hl w
  unfold qw_L_law_904 at w
  refine lv_goto (tgt := 2957) C.1.1 C.1.2.1 dL_law_904 (by decide) ?_
  refine W.widen (k := (1053 + (513 - (n + 1)) * 21)) (n := (20326 + (513 - (n + 1)) * 5126)) (by omega) (by omega) ?_
  exact (qm_L_law_2957 l hl9 D h0 L9 xs9 a0 Q X p e s m below meth c C hr hlocks htab hX) n hn9 k28 hk28 rl1 rl2 rl3 rl4 xl5 _ _ _ _ S (lv_sub hl [0, 1, 2, 3, 4, 5] rfl) w
set_option maxHeartbeats 4000000 in
set_option maxRecDepth 100000 in
theorem qm_L_law_851 (l : Launch) (hl9 : l.stackTraces = false) (D : ql_D) (h0 : ql_H) (L9 : Nat) (xs9 : Nat → Int32) (a0 : Nat) (Q : Int32 → ql_H → Prop) (X : String → ql_H → Prop) (p : Program) (e : Env) (s : State) (m : MethodId) (below : List Frame) (meth : Method) (c : Code) (C : ql_C D h0 p m c cL_law 9 s [.ref a0].toArray "ClauseLedgerLaw") (hr : meth.sig.returnType = some .boolean) (hlocks : meth.locks = false) (htab : ∀ x ∈ c.exceptionTable.toList, False) (hX : va_X a0 L9 xs9 s s.heap ∧ a0 < s.heap.size ∧ ¬ ql_A h0 a0) : ∀ n : Nat, n + 1 ≤ 513 → ∀ (k28 : Option Nat → Option Nat → Option Nat → Option Nat → Int32 → ql_H → Prop) (hk28 : ∀ (rl1 : Option Nat) (rl2 : Option Nat) (rl3 : Option Nat) (rl4 : Option Nat) (xl5 : Int32) (h : ql_H) (H : Heap) (locs : List Loc) (ls : Array Slot), ql_S D h0 s H locs h → lv_has ls 9 [(0, .ref a0), (1, va_rf rl1), (2, va_rf rl2), (3, va_rf rl3), (4, va_rf rl4), (5, .int xl5)] → k28 rl1 rl2 rl3 rl4 xl5 h → W p l e ({ frames := 2048, cells := 603072, slots := 7190633, locals := 94400 } : Room) s m ([.ref a0] : List Value).toArray below meth c H locs (1032 + (513 - n) * 21) (15200 + (513 - n) * 5126) (vx_MQ below (ql_Q D h0 (ql_rI Q)) (ql_X D h0 X) ([.ref a0] : List Value).toArray s 603072 7190633 (ql_A h0)) (F0 m 28 ls [])) , ∀ (rl1 : Option Nat) (rl2 : Option Nat) (rl3 : Option Nat) (rl4 : Option Nat) (xl5 : Int32) (h : ql_H) (H : Heap) (locs : List Loc) (ls : Array Slot), ql_S D h0 s H locs h → lv_has ls 9 [(0, .ref a0), (1, va_rf rl1), (2, va_rf rl2), (3, va_rf rl3), (4, va_rf rl4), (5, .int xl5)] → qw_L_law_851 D.2 L9 xs9 a0 Q X k28 rl1 rl2 rl3 rl4 xl5 h → W p l e ({ frames := 2048, cells := 603072, slots := 7190633, locals := 94400 } : Room) s m ([.ref a0] : List Value).toArray below meth c H locs (1032 + (513 - (n + 1)) * 21) (15200 + (513 - (n + 1)) * 5126) (vx_MQ below (ql_Q D h0 (ql_rI Q)) (ql_X D h0 X) ([.ref a0] : List Value).toArray s 603072 7190633 (ql_A h0)) (F0 m 851 ls []) := by
  intro n hn9 k28 hk28 rl1 rl2 rl3 rl4 xl5 h H locs ls S hl w
  unfold qw_L_law_851 at w
  refine ql_aload_n (r := rl1) C dL_law_851 rfl (lv_at hl 1 rfl) ?_
  refine ql_aload_n (r := (some a0)) C dL_law_852 rfl (lv_at hl 0 rfl) ?_
  refine lv_iload C.1.1 C.1.2.1 dL_law_853 (lv_at hl 5 rfl) ?_
  refine lv_iconst (v := (1 : Int32)) C.1.1 C.1.2.1 dL_law_855 (by decide) ?_
  refine lv_iadd C.1.1 C.1.2.1 dL_law_856 ?_
  refine ql_sld C S hX w.1 dL_law_857 ?_
  replace w := w.2
  refine ql_aload_n (r := rl3) C dL_law_858 rfl (lv_at hl 3 rfl) ?_
  refine ql_SHI (As := [va_rf rl1, .int (xs9 (xl5 + (1 : Int32)).toNatClampNeg), va_rf rl3]) (rest := []) C S hl qyh_L_advance gw_954 (qm_L_advance l hl9 D _ rl1 (xs9 (xl5 + (1 : Int32)).toNatClampNeg) rl3 _ _ w) rfl ⟨Nat.le_of_ble_eq_true rfl, Nat.le_of_ble_eq_true rfl⟩ ⟨rfl, rfl⟩ (by exact Nat.le_of_ble_eq_true rfl) rfl dL_law_859 ⟨(by show _ ≤ (603072 : Nat); omega), (by show _ ≤ (7190633 : Nat); omega)⟩ (fun x53 h H locs S w => ?_)
  refine W.cs (cells' := (1033 + (513 - (n + 1)) * 21)) (slots' := (15206 + (513 - (n + 1)) * 5126)) (by omega) (by omega) ?_
  refine lv_istore (lv' := [(6, .int x53), (0, .ref a0), (1, va_rf rl1), (2, va_rf rl2), (3, va_rf rl3), (4, va_rf rl4), (5, .int xl5)]) C.1.1 C.1.2.1 dL_law_862 hl (by decide) rfl (fun ls hl => ?_)
  refine ql_aload_n (r := rl2) C dL_law_864 rfl (lv_at hl 3 rfl) ?_
  refine ql_aload_n (r := (some a0)) C dL_law_865 rfl (lv_at hl 1 rfl) ?_
  refine lv_iload C.1.1 C.1.2.1 dL_law_866 (lv_at hl 6 rfl) ?_
  refine lv_iconst (v := (1 : Int32)) C.1.1 C.1.2.1 dL_law_868 (by decide) ?_
  refine lv_iadd C.1.1 C.1.2.1 dL_law_869 ?_
  refine ql_sld C S hX w.1 dL_law_870 ?_
  replace w := w.2
  refine ql_VI (As := [.int (xs9 (xl5 + (1 : Int32)).toNatClampNeg)]) (rest := []) C S htab hlocks hl qy_X12_advance qi_X12_advance qs_X12_advance gw_1848 (ci := 13) rfl w (fun b w => qm_X12_advance l hl9 D _ b (xs9 (xl5 + (1 : Int32)).toNatClampNeg) _ _ w) rfl ⟨Nat.le_of_ble_eq_true rfl, Nat.le_of_ble_eq_true rfl⟩ ⟨rfl, rfl⟩ (by exact Nat.le_of_ble_eq_true rfl) (fun b e9 => by cases e9; rfl) dL_law_871 ⟨(by show _ ≤ (603072 : Nat); omega), (by show _ ≤ (7190633 : Nat); omega)⟩ ⟨(by show _ ≤ (603072 : Nat); omega), (by show _ ≤ (7190633 : Nat); omega)⟩ (fun x54 h H locs S w => ?_)
  refine W.cs (cells' := (1033 + (513 - (n + 1)) * 21)) (slots' := (15206 + (513 - (n + 1)) * 5126)) (by omega) (by omega) ?_
  refine lv_istore (lv' := [(7, .int x54), (6, .int x53), (0, .ref a0), (1, va_rf rl1), (2, va_rf rl2), (3, va_rf rl3), (4, va_rf rl4), (5, .int xl5)]) C.1.1 C.1.2.1 dL_law_874 hl (by decide) rfl (fun ls hl => ?_)
  refine ql_aload_n (r := rl2) C dL_law_876 rfl (lv_at hl 4 rfl) ?_
  refine ql_VI (As := []) (rest := []) C S htab hlocks hl qy_X12_thrown qi_X12_thrown qs_X12_thrown gw_1727 (ci := 13) rfl w (fun b w => qm_X12_thrown l hl9 D _ b _ _ w) rfl ⟨Nat.le_of_ble_eq_true rfl, Nat.le_of_ble_eq_true rfl⟩ ⟨rfl, rfl⟩ (by exact Nat.le_of_ble_eq_true rfl) (fun b e9 => by cases e9; rfl) dL_law_877 ⟨(by show _ ≤ (603072 : Nat); omega), (by show _ ≤ (7190633 : Nat); omega)⟩ ⟨(by show _ ≤ (603072 : Nat); omega), (by show _ ≤ (7190633 : Nat); omega)⟩ (fun x56 h H locs S w => ?_)
  refine W.cs (cells' := (1033 + (513 - (n + 1)) * 21)) (slots' := (15206 + (513 - (n + 1)) * 5126)) (by omega) (by omega) ?_
  refine lv_iload C.1.1 C.1.2.1 dL_law_880 (lv_at hl 1 rfl) ?_
  refine lv_icmp_eq (tgt := 887) C.1.1 C.1.2.1 dL_law_882 (by decide) (fun c9 => ?_) (fun c9 => ?_)
  · replace w := ql_if w c9
    refine lv_iload C.1.1 C.1.2.1 dL_law_887 (lv_at hl 1 rfl) ?_
    refine lv_if_ne (tgt := 904) C.1.1 C.1.2.1 dL_law_889 (by decide) (fun c9 => ?_) (fun c9 => ?_)
    · replace w := ql_ifn w c9
      exact (qm_L_law_904 l hl9 D h0 L9 xs9 a0 Q X p e s m below meth c C hr hlocks htab hX) n hn9 k28 hk28 rl1 rl2 rl3 rl4 xl5 _ _ _ _ S (lv_sub hl [2, 3, 4, 5, 6, 7] rfl) w
    · replace w := ql_if w c9
      refine ql_aload_n (r := rl3) C dL_law_892 rfl (lv_at hl 5 rfl) ?_
      refine lv_iconst (v := (0 : Int32)) C.1.1 C.1.2.1 dL_law_893 (by decide) ?_
      refine ql_lald C S dL_law_894 w (fun j58 w => ?_)
      refine lv_iload C.1.1 C.1.2.1 dL_law_895 (lv_at hl 0 rfl) ?_
      refine lv_i2l C.1.1 C.1.2.1 dL_law_897 rfl ?_
      refine W.lcmp C.1.1 C.1.2.1 dL_law_898 ?_
      refine lv_if_eq (tgt := 904) C.1.1 C.1.2.1 dL_law_899 (by decide) (fun c9 => ?_) (fun c9 => ?_)
      · replace w := ql_if w c9
        exact (qm_L_law_904 l hl9 D h0 L9 xs9 a0 Q X p e s m below meth c C hr hlocks htab hX) n hn9 k28 hk28 rl1 rl2 rl3 rl4 xl5 _ _ _ _ S (lv_sub hl [2, 3, 4, 5, 6, 7] rfl) w
      · replace w := ql_ifn w c9
        refine lv_iconst (v := (0 : Int32)) C.1.1 C.1.2.1 dL_law_902 (by decide) ?_
        exact ql_zret C S hr hlocks dL_law_903 ⟨(by show _ ≤ (603072 : Nat); omega), (by show _ ≤ (7190633 : Nat); omega)⟩ w
  · replace w := ql_ifn w c9
    refine lv_iconst (v := (0 : Int32)) C.1.1 C.1.2.1 dL_law_885 (by decide) ?_
    exact ql_zret C S hr hlocks dL_law_886 ⟨(by show _ ≤ (603072 : Nat); omega), (by show _ ≤ (7190633 : Nat); omega)⟩ w
set_option maxHeartbeats 4000000 in
set_option maxRecDepth 100000 in
theorem qm_L_law_907 (l : Launch) (hl9 : l.stackTraces = false) (D : ql_D) (h0 : ql_H) (L9 : Nat) (xs9 : Nat → Int32) (a0 : Nat) (Q : Int32 → ql_H → Prop) (X : String → ql_H → Prop) (p : Program) (e : Env) (s : State) (m : MethodId) (below : List Frame) (meth : Method) (c : Code) (C : ql_C D h0 p m c cL_law 9 s [.ref a0].toArray "ClauseLedgerLaw") (hr : meth.sig.returnType = some .boolean) (hlocks : meth.locks = false) (htab : ∀ x ∈ c.exceptionTable.toList, False) (hX : va_X a0 L9 xs9 s s.heap ∧ a0 < s.heap.size ∧ ¬ ql_A h0 a0) : ∀ n : Nat, n + 1 ≤ 513 → ∀ (k28 : Option Nat → Option Nat → Option Nat → Option Nat → Int32 → ql_H → Prop) (hk28 : ∀ (rl1 : Option Nat) (rl2 : Option Nat) (rl3 : Option Nat) (rl4 : Option Nat) (xl5 : Int32) (h : ql_H) (H : Heap) (locs : List Loc) (ls : Array Slot), ql_S D h0 s H locs h → lv_has ls 9 [(0, .ref a0), (1, va_rf rl1), (2, va_rf rl2), (3, va_rf rl3), (4, va_rf rl4), (5, .int xl5)] → k28 rl1 rl2 rl3 rl4 xl5 h → W p l e ({ frames := 2048, cells := 603072, slots := 7190633, locals := 94400 } : Room) s m ([.ref a0] : List Value).toArray below meth c H locs (1032 + (513 - n) * 21) (15200 + (513 - n) * 5126) (vx_MQ below (ql_Q D h0 (ql_rI Q)) (ql_X D h0 X) ([.ref a0] : List Value).toArray s 603072 7190633 (ql_A h0)) (F0 m 28 ls [])) , ∀ (rl1 : Option Nat) (rl2 : Option Nat) (rl3 : Option Nat) (rl4 : Option Nat) (xl5 : Int32) (h : ql_H) (H : Heap) (locs : List Loc) (ls : Array Slot), ql_S D h0 s H locs h → lv_has ls 9 [(0, .ref a0), (1, va_rf rl1), (2, va_rf rl2), (3, va_rf rl3), (4, va_rf rl4), (5, .int xl5)] → qw_L_law_907 D.2 L9 xs9 a0 Q X k28 rl1 rl2 rl3 rl4 xl5 h → W p l e ({ frames := 2048, cells := 603072, slots := 7190633, locals := 94400 } : Room) s m ([.ref a0] : List Value).toArray below meth c H locs (1032 + (513 - (n + 1)) * 21) (15200 + (513 - (n + 1)) * 5126) (vx_MQ below (ql_Q D h0 (ql_rI Q)) (ql_X D h0 X) ([.ref a0] : List Value).toArray s 603072 7190633 (ql_A h0)) (F0 m 907 ls []) := by
  intro n hn9 k28 hk28 rl1 rl2 rl3 rl4 xl5 h H locs ls S hl w
  unfold qw_L_law_907 at w
  refine ql_aload_n (r := rl1) C dL_law_907 rfl (lv_at hl 1 rfl) ?_
  refine ql_VI (As := []) (rest := []) C S htab hlocks hl qy_X11_day qi_X11_day qs_X11_day gw_625 (ci := 12) rfl w (fun b w => qm_X11_day l hl9 D _ b _ _ w) rfl ⟨Nat.le_of_ble_eq_true rfl, Nat.le_of_ble_eq_true rfl⟩ ⟨rfl, rfl⟩ (by exact Nat.le_of_ble_eq_true rfl) (fun b e9 => by cases e9; rfl) dL_law_908 ⟨(by show _ ≤ (603072 : Nat); omega), (by show _ ≤ (7190633 : Nat); omega)⟩ ⟨(by show _ ≤ (603072 : Nat); omega), (by show _ ≤ (7190633 : Nat); omega)⟩ (fun x59 h H locs S w => ?_)
  refine W.cs (cells' := (1032 + (513 - (n + 1)) * 21)) (slots' := (15200 + (513 - (n + 1)) * 5126)) (by omega) (by omega) ?_
  refine ql_aload_n (r := rl2) C dL_law_911 rfl (lv_at hl 2 rfl) ?_
  refine ql_VI (As := []) (rest := [.int x59]) C S htab hlocks hl qy_X12_day qi_X12_day qs_X12_day gw_1852 (ci := 13) rfl w (fun b w => qm_X12_day l hl9 D _ b _ _ w) rfl ⟨Nat.le_of_ble_eq_true rfl, Nat.le_of_ble_eq_true rfl⟩ ⟨rfl, rfl⟩ (by exact Nat.le_of_ble_eq_true rfl) (fun b e9 => by cases e9; rfl) dL_law_912 ⟨(by show _ ≤ (603072 : Nat); omega), (by show _ ≤ (7190633 : Nat); omega)⟩ ⟨(by show _ ≤ (603072 : Nat); omega), (by show _ ≤ (7190633 : Nat); omega)⟩ (fun x61 h H locs S w => ?_)
  refine W.cs (cells' := (1032 + (513 - (n + 1)) * 21)) (slots' := (15200 + (513 - (n + 1)) * 5126)) (by omega) (by omega) ?_
  refine lv_icmp_eq (tgt := 2957) C.1.1 C.1.2.1 dL_law_915 (by decide) (fun c9 => ?_) (fun c9 => ?_)
  · replace w := ql_if w c9
    refine W.widen (k := (1053 + (513 - (n + 1)) * 21)) (n := (20326 + (513 - (n + 1)) * 5126)) (by omega) (by omega) ?_
    exact (qm_L_law_2957 l hl9 D h0 L9 xs9 a0 Q X p e s m below meth c C hr hlocks htab hX) n hn9 k28 hk28 rl1 rl2 rl3 rl4 xl5 _ _ _ _ S (lv_sub hl [0, 1, 2, 3, 4, 5] rfl) w
  · replace w := ql_ifn w c9
    refine lv_iconst (v := (0 : Int32)) C.1.1 C.1.2.1 dL_law_918 (by decide) ?_
    exact ql_zret C S hr hlocks dL_law_919 ⟨(by show _ ≤ (603072 : Nat); omega), (by show _ ≤ (7190633 : Nat); omega)⟩ w
set_option maxHeartbeats 4000000 in
set_option maxRecDepth 100000 in
theorem qm_L_law_920 (l : Launch) (hl9 : l.stackTraces = false) (D : ql_D) (h0 : ql_H) (L9 : Nat) (xs9 : Nat → Int32) (a0 : Nat) (Q : Int32 → ql_H → Prop) (X : String → ql_H → Prop) (p : Program) (e : Env) (s : State) (m : MethodId) (below : List Frame) (meth : Method) (c : Code) (C : ql_C D h0 p m c cL_law 9 s [.ref a0].toArray "ClauseLedgerLaw") (hr : meth.sig.returnType = some .boolean) (hlocks : meth.locks = false) (htab : ∀ x ∈ c.exceptionTable.toList, False) (hX : va_X a0 L9 xs9 s s.heap ∧ a0 < s.heap.size ∧ ¬ ql_A h0 a0) : ∀ n : Nat, n + 1 ≤ 513 → ∀ (k28 : Option Nat → Option Nat → Option Nat → Option Nat → Int32 → ql_H → Prop) (hk28 : ∀ (rl1 : Option Nat) (rl2 : Option Nat) (rl3 : Option Nat) (rl4 : Option Nat) (xl5 : Int32) (h : ql_H) (H : Heap) (locs : List Loc) (ls : Array Slot), ql_S D h0 s H locs h → lv_has ls 9 [(0, .ref a0), (1, va_rf rl1), (2, va_rf rl2), (3, va_rf rl3), (4, va_rf rl4), (5, .int xl5)] → k28 rl1 rl2 rl3 rl4 xl5 h → W p l e ({ frames := 2048, cells := 603072, slots := 7190633, locals := 94400 } : Room) s m ([.ref a0] : List Value).toArray below meth c H locs (1032 + (513 - n) * 21) (15200 + (513 - n) * 5126) (vx_MQ below (ql_Q D h0 (ql_rI Q)) (ql_X D h0 X) ([.ref a0] : List Value).toArray s 603072 7190633 (ql_A h0)) (F0 m 28 ls [])) , ∀ (rl1 : Option Nat) (rl2 : Option Nat) (rl3 : Option Nat) (rl4 : Option Nat) (xl5 : Int32) (h : ql_H) (H : Heap) (locs : List Loc) (ls : Array Slot), ql_S D h0 s H locs h → lv_has ls 9 [(0, .ref a0), (1, va_rf rl1), (2, va_rf rl2), (3, va_rf rl3), (4, va_rf rl4), (5, .int xl5)] → qw_L_law_920 D.2 L9 xs9 a0 Q X k28 rl1 rl2 rl3 rl4 xl5 h → W p l e ({ frames := 2048, cells := 603072, slots := 7190633, locals := 94400 } : Room) s m ([.ref a0] : List Value).toArray below meth c H locs (1032 + (513 - (n + 1)) * 21) (15200 + (513 - (n + 1)) * 5126) (vx_MQ below (ql_Q D h0 (ql_rI Q)) (ql_X D h0 X) ([.ref a0] : List Value).toArray s 603072 7190633 (ql_A h0)) (F0 m 920 ls []) := by
  intro n hn9 k28 hk28 rl1 rl2 rl3 rl4 xl5 h H locs ls S hl w
  unfold qw_L_law_920 at w
  refine ql_aload_n (r := rl1) C dL_law_920 rfl (lv_at hl 1 rfl) ?_
  refine ql_VI (As := []) (rest := []) C S htab hlocks hl qy_X11_clauseCount qi_X11_clauseCount qs_X11_clauseCount gw_629 (ci := 12) rfl w (fun b w => qm_X11_clauseCount l hl9 D _ b _ _ w) rfl ⟨Nat.le_of_ble_eq_true rfl, Nat.le_of_ble_eq_true rfl⟩ ⟨rfl, rfl⟩ (by exact Nat.le_of_ble_eq_true rfl) (fun b e9 => by cases e9; rfl) dL_law_921 ⟨(by show _ ≤ (603072 : Nat); omega), (by show _ ≤ (7190633 : Nat); omega)⟩ ⟨(by show _ ≤ (603072 : Nat); omega), (by show _ ≤ (7190633 : Nat); omega)⟩ (fun x63 h H locs S w => ?_)
  refine W.cs (cells' := (1032 + (513 - (n + 1)) * 21)) (slots' := (15200 + (513 - (n + 1)) * 5126)) (by omega) (by omega) ?_
  refine ql_aload_n (r := rl2) C dL_law_924 rfl (lv_at hl 2 rfl) ?_
  refine ql_VI (As := []) (rest := [.int x63]) C S htab hlocks hl qy_X12_clauseCount qi_X12_clauseCount qs_X12_clauseCount gw_1856 (ci := 13) rfl w (fun b w => qm_X12_clauseCount l hl9 D _ b _ _ w) rfl ⟨Nat.le_of_ble_eq_true rfl, Nat.le_of_ble_eq_true rfl⟩ ⟨rfl, rfl⟩ (by exact Nat.le_of_ble_eq_true rfl) (fun b e9 => by cases e9; rfl) dL_law_925 ⟨(by show _ ≤ (603072 : Nat); omega), (by show _ ≤ (7190633 : Nat); omega)⟩ ⟨(by show _ ≤ (603072 : Nat); omega), (by show _ ≤ (7190633 : Nat); omega)⟩ (fun x65 h H locs S w => ?_)
  refine W.cs (cells' := (1032 + (513 - (n + 1)) * 21)) (slots' := (15200 + (513 - (n + 1)) * 5126)) (by omega) (by omega) ?_
  refine lv_icmp_eq (tgt := 2957) C.1.1 C.1.2.1 dL_law_928 (by decide) (fun c9 => ?_) (fun c9 => ?_)
  · replace w := ql_if w c9
    refine W.widen (k := (1053 + (513 - (n + 1)) * 21)) (n := (20326 + (513 - (n + 1)) * 5126)) (by omega) (by omega) ?_
    exact (qm_L_law_2957 l hl9 D h0 L9 xs9 a0 Q X p e s m below meth c C hr hlocks htab hX) n hn9 k28 hk28 rl1 rl2 rl3 rl4 xl5 _ _ _ _ S (lv_sub hl [0, 1, 2, 3, 4, 5] rfl) w
  · replace w := ql_ifn w c9
    refine lv_iconst (v := (0 : Int32)) C.1.1 C.1.2.1 dL_law_931 (by decide) ?_
    exact ql_zret C S hr hlocks dL_law_932 ⟨(by show _ ≤ (603072 : Nat); omega), (by show _ ≤ (7190633 : Nat); omega)⟩ w
set_option maxHeartbeats 4000000 in
set_option maxRecDepth 100000 in
theorem qm_L_law_986 (l : Launch) (hl9 : l.stackTraces = false) (D : ql_D) (h0 : ql_H) (L9 : Nat) (xs9 : Nat → Int32) (a0 : Nat) (Q : Int32 → ql_H → Prop) (X : String → ql_H → Prop) (p : Program) (e : Env) (s : State) (m : MethodId) (below : List Frame) (meth : Method) (c : Code) (C : ql_C D h0 p m c cL_law 9 s [.ref a0].toArray "ClauseLedgerLaw") (hr : meth.sig.returnType = some .boolean) (hlocks : meth.locks = false) (htab : ∀ x ∈ c.exceptionTable.toList, False) (hX : va_X a0 L9 xs9 s s.heap ∧ a0 < s.heap.size ∧ ¬ ql_A h0 a0) : ∀ n : Nat, n + 1 ≤ 513 → ∀ (k28 : Option Nat → Option Nat → Option Nat → Option Nat → Int32 → ql_H → Prop) (hk28 : ∀ (rl1 : Option Nat) (rl2 : Option Nat) (rl3 : Option Nat) (rl4 : Option Nat) (xl5 : Int32) (h : ql_H) (H : Heap) (locs : List Loc) (ls : Array Slot), ql_S D h0 s H locs h → lv_has ls 9 [(0, .ref a0), (1, va_rf rl1), (2, va_rf rl2), (3, va_rf rl3), (4, va_rf rl4), (5, .int xl5)] → k28 rl1 rl2 rl3 rl4 xl5 h → W p l e ({ frames := 2048, cells := 603072, slots := 7190633, locals := 94400 } : Room) s m ([.ref a0] : List Value).toArray below meth c H locs (1032 + (513 - n) * 21) (15200 + (513 - n) * 5126) (vx_MQ below (ql_Q D h0 (ql_rI Q)) (ql_X D h0 X) ([.ref a0] : List Value).toArray s 603072 7190633 (ql_A h0)) (F0 m 28 ls [])) , ∀ (rl1 : Option Nat) (rl2 : Option Nat) (rl3 : Option Nat) (rl4 : Option Nat) (xl5 : Int32) (h : ql_H) (H : Heap) (locs : List Loc) (ls : Array Slot), ql_S D h0 s H locs h → lv_has ls 9 [(0, .ref a0), (1, va_rf rl1), (2, va_rf rl2), (3, va_rf rl3), (4, va_rf rl4), (5, .int xl5)] → qw_L_law_986 D.2 L9 xs9 a0 Q X k28 rl1 rl2 rl3 rl4 xl5 h → W p l e ({ frames := 2048, cells := 603072, slots := 7190633, locals := 94400 } : Room) s m ([.ref a0] : List Value).toArray below meth c H locs (1033 + (513 - (n + 1)) * 21) (15206 + (513 - (n + 1)) * 5126) (vx_MQ below (ql_Q D h0 (ql_rI Q)) (ql_X D h0 X) ([.ref a0] : List Value).toArray s 603072 7190633 (ql_A h0)) (F0 m 986 ls []) := by
  intro n hn9 k28 hk28 rl1 rl2 rl3 rl4 xl5 h H locs ls S hl w
  unfold qw_L_law_986 at w
  refine lv_goto (tgt := 2957) C.1.1 C.1.2.1 dL_law_986 (by decide) ?_
  refine W.widen (k := (1053 + (513 - (n + 1)) * 21)) (n := (20326 + (513 - (n + 1)) * 5126)) (by omega) (by omega) ?_
  exact (qm_L_law_2957 l hl9 D h0 L9 xs9 a0 Q X p e s m below meth c C hr hlocks htab hX) n hn9 k28 hk28 rl1 rl2 rl3 rl4 xl5 _ _ _ _ S (lv_sub hl [0, 1, 2, 3, 4, 5] rfl) w
set_option maxHeartbeats 4000000 in
set_option maxRecDepth 100000 in
theorem qm_L_law_933 (l : Launch) (hl9 : l.stackTraces = false) (D : ql_D) (h0 : ql_H) (L9 : Nat) (xs9 : Nat → Int32) (a0 : Nat) (Q : Int32 → ql_H → Prop) (X : String → ql_H → Prop) (p : Program) (e : Env) (s : State) (m : MethodId) (below : List Frame) (meth : Method) (c : Code) (C : ql_C D h0 p m c cL_law 9 s [.ref a0].toArray "ClauseLedgerLaw") (hr : meth.sig.returnType = some .boolean) (hlocks : meth.locks = false) (htab : ∀ x ∈ c.exceptionTable.toList, False) (hX : va_X a0 L9 xs9 s s.heap ∧ a0 < s.heap.size ∧ ¬ ql_A h0 a0) : ∀ n : Nat, n + 1 ≤ 513 → ∀ (k28 : Option Nat → Option Nat → Option Nat → Option Nat → Int32 → ql_H → Prop) (hk28 : ∀ (rl1 : Option Nat) (rl2 : Option Nat) (rl3 : Option Nat) (rl4 : Option Nat) (xl5 : Int32) (h : ql_H) (H : Heap) (locs : List Loc) (ls : Array Slot), ql_S D h0 s H locs h → lv_has ls 9 [(0, .ref a0), (1, va_rf rl1), (2, va_rf rl2), (3, va_rf rl3), (4, va_rf rl4), (5, .int xl5)] → k28 rl1 rl2 rl3 rl4 xl5 h → W p l e ({ frames := 2048, cells := 603072, slots := 7190633, locals := 94400 } : Room) s m ([.ref a0] : List Value).toArray below meth c H locs (1032 + (513 - n) * 21) (15200 + (513 - n) * 5126) (vx_MQ below (ql_Q D h0 (ql_rI Q)) (ql_X D h0 X) ([.ref a0] : List Value).toArray s 603072 7190633 (ql_A h0)) (F0 m 28 ls [])) , ∀ (rl1 : Option Nat) (rl2 : Option Nat) (rl3 : Option Nat) (rl4 : Option Nat) (xl5 : Int32) (h : ql_H) (H : Heap) (locs : List Loc) (ls : Array Slot), ql_S D h0 s H locs h → lv_has ls 9 [(0, .ref a0), (1, va_rf rl1), (2, va_rf rl2), (3, va_rf rl3), (4, va_rf rl4), (5, .int xl5)] → qw_L_law_933 D.2 L9 xs9 a0 Q X k28 rl1 rl2 rl3 rl4 xl5 h → W p l e ({ frames := 2048, cells := 603072, slots := 7190633, locals := 94400 } : Room) s m ([.ref a0] : List Value).toArray below meth c H locs (1032 + (513 - (n + 1)) * 21) (15200 + (513 - (n + 1)) * 5126) (vx_MQ below (ql_Q D h0 (ql_rI Q)) (ql_X D h0 X) ([.ref a0] : List Value).toArray s 603072 7190633 (ql_A h0)) (F0 m 933 ls []) := by
  intro n hn9 k28 hk28 rl1 rl2 rl3 rl4 xl5 h H locs ls S hl w
  unfold qw_L_law_933 at w
  refine ql_aload_n (r := rl1) C dL_law_933 rfl (lv_at hl 1 rfl) ?_
  refine ql_aload_n (r := (some a0)) C dL_law_934 rfl (lv_at hl 0 rfl) ?_
  refine lv_iload C.1.1 C.1.2.1 dL_law_935 (lv_at hl 5 rfl) ?_
  refine lv_iconst (v := (1 : Int32)) C.1.1 C.1.2.1 dL_law_937 (by decide) ?_
  refine lv_iadd C.1.1 C.1.2.1 dL_law_938 ?_
  refine ql_sld C S hX w.1 dL_law_939 ?_
  replace w := w.2
  refine ql_aload_n (r := rl3) C dL_law_940 rfl (lv_at hl 3 rfl) ?_
  refine ql_SHI (As := [va_rf rl1, .int (xs9 (xl5 + (1 : Int32)).toNatClampNeg), va_rf rl3]) (rest := []) C S hl qyh_L_clauseAt gw_969 (qm_L_clauseAt l hl9 D _ rl1 (xs9 (xl5 + (1 : Int32)).toNatClampNeg) rl3 _ _ w) rfl ⟨Nat.le_of_ble_eq_true rfl, Nat.le_of_ble_eq_true rfl⟩ ⟨rfl, rfl⟩ (by exact Nat.le_of_ble_eq_true rfl) rfl dL_law_941 ⟨(by show _ ≤ (603072 : Nat); omega), (by show _ ≤ (7190633 : Nat); omega)⟩ (fun x67 h H locs S w => ?_)
  refine W.cs (cells' := (1033 + (513 - (n + 1)) * 21)) (slots' := (15206 + (513 - (n + 1)) * 5126)) (by omega) (by omega) ?_
  refine lv_istore (lv' := [(6, .int x67), (0, .ref a0), (1, va_rf rl1), (2, va_rf rl2), (3, va_rf rl3), (4, va_rf rl4), (5, .int xl5)]) C.1.1 C.1.2.1 dL_law_944 hl (by decide) rfl (fun ls hl => ?_)
  refine ql_aload_n (r := rl2) C dL_law_946 rfl (lv_at hl 3 rfl) ?_
  refine ql_aload_n (r := (some a0)) C dL_law_947 rfl (lv_at hl 1 rfl) ?_
  refine lv_iload C.1.1 C.1.2.1 dL_law_948 (lv_at hl 6 rfl) ?_
  refine lv_iconst (v := (1 : Int32)) C.1.1 C.1.2.1 dL_law_950 (by decide) ?_
  refine lv_iadd C.1.1 C.1.2.1 dL_law_951 ?_
  refine ql_sld C S hX w.1 dL_law_952 ?_
  replace w := w.2
  refine ql_VI (As := [.int (xs9 (xl5 + (1 : Int32)).toNatClampNeg)]) (rest := []) C S htab hlocks hl qy_X12_clauseAt qi_X12_clauseAt qs_X12_clauseAt gw_1860 (ci := 13) rfl w (fun b w => qm_X12_clauseAt l hl9 D _ b (xs9 (xl5 + (1 : Int32)).toNatClampNeg) _ _ w) rfl ⟨Nat.le_of_ble_eq_true rfl, Nat.le_of_ble_eq_true rfl⟩ ⟨rfl, rfl⟩ (by exact Nat.le_of_ble_eq_true rfl) (fun b e9 => by cases e9; rfl) dL_law_953 ⟨(by show _ ≤ (603072 : Nat); omega), (by show _ ≤ (7190633 : Nat); omega)⟩ ⟨(by show _ ≤ (603072 : Nat); omega), (by show _ ≤ (7190633 : Nat); omega)⟩ (fun x68 h H locs S w => ?_)
  refine W.cs (cells' := (1033 + (513 - (n + 1)) * 21)) (slots' := (15206 + (513 - (n + 1)) * 5126)) (by omega) (by omega) ?_
  refine lv_istore (lv' := [(7, .int x68), (6, .int x67), (0, .ref a0), (1, va_rf rl1), (2, va_rf rl2), (3, va_rf rl3), (4, va_rf rl4), (5, .int xl5)]) C.1.1 C.1.2.1 dL_law_956 hl (by decide) rfl (fun ls hl => ?_)
  refine ql_aload_n (r := rl2) C dL_law_958 rfl (lv_at hl 4 rfl) ?_
  refine ql_VI (As := []) (rest := []) C S htab hlocks hl qy_X12_thrown qi_X12_thrown qs_X12_thrown gw_1727 (ci := 13) rfl w (fun b w => qm_X12_thrown l hl9 D _ b _ _ w) rfl ⟨Nat.le_of_ble_eq_true rfl, Nat.le_of_ble_eq_true rfl⟩ ⟨rfl, rfl⟩ (by exact Nat.le_of_ble_eq_true rfl) (fun b e9 => by cases e9; rfl) dL_law_959 ⟨(by show _ ≤ (603072 : Nat); omega), (by show _ ≤ (7190633 : Nat); omega)⟩ ⟨(by show _ ≤ (603072 : Nat); omega), (by show _ ≤ (7190633 : Nat); omega)⟩ (fun x70 h H locs S w => ?_)
  refine W.cs (cells' := (1033 + (513 - (n + 1)) * 21)) (slots' := (15206 + (513 - (n + 1)) * 5126)) (by omega) (by omega) ?_
  refine lv_iload C.1.1 C.1.2.1 dL_law_962 (lv_at hl 1 rfl) ?_
  refine lv_icmp_eq (tgt := 969) C.1.1 C.1.2.1 dL_law_964 (by decide) (fun c9 => ?_) (fun c9 => ?_)
  · replace w := ql_if w c9
    refine lv_iload C.1.1 C.1.2.1 dL_law_969 (lv_at hl 1 rfl) ?_
    refine lv_if_ne (tgt := 986) C.1.1 C.1.2.1 dL_law_971 (by decide) (fun c9 => ?_) (fun c9 => ?_)
    · replace w := ql_ifn w c9
      exact (qm_L_law_986 l hl9 D h0 L9 xs9 a0 Q X p e s m below meth c C hr hlocks htab hX) n hn9 k28 hk28 rl1 rl2 rl3 rl4 xl5 _ _ _ _ S (lv_sub hl [2, 3, 4, 5, 6, 7] rfl) w
    · replace w := ql_if w c9
      refine ql_aload_n (r := rl3) C dL_law_974 rfl (lv_at hl 5 rfl) ?_
      refine lv_iconst (v := (0 : Int32)) C.1.1 C.1.2.1 dL_law_975 (by decide) ?_
      refine ql_lald C S dL_law_976 w (fun j72 w => ?_)
      refine lv_iload C.1.1 C.1.2.1 dL_law_977 (lv_at hl 0 rfl) ?_
      refine lv_i2l C.1.1 C.1.2.1 dL_law_979 rfl ?_
      refine W.lcmp C.1.1 C.1.2.1 dL_law_980 ?_
      refine lv_if_eq (tgt := 986) C.1.1 C.1.2.1 dL_law_981 (by decide) (fun c9 => ?_) (fun c9 => ?_)
      · replace w := ql_if w c9
        exact (qm_L_law_986 l hl9 D h0 L9 xs9 a0 Q X p e s m below meth c C hr hlocks htab hX) n hn9 k28 hk28 rl1 rl2 rl3 rl4 xl5 _ _ _ _ S (lv_sub hl [2, 3, 4, 5, 6, 7] rfl) w
      · replace w := ql_ifn w c9
        refine lv_iconst (v := (0 : Int32)) C.1.1 C.1.2.1 dL_law_984 (by decide) ?_
        exact ql_zret C S hr hlocks dL_law_985 ⟨(by show _ ≤ (603072 : Nat); omega), (by show _ ≤ (7190633 : Nat); omega)⟩ w
  · replace w := ql_ifn w c9
    refine lv_iconst (v := (0 : Int32)) C.1.1 C.1.2.1 dL_law_967 (by decide) ?_
    exact ql_zret C S hr hlocks dL_law_968 ⟨(by show _ ≤ (603072 : Nat); omega), (by show _ ≤ (7190633 : Nat); omega)⟩ w
set_option maxHeartbeats 4000000 in
set_option maxRecDepth 100000 in
theorem qm_L_law_1042 (l : Launch) (hl9 : l.stackTraces = false) (D : ql_D) (h0 : ql_H) (L9 : Nat) (xs9 : Nat → Int32) (a0 : Nat) (Q : Int32 → ql_H → Prop) (X : String → ql_H → Prop) (p : Program) (e : Env) (s : State) (m : MethodId) (below : List Frame) (meth : Method) (c : Code) (C : ql_C D h0 p m c cL_law 9 s [.ref a0].toArray "ClauseLedgerLaw") (hr : meth.sig.returnType = some .boolean) (hlocks : meth.locks = false) (htab : ∀ x ∈ c.exceptionTable.toList, False) (hX : va_X a0 L9 xs9 s s.heap ∧ a0 < s.heap.size ∧ ¬ ql_A h0 a0) : ∀ n : Nat, n + 1 ≤ 513 → ∀ (k28 : Option Nat → Option Nat → Option Nat → Option Nat → Int32 → ql_H → Prop) (hk28 : ∀ (rl1 : Option Nat) (rl2 : Option Nat) (rl3 : Option Nat) (rl4 : Option Nat) (xl5 : Int32) (h : ql_H) (H : Heap) (locs : List Loc) (ls : Array Slot), ql_S D h0 s H locs h → lv_has ls 9 [(0, .ref a0), (1, va_rf rl1), (2, va_rf rl2), (3, va_rf rl3), (4, va_rf rl4), (5, .int xl5)] → k28 rl1 rl2 rl3 rl4 xl5 h → W p l e ({ frames := 2048, cells := 603072, slots := 7190633, locals := 94400 } : Room) s m ([.ref a0] : List Value).toArray below meth c H locs (1032 + (513 - n) * 21) (15200 + (513 - n) * 5126) (vx_MQ below (ql_Q D h0 (ql_rI Q)) (ql_X D h0 X) ([.ref a0] : List Value).toArray s 603072 7190633 (ql_A h0)) (F0 m 28 ls [])) , ∀ (rl1 : Option Nat) (rl2 : Option Nat) (rl3 : Option Nat) (rl4 : Option Nat) (xl5 : Int32) (h : ql_H) (H : Heap) (locs : List Loc) (ls : Array Slot), ql_S D h0 s H locs h → lv_has ls 9 [(0, .ref a0), (1, va_rf rl1), (2, va_rf rl2), (3, va_rf rl3), (4, va_rf rl4), (5, .int xl5)] → qw_L_law_1042 D.2 L9 xs9 a0 Q X k28 rl1 rl2 rl3 rl4 xl5 h → W p l e ({ frames := 2048, cells := 603072, slots := 7190633, locals := 94400 } : Room) s m ([.ref a0] : List Value).toArray below meth c H locs (1033 + (513 - (n + 1)) * 21) (15206 + (513 - (n + 1)) * 5126) (vx_MQ below (ql_Q D h0 (ql_rI Q)) (ql_X D h0 X) ([.ref a0] : List Value).toArray s 603072 7190633 (ql_A h0)) (F0 m 1042 ls []) := by
  intro n hn9 k28 hk28 rl1 rl2 rl3 rl4 xl5 h H locs ls S hl w
  unfold qw_L_law_1042 at w
  refine lv_goto (tgt := 2957) C.1.1 C.1.2.1 dL_law_1042 (by decide) ?_
  refine W.widen (k := (1053 + (513 - (n + 1)) * 21)) (n := (20326 + (513 - (n + 1)) * 5126)) (by omega) (by omega) ?_
  exact (qm_L_law_2957 l hl9 D h0 L9 xs9 a0 Q X p e s m below meth c C hr hlocks htab hX) n hn9 k28 hk28 rl1 rl2 rl3 rl4 xl5 _ _ _ _ S (lv_sub hl [0, 1, 2, 3, 4, 5] rfl) w
set_option maxHeartbeats 4000000 in
set_option maxRecDepth 100000 in
theorem qm_L_law_989 (l : Launch) (hl9 : l.stackTraces = false) (D : ql_D) (h0 : ql_H) (L9 : Nat) (xs9 : Nat → Int32) (a0 : Nat) (Q : Int32 → ql_H → Prop) (X : String → ql_H → Prop) (p : Program) (e : Env) (s : State) (m : MethodId) (below : List Frame) (meth : Method) (c : Code) (C : ql_C D h0 p m c cL_law 9 s [.ref a0].toArray "ClauseLedgerLaw") (hr : meth.sig.returnType = some .boolean) (hlocks : meth.locks = false) (htab : ∀ x ∈ c.exceptionTable.toList, False) (hX : va_X a0 L9 xs9 s s.heap ∧ a0 < s.heap.size ∧ ¬ ql_A h0 a0) : ∀ n : Nat, n + 1 ≤ 513 → ∀ (k28 : Option Nat → Option Nat → Option Nat → Option Nat → Int32 → ql_H → Prop) (hk28 : ∀ (rl1 : Option Nat) (rl2 : Option Nat) (rl3 : Option Nat) (rl4 : Option Nat) (xl5 : Int32) (h : ql_H) (H : Heap) (locs : List Loc) (ls : Array Slot), ql_S D h0 s H locs h → lv_has ls 9 [(0, .ref a0), (1, va_rf rl1), (2, va_rf rl2), (3, va_rf rl3), (4, va_rf rl4), (5, .int xl5)] → k28 rl1 rl2 rl3 rl4 xl5 h → W p l e ({ frames := 2048, cells := 603072, slots := 7190633, locals := 94400 } : Room) s m ([.ref a0] : List Value).toArray below meth c H locs (1032 + (513 - n) * 21) (15200 + (513 - n) * 5126) (vx_MQ below (ql_Q D h0 (ql_rI Q)) (ql_X D h0 X) ([.ref a0] : List Value).toArray s 603072 7190633 (ql_A h0)) (F0 m 28 ls [])) , ∀ (rl1 : Option Nat) (rl2 : Option Nat) (rl3 : Option Nat) (rl4 : Option Nat) (xl5 : Int32) (h : ql_H) (H : Heap) (locs : List Loc) (ls : Array Slot), ql_S D h0 s H locs h → lv_has ls 9 [(0, .ref a0), (1, va_rf rl1), (2, va_rf rl2), (3, va_rf rl3), (4, va_rf rl4), (5, .int xl5)] → qw_L_law_989 D.2 L9 xs9 a0 Q X k28 rl1 rl2 rl3 rl4 xl5 h → W p l e ({ frames := 2048, cells := 603072, slots := 7190633, locals := 94400 } : Room) s m ([.ref a0] : List Value).toArray below meth c H locs (1032 + (513 - (n + 1)) * 21) (15200 + (513 - (n + 1)) * 5126) (vx_MQ below (ql_Q D h0 (ql_rI Q)) (ql_X D h0 X) ([.ref a0] : List Value).toArray s 603072 7190633 (ql_A h0)) (F0 m 989 ls []) := by
  intro n hn9 k28 hk28 rl1 rl2 rl3 rl4 xl5 h H locs ls S hl w
  unfold qw_L_law_989 at w
  refine ql_aload_n (r := rl1) C dL_law_989 rfl (lv_at hl 1 rfl) ?_
  refine ql_aload_n (r := (some a0)) C dL_law_990 rfl (lv_at hl 0 rfl) ?_
  refine lv_iload C.1.1 C.1.2.1 dL_law_991 (lv_at hl 5 rfl) ?_
  refine lv_iconst (v := (1 : Int32)) C.1.1 C.1.2.1 dL_law_993 (by decide) ?_
  refine lv_iadd C.1.1 C.1.2.1 dL_law_994 ?_
  refine ql_sld C S hX w.1 dL_law_995 ?_
  replace w := w.2
  refine ql_aload_n (r := rl3) C dL_law_996 rfl (lv_at hl 3 rfl) ?_
  refine ql_SHI (As := [va_rf rl1, .int (xs9 (xl5 + (1 : Int32)).toNatClampNeg), va_rf rl3]) (rest := []) C S hl qyh_L_clauseOfSection gw_980 (qm_L_clauseOfSection l hl9 D _ rl1 (xs9 (xl5 + (1 : Int32)).toNatClampNeg) rl3 _ _ w) rfl ⟨Nat.le_of_ble_eq_true rfl, Nat.le_of_ble_eq_true rfl⟩ ⟨rfl, rfl⟩ (by exact Nat.le_of_ble_eq_true rfl) rfl dL_law_997 ⟨(by show _ ≤ (603072 : Nat); omega), (by show _ ≤ (7190633 : Nat); omega)⟩ (fun x73 h H locs S w => ?_)
  refine W.cs (cells' := (1033 + (513 - (n + 1)) * 21)) (slots' := (15206 + (513 - (n + 1)) * 5126)) (by omega) (by omega) ?_
  refine lv_istore (lv' := [(6, .int x73), (0, .ref a0), (1, va_rf rl1), (2, va_rf rl2), (3, va_rf rl3), (4, va_rf rl4), (5, .int xl5)]) C.1.1 C.1.2.1 dL_law_1000 hl (by decide) rfl (fun ls hl => ?_)
  refine ql_aload_n (r := rl2) C dL_law_1002 rfl (lv_at hl 3 rfl) ?_
  refine ql_aload_n (r := (some a0)) C dL_law_1003 rfl (lv_at hl 1 rfl) ?_
  refine lv_iload C.1.1 C.1.2.1 dL_law_1004 (lv_at hl 6 rfl) ?_
  refine lv_iconst (v := (1 : Int32)) C.1.1 C.1.2.1 dL_law_1006 (by decide) ?_
  refine lv_iadd C.1.1 C.1.2.1 dL_law_1007 ?_
  refine ql_sld C S hX w.1 dL_law_1008 ?_
  replace w := w.2
  refine ql_VI (As := [.int (xs9 (xl5 + (1 : Int32)).toNatClampNeg)]) (rest := []) C S htab hlocks hl qy_X12_clauseOfSection qi_X12_clauseOfSection qs_X12_clauseOfSection gw_1864 (ci := 13) rfl w (fun b w => qm_X12_clauseOfSection l hl9 D _ b (xs9 (xl5 + (1 : Int32)).toNatClampNeg) _ _ w) rfl ⟨Nat.le_of_ble_eq_true rfl, Nat.le_of_ble_eq_true rfl⟩ ⟨rfl, rfl⟩ (by exact Nat.le_of_ble_eq_true rfl) (fun b e9 => by cases e9; rfl) dL_law_1009 ⟨(by show _ ≤ (603072 : Nat); omega), (by show _ ≤ (7190633 : Nat); omega)⟩ ⟨(by show _ ≤ (603072 : Nat); omega), (by show _ ≤ (7190633 : Nat); omega)⟩ (fun x74 h H locs S w => ?_)
  refine W.cs (cells' := (1033 + (513 - (n + 1)) * 21)) (slots' := (15206 + (513 - (n + 1)) * 5126)) (by omega) (by omega) ?_
  refine lv_istore (lv' := [(7, .int x74), (6, .int x73), (0, .ref a0), (1, va_rf rl1), (2, va_rf rl2), (3, va_rf rl3), (4, va_rf rl4), (5, .int xl5)]) C.1.1 C.1.2.1 dL_law_1012 hl (by decide) rfl (fun ls hl => ?_)
  refine ql_aload_n (r := rl2) C dL_law_1014 rfl (lv_at hl 4 rfl) ?_
  refine ql_VI (As := []) (rest := []) C S htab hlocks hl qy_X12_thrown qi_X12_thrown qs_X12_thrown gw_1727 (ci := 13) rfl w (fun b w => qm_X12_thrown l hl9 D _ b _ _ w) rfl ⟨Nat.le_of_ble_eq_true rfl, Nat.le_of_ble_eq_true rfl⟩ ⟨rfl, rfl⟩ (by exact Nat.le_of_ble_eq_true rfl) (fun b e9 => by cases e9; rfl) dL_law_1015 ⟨(by show _ ≤ (603072 : Nat); omega), (by show _ ≤ (7190633 : Nat); omega)⟩ ⟨(by show _ ≤ (603072 : Nat); omega), (by show _ ≤ (7190633 : Nat); omega)⟩ (fun x76 h H locs S w => ?_)
  refine W.cs (cells' := (1033 + (513 - (n + 1)) * 21)) (slots' := (15206 + (513 - (n + 1)) * 5126)) (by omega) (by omega) ?_
  refine lv_iload C.1.1 C.1.2.1 dL_law_1018 (lv_at hl 1 rfl) ?_
  refine lv_icmp_eq (tgt := 1025) C.1.1 C.1.2.1 dL_law_1020 (by decide) (fun c9 => ?_) (fun c9 => ?_)
  · replace w := ql_if w c9
    refine lv_iload C.1.1 C.1.2.1 dL_law_1025 (lv_at hl 1 rfl) ?_
    refine lv_if_ne (tgt := 1042) C.1.1 C.1.2.1 dL_law_1027 (by decide) (fun c9 => ?_) (fun c9 => ?_)
    · replace w := ql_ifn w c9
      exact (qm_L_law_1042 l hl9 D h0 L9 xs9 a0 Q X p e s m below meth c C hr hlocks htab hX) n hn9 k28 hk28 rl1 rl2 rl3 rl4 xl5 _ _ _ _ S (lv_sub hl [2, 3, 4, 5, 6, 7] rfl) w
    · replace w := ql_if w c9
      refine ql_aload_n (r := rl3) C dL_law_1030 rfl (lv_at hl 5 rfl) ?_
      refine lv_iconst (v := (0 : Int32)) C.1.1 C.1.2.1 dL_law_1031 (by decide) ?_
      refine ql_lald C S dL_law_1032 w (fun j78 w => ?_)
      refine lv_iload C.1.1 C.1.2.1 dL_law_1033 (lv_at hl 0 rfl) ?_
      refine lv_i2l C.1.1 C.1.2.1 dL_law_1035 rfl ?_
      refine W.lcmp C.1.1 C.1.2.1 dL_law_1036 ?_
      refine lv_if_eq (tgt := 1042) C.1.1 C.1.2.1 dL_law_1037 (by decide) (fun c9 => ?_) (fun c9 => ?_)
      · replace w := ql_if w c9
        exact (qm_L_law_1042 l hl9 D h0 L9 xs9 a0 Q X p e s m below meth c C hr hlocks htab hX) n hn9 k28 hk28 rl1 rl2 rl3 rl4 xl5 _ _ _ _ S (lv_sub hl [2, 3, 4, 5, 6, 7] rfl) w
      · replace w := ql_ifn w c9
        refine lv_iconst (v := (0 : Int32)) C.1.1 C.1.2.1 dL_law_1040 (by decide) ?_
        exact ql_zret C S hr hlocks dL_law_1041 ⟨(by show _ ≤ (603072 : Nat); omega), (by show _ ≤ (7190633 : Nat); omega)⟩ w
  · replace w := ql_ifn w c9
    refine lv_iconst (v := (0 : Int32)) C.1.1 C.1.2.1 dL_law_1023 (by decide) ?_
    exact ql_zret C S hr hlocks dL_law_1024 ⟨(by show _ ≤ (603072 : Nat); omega), (by show _ ≤ (7190633 : Nat); omega)⟩ w
set_option maxHeartbeats 4000000 in
set_option maxRecDepth 100000 in
theorem qm_L_law_1098 (l : Launch) (hl9 : l.stackTraces = false) (D : ql_D) (h0 : ql_H) (L9 : Nat) (xs9 : Nat → Int32) (a0 : Nat) (Q : Int32 → ql_H → Prop) (X : String → ql_H → Prop) (p : Program) (e : Env) (s : State) (m : MethodId) (below : List Frame) (meth : Method) (c : Code) (C : ql_C D h0 p m c cL_law 9 s [.ref a0].toArray "ClauseLedgerLaw") (hr : meth.sig.returnType = some .boolean) (hlocks : meth.locks = false) (htab : ∀ x ∈ c.exceptionTable.toList, False) (hX : va_X a0 L9 xs9 s s.heap ∧ a0 < s.heap.size ∧ ¬ ql_A h0 a0) : ∀ n : Nat, n + 1 ≤ 513 → ∀ (k28 : Option Nat → Option Nat → Option Nat → Option Nat → Int32 → ql_H → Prop) (hk28 : ∀ (rl1 : Option Nat) (rl2 : Option Nat) (rl3 : Option Nat) (rl4 : Option Nat) (xl5 : Int32) (h : ql_H) (H : Heap) (locs : List Loc) (ls : Array Slot), ql_S D h0 s H locs h → lv_has ls 9 [(0, .ref a0), (1, va_rf rl1), (2, va_rf rl2), (3, va_rf rl3), (4, va_rf rl4), (5, .int xl5)] → k28 rl1 rl2 rl3 rl4 xl5 h → W p l e ({ frames := 2048, cells := 603072, slots := 7190633, locals := 94400 } : Room) s m ([.ref a0] : List Value).toArray below meth c H locs (1032 + (513 - n) * 21) (15200 + (513 - n) * 5126) (vx_MQ below (ql_Q D h0 (ql_rI Q)) (ql_X D h0 X) ([.ref a0] : List Value).toArray s 603072 7190633 (ql_A h0)) (F0 m 28 ls [])) , ∀ (rl1 : Option Nat) (rl2 : Option Nat) (rl3 : Option Nat) (rl4 : Option Nat) (xl5 : Int32) (h : ql_H) (H : Heap) (locs : List Loc) (ls : Array Slot), ql_S D h0 s H locs h → lv_has ls 9 [(0, .ref a0), (1, va_rf rl1), (2, va_rf rl2), (3, va_rf rl3), (4, va_rf rl4), (5, .int xl5)] → qw_L_law_1098 D.2 L9 xs9 a0 Q X k28 rl1 rl2 rl3 rl4 xl5 h → W p l e ({ frames := 2048, cells := 603072, slots := 7190633, locals := 94400 } : Room) s m ([.ref a0] : List Value).toArray below meth c H locs (1033 + (513 - (n + 1)) * 21) (15206 + (513 - (n + 1)) * 5126) (vx_MQ below (ql_Q D h0 (ql_rI Q)) (ql_X D h0 X) ([.ref a0] : List Value).toArray s 603072 7190633 (ql_A h0)) (F0 m 1098 ls []) := by
  intro n hn9 k28 hk28 rl1 rl2 rl3 rl4 xl5 h H locs ls S hl w
  unfold qw_L_law_1098 at w
  refine lv_goto (tgt := 2957) C.1.1 C.1.2.1 dL_law_1098 (by decide) ?_
  refine W.widen (k := (1053 + (513 - (n + 1)) * 21)) (n := (20326 + (513 - (n + 1)) * 5126)) (by omega) (by omega) ?_
  exact (qm_L_law_2957 l hl9 D h0 L9 xs9 a0 Q X p e s m below meth c C hr hlocks htab hX) n hn9 k28 hk28 rl1 rl2 rl3 rl4 xl5 _ _ _ _ S (lv_sub hl [0, 1, 2, 3, 4, 5] rfl) w
set_option maxHeartbeats 4000000 in
set_option maxRecDepth 100000 in
theorem qm_L_law_1045 (l : Launch) (hl9 : l.stackTraces = false) (D : ql_D) (h0 : ql_H) (L9 : Nat) (xs9 : Nat → Int32) (a0 : Nat) (Q : Int32 → ql_H → Prop) (X : String → ql_H → Prop) (p : Program) (e : Env) (s : State) (m : MethodId) (below : List Frame) (meth : Method) (c : Code) (C : ql_C D h0 p m c cL_law 9 s [.ref a0].toArray "ClauseLedgerLaw") (hr : meth.sig.returnType = some .boolean) (hlocks : meth.locks = false) (htab : ∀ x ∈ c.exceptionTable.toList, False) (hX : va_X a0 L9 xs9 s s.heap ∧ a0 < s.heap.size ∧ ¬ ql_A h0 a0) : ∀ n : Nat, n + 1 ≤ 513 → ∀ (k28 : Option Nat → Option Nat → Option Nat → Option Nat → Int32 → ql_H → Prop) (hk28 : ∀ (rl1 : Option Nat) (rl2 : Option Nat) (rl3 : Option Nat) (rl4 : Option Nat) (xl5 : Int32) (h : ql_H) (H : Heap) (locs : List Loc) (ls : Array Slot), ql_S D h0 s H locs h → lv_has ls 9 [(0, .ref a0), (1, va_rf rl1), (2, va_rf rl2), (3, va_rf rl3), (4, va_rf rl4), (5, .int xl5)] → k28 rl1 rl2 rl3 rl4 xl5 h → W p l e ({ frames := 2048, cells := 603072, slots := 7190633, locals := 94400 } : Room) s m ([.ref a0] : List Value).toArray below meth c H locs (1032 + (513 - n) * 21) (15200 + (513 - n) * 5126) (vx_MQ below (ql_Q D h0 (ql_rI Q)) (ql_X D h0 X) ([.ref a0] : List Value).toArray s 603072 7190633 (ql_A h0)) (F0 m 28 ls [])) , ∀ (rl1 : Option Nat) (rl2 : Option Nat) (rl3 : Option Nat) (rl4 : Option Nat) (xl5 : Int32) (h : ql_H) (H : Heap) (locs : List Loc) (ls : Array Slot), ql_S D h0 s H locs h → lv_has ls 9 [(0, .ref a0), (1, va_rf rl1), (2, va_rf rl2), (3, va_rf rl3), (4, va_rf rl4), (5, .int xl5)] → qw_L_law_1045 D.2 L9 xs9 a0 Q X k28 rl1 rl2 rl3 rl4 xl5 h → W p l e ({ frames := 2048, cells := 603072, slots := 7190633, locals := 94400 } : Room) s m ([.ref a0] : List Value).toArray below meth c H locs (1032 + (513 - (n + 1)) * 21) (15200 + (513 - (n + 1)) * 5126) (vx_MQ below (ql_Q D h0 (ql_rI Q)) (ql_X D h0 X) ([.ref a0] : List Value).toArray s 603072 7190633 (ql_A h0)) (F0 m 1045 ls []) := by
  intro n hn9 k28 hk28 rl1 rl2 rl3 rl4 xl5 h H locs ls S hl w
  unfold qw_L_law_1045 at w
  refine ql_aload_n (r := rl1) C dL_law_1045 rfl (lv_at hl 1 rfl) ?_
  refine ql_aload_n (r := (some a0)) C dL_law_1046 rfl (lv_at hl 0 rfl) ?_
  refine lv_iload C.1.1 C.1.2.1 dL_law_1047 (lv_at hl 5 rfl) ?_
  refine lv_iconst (v := (1 : Int32)) C.1.1 C.1.2.1 dL_law_1049 (by decide) ?_
  refine lv_iadd C.1.1 C.1.2.1 dL_law_1050 ?_
  refine ql_sld C S hX w.1 dL_law_1051 ?_
  replace w := w.2
  refine ql_aload_n (r := rl3) C dL_law_1052 rfl (lv_at hl 3 rfl) ?_
  refine ql_SHI (As := [va_rf rl1, .int (xs9 (xl5 + (1 : Int32)).toNatClampNeg), va_rf rl3]) (rest := []) C S hl qyh_L_section gw_988 (qm_L_section l hl9 D _ rl1 (xs9 (xl5 + (1 : Int32)).toNatClampNeg) rl3 _ _ w) rfl ⟨Nat.le_of_ble_eq_true rfl, Nat.le_of_ble_eq_true rfl⟩ ⟨rfl, rfl⟩ (by exact Nat.le_of_ble_eq_true rfl) rfl dL_law_1053 ⟨(by show _ ≤ (603072 : Nat); omega), (by show _ ≤ (7190633 : Nat); omega)⟩ (fun x79 h H locs S w => ?_)
  refine W.cs (cells' := (1033 + (513 - (n + 1)) * 21)) (slots' := (15206 + (513 - (n + 1)) * 5126)) (by omega) (by omega) ?_
  refine lv_istore (lv' := [(6, .int x79), (0, .ref a0), (1, va_rf rl1), (2, va_rf rl2), (3, va_rf rl3), (4, va_rf rl4), (5, .int xl5)]) C.1.1 C.1.2.1 dL_law_1056 hl (by decide) rfl (fun ls hl => ?_)
  refine ql_aload_n (r := rl2) C dL_law_1058 rfl (lv_at hl 3 rfl) ?_
  refine ql_aload_n (r := (some a0)) C dL_law_1059 rfl (lv_at hl 1 rfl) ?_
  refine lv_iload C.1.1 C.1.2.1 dL_law_1060 (lv_at hl 6 rfl) ?_
  refine lv_iconst (v := (1 : Int32)) C.1.1 C.1.2.1 dL_law_1062 (by decide) ?_
  refine lv_iadd C.1.1 C.1.2.1 dL_law_1063 ?_
  refine ql_sld C S hX w.1 dL_law_1064 ?_
  replace w := w.2
  refine ql_VI (As := [.int (xs9 (xl5 + (1 : Int32)).toNatClampNeg)]) (rest := []) C S htab hlocks hl qy_X12_section qi_X12_section qs_X12_section gw_1868 (ci := 13) rfl w (fun b w => qm_X12_section l hl9 D _ b (xs9 (xl5 + (1 : Int32)).toNatClampNeg) _ _ w) rfl ⟨Nat.le_of_ble_eq_true rfl, Nat.le_of_ble_eq_true rfl⟩ ⟨rfl, rfl⟩ (by exact Nat.le_of_ble_eq_true rfl) (fun b e9 => by cases e9; rfl) dL_law_1065 ⟨(by show _ ≤ (603072 : Nat); omega), (by show _ ≤ (7190633 : Nat); omega)⟩ ⟨(by show _ ≤ (603072 : Nat); omega), (by show _ ≤ (7190633 : Nat); omega)⟩ (fun x80 h H locs S w => ?_)
  refine W.cs (cells' := (1033 + (513 - (n + 1)) * 21)) (slots' := (15206 + (513 - (n + 1)) * 5126)) (by omega) (by omega) ?_
  refine lv_istore (lv' := [(7, .int x80), (6, .int x79), (0, .ref a0), (1, va_rf rl1), (2, va_rf rl2), (3, va_rf rl3), (4, va_rf rl4), (5, .int xl5)]) C.1.1 C.1.2.1 dL_law_1068 hl (by decide) rfl (fun ls hl => ?_)
  refine ql_aload_n (r := rl2) C dL_law_1070 rfl (lv_at hl 4 rfl) ?_
  refine ql_VI (As := []) (rest := []) C S htab hlocks hl qy_X12_thrown qi_X12_thrown qs_X12_thrown gw_1727 (ci := 13) rfl w (fun b w => qm_X12_thrown l hl9 D _ b _ _ w) rfl ⟨Nat.le_of_ble_eq_true rfl, Nat.le_of_ble_eq_true rfl⟩ ⟨rfl, rfl⟩ (by exact Nat.le_of_ble_eq_true rfl) (fun b e9 => by cases e9; rfl) dL_law_1071 ⟨(by show _ ≤ (603072 : Nat); omega), (by show _ ≤ (7190633 : Nat); omega)⟩ ⟨(by show _ ≤ (603072 : Nat); omega), (by show _ ≤ (7190633 : Nat); omega)⟩ (fun x82 h H locs S w => ?_)
  refine W.cs (cells' := (1033 + (513 - (n + 1)) * 21)) (slots' := (15206 + (513 - (n + 1)) * 5126)) (by omega) (by omega) ?_
  refine lv_iload C.1.1 C.1.2.1 dL_law_1074 (lv_at hl 1 rfl) ?_
  refine lv_icmp_eq (tgt := 1081) C.1.1 C.1.2.1 dL_law_1076 (by decide) (fun c9 => ?_) (fun c9 => ?_)
  · replace w := ql_if w c9
    refine lv_iload C.1.1 C.1.2.1 dL_law_1081 (lv_at hl 1 rfl) ?_
    refine lv_if_ne (tgt := 1098) C.1.1 C.1.2.1 dL_law_1083 (by decide) (fun c9 => ?_) (fun c9 => ?_)
    · replace w := ql_ifn w c9
      exact (qm_L_law_1098 l hl9 D h0 L9 xs9 a0 Q X p e s m below meth c C hr hlocks htab hX) n hn9 k28 hk28 rl1 rl2 rl3 rl4 xl5 _ _ _ _ S (lv_sub hl [2, 3, 4, 5, 6, 7] rfl) w
    · replace w := ql_if w c9
      refine ql_aload_n (r := rl3) C dL_law_1086 rfl (lv_at hl 5 rfl) ?_
      refine lv_iconst (v := (0 : Int32)) C.1.1 C.1.2.1 dL_law_1087 (by decide) ?_
      refine ql_lald C S dL_law_1088 w (fun j84 w => ?_)
      refine lv_iload C.1.1 C.1.2.1 dL_law_1089 (lv_at hl 0 rfl) ?_
      refine lv_i2l C.1.1 C.1.2.1 dL_law_1091 rfl ?_
      refine W.lcmp C.1.1 C.1.2.1 dL_law_1092 ?_
      refine lv_if_eq (tgt := 1098) C.1.1 C.1.2.1 dL_law_1093 (by decide) (fun c9 => ?_) (fun c9 => ?_)
      · replace w := ql_if w c9
        exact (qm_L_law_1098 l hl9 D h0 L9 xs9 a0 Q X p e s m below meth c C hr hlocks htab hX) n hn9 k28 hk28 rl1 rl2 rl3 rl4 xl5 _ _ _ _ S (lv_sub hl [2, 3, 4, 5, 6, 7] rfl) w
      · replace w := ql_ifn w c9
        refine lv_iconst (v := (0 : Int32)) C.1.1 C.1.2.1 dL_law_1096 (by decide) ?_
        exact ql_zret C S hr hlocks dL_law_1097 ⟨(by show _ ≤ (603072 : Nat); omega), (by show _ ≤ (7190633 : Nat); omega)⟩ w
  · replace w := ql_ifn w c9
    refine lv_iconst (v := (0 : Int32)) C.1.1 C.1.2.1 dL_law_1079 (by decide) ?_
    exact ql_zret C S hr hlocks dL_law_1080 ⟨(by show _ ≤ (603072 : Nat); omega), (by show _ ≤ (7190633 : Nat); omega)⟩ w
set_option maxHeartbeats 4000000 in
set_option maxRecDepth 100000 in
theorem qm_L_law_1154 (l : Launch) (hl9 : l.stackTraces = false) (D : ql_D) (h0 : ql_H) (L9 : Nat) (xs9 : Nat → Int32) (a0 : Nat) (Q : Int32 → ql_H → Prop) (X : String → ql_H → Prop) (p : Program) (e : Env) (s : State) (m : MethodId) (below : List Frame) (meth : Method) (c : Code) (C : ql_C D h0 p m c cL_law 9 s [.ref a0].toArray "ClauseLedgerLaw") (hr : meth.sig.returnType = some .boolean) (hlocks : meth.locks = false) (htab : ∀ x ∈ c.exceptionTable.toList, False) (hX : va_X a0 L9 xs9 s s.heap ∧ a0 < s.heap.size ∧ ¬ ql_A h0 a0) : ∀ n : Nat, n + 1 ≤ 513 → ∀ (k28 : Option Nat → Option Nat → Option Nat → Option Nat → Int32 → ql_H → Prop) (hk28 : ∀ (rl1 : Option Nat) (rl2 : Option Nat) (rl3 : Option Nat) (rl4 : Option Nat) (xl5 : Int32) (h : ql_H) (H : Heap) (locs : List Loc) (ls : Array Slot), ql_S D h0 s H locs h → lv_has ls 9 [(0, .ref a0), (1, va_rf rl1), (2, va_rf rl2), (3, va_rf rl3), (4, va_rf rl4), (5, .int xl5)] → k28 rl1 rl2 rl3 rl4 xl5 h → W p l e ({ frames := 2048, cells := 603072, slots := 7190633, locals := 94400 } : Room) s m ([.ref a0] : List Value).toArray below meth c H locs (1032 + (513 - n) * 21) (15200 + (513 - n) * 5126) (vx_MQ below (ql_Q D h0 (ql_rI Q)) (ql_X D h0 X) ([.ref a0] : List Value).toArray s 603072 7190633 (ql_A h0)) (F0 m 28 ls [])) , ∀ (rl1 : Option Nat) (rl2 : Option Nat) (rl3 : Option Nat) (rl4 : Option Nat) (xl5 : Int32) (h : ql_H) (H : Heap) (locs : List Loc) (ls : Array Slot), ql_S D h0 s H locs h → lv_has ls 9 [(0, .ref a0), (1, va_rf rl1), (2, va_rf rl2), (3, va_rf rl3), (4, va_rf rl4), (5, .int xl5)] → qw_L_law_1154 D.2 L9 xs9 a0 Q X k28 rl1 rl2 rl3 rl4 xl5 h → W p l e ({ frames := 2048, cells := 603072, slots := 7190633, locals := 94400 } : Room) s m ([.ref a0] : List Value).toArray below meth c H locs (1033 + (513 - (n + 1)) * 21) (15206 + (513 - (n + 1)) * 5126) (vx_MQ below (ql_Q D h0 (ql_rI Q)) (ql_X D h0 X) ([.ref a0] : List Value).toArray s 603072 7190633 (ql_A h0)) (F0 m 1154 ls []) := by
  intro n hn9 k28 hk28 rl1 rl2 rl3 rl4 xl5 h H locs ls S hl w
  unfold qw_L_law_1154 at w
  refine lv_goto (tgt := 2957) C.1.1 C.1.2.1 dL_law_1154 (by decide) ?_
  refine W.widen (k := (1053 + (513 - (n + 1)) * 21)) (n := (20326 + (513 - (n + 1)) * 5126)) (by omega) (by omega) ?_
  exact (qm_L_law_2957 l hl9 D h0 L9 xs9 a0 Q X p e s m below meth c C hr hlocks htab hX) n hn9 k28 hk28 rl1 rl2 rl3 rl4 xl5 _ _ _ _ S (lv_sub hl [0, 1, 2, 3, 4, 5] rfl) w
set_option maxHeartbeats 4000000 in
set_option maxRecDepth 100000 in
theorem qm_L_law_1101 (l : Launch) (hl9 : l.stackTraces = false) (D : ql_D) (h0 : ql_H) (L9 : Nat) (xs9 : Nat → Int32) (a0 : Nat) (Q : Int32 → ql_H → Prop) (X : String → ql_H → Prop) (p : Program) (e : Env) (s : State) (m : MethodId) (below : List Frame) (meth : Method) (c : Code) (C : ql_C D h0 p m c cL_law 9 s [.ref a0].toArray "ClauseLedgerLaw") (hr : meth.sig.returnType = some .boolean) (hlocks : meth.locks = false) (htab : ∀ x ∈ c.exceptionTable.toList, False) (hX : va_X a0 L9 xs9 s s.heap ∧ a0 < s.heap.size ∧ ¬ ql_A h0 a0) : ∀ n : Nat, n + 1 ≤ 513 → ∀ (k28 : Option Nat → Option Nat → Option Nat → Option Nat → Int32 → ql_H → Prop) (hk28 : ∀ (rl1 : Option Nat) (rl2 : Option Nat) (rl3 : Option Nat) (rl4 : Option Nat) (xl5 : Int32) (h : ql_H) (H : Heap) (locs : List Loc) (ls : Array Slot), ql_S D h0 s H locs h → lv_has ls 9 [(0, .ref a0), (1, va_rf rl1), (2, va_rf rl2), (3, va_rf rl3), (4, va_rf rl4), (5, .int xl5)] → k28 rl1 rl2 rl3 rl4 xl5 h → W p l e ({ frames := 2048, cells := 603072, slots := 7190633, locals := 94400 } : Room) s m ([.ref a0] : List Value).toArray below meth c H locs (1032 + (513 - n) * 21) (15200 + (513 - n) * 5126) (vx_MQ below (ql_Q D h0 (ql_rI Q)) (ql_X D h0 X) ([.ref a0] : List Value).toArray s 603072 7190633 (ql_A h0)) (F0 m 28 ls [])) , ∀ (rl1 : Option Nat) (rl2 : Option Nat) (rl3 : Option Nat) (rl4 : Option Nat) (xl5 : Int32) (h : ql_H) (H : Heap) (locs : List Loc) (ls : Array Slot), ql_S D h0 s H locs h → lv_has ls 9 [(0, .ref a0), (1, va_rf rl1), (2, va_rf rl2), (3, va_rf rl3), (4, va_rf rl4), (5, .int xl5)] → qw_L_law_1101 D.2 L9 xs9 a0 Q X k28 rl1 rl2 rl3 rl4 xl5 h → W p l e ({ frames := 2048, cells := 603072, slots := 7190633, locals := 94400 } : Room) s m ([.ref a0] : List Value).toArray below meth c H locs (1032 + (513 - (n + 1)) * 21) (15200 + (513 - (n + 1)) * 5126) (vx_MQ below (ql_Q D h0 (ql_rI Q)) (ql_X D h0 X) ([.ref a0] : List Value).toArray s 603072 7190633 (ql_A h0)) (F0 m 1101 ls []) := by
  intro n hn9 k28 hk28 rl1 rl2 rl3 rl4 xl5 h H locs ls S hl w
  unfold qw_L_law_1101 at w
  refine ql_aload_n (r := rl1) C dL_law_1101 rfl (lv_at hl 1 rfl) ?_
  refine ql_aload_n (r := (some a0)) C dL_law_1102 rfl (lv_at hl 0 rfl) ?_
  refine lv_iload C.1.1 C.1.2.1 dL_law_1103 (lv_at hl 5 rfl) ?_
  refine lv_iconst (v := (1 : Int32)) C.1.1 C.1.2.1 dL_law_1105 (by decide) ?_
  refine lv_iadd C.1.1 C.1.2.1 dL_law_1106 ?_
  refine ql_sld C S hX w.1 dL_law_1107 ?_
  replace w := w.2
  refine ql_aload_n (r := rl3) C dL_law_1108 rfl (lv_at hl 3 rfl) ?_
  refine ql_SHI (As := [va_rf rl1, .int (xs9 (xl5 + (1 : Int32)).toNatClampNeg), va_rf rl3]) (rest := []) C S hl qyh_L_enactedOn gw_1000 (qm_L_enactedOn l hl9 D _ rl1 (xs9 (xl5 + (1 : Int32)).toNatClampNeg) rl3 _ _ w) rfl ⟨Nat.le_of_ble_eq_true rfl, Nat.le_of_ble_eq_true rfl⟩ ⟨rfl, rfl⟩ (by exact Nat.le_of_ble_eq_true rfl) rfl dL_law_1109 ⟨(by show _ ≤ (603072 : Nat); omega), (by show _ ≤ (7190633 : Nat); omega)⟩ (fun x85 h H locs S w => ?_)
  refine W.cs (cells' := (1033 + (513 - (n + 1)) * 21)) (slots' := (15206 + (513 - (n + 1)) * 5126)) (by omega) (by omega) ?_
  refine lv_istore (lv' := [(6, .int x85), (0, .ref a0), (1, va_rf rl1), (2, va_rf rl2), (3, va_rf rl3), (4, va_rf rl4), (5, .int xl5)]) C.1.1 C.1.2.1 dL_law_1112 hl (by decide) rfl (fun ls hl => ?_)
  refine ql_aload_n (r := rl2) C dL_law_1114 rfl (lv_at hl 3 rfl) ?_
  refine ql_aload_n (r := (some a0)) C dL_law_1115 rfl (lv_at hl 1 rfl) ?_
  refine lv_iload C.1.1 C.1.2.1 dL_law_1116 (lv_at hl 6 rfl) ?_
  refine lv_iconst (v := (1 : Int32)) C.1.1 C.1.2.1 dL_law_1118 (by decide) ?_
  refine lv_iadd C.1.1 C.1.2.1 dL_law_1119 ?_
  refine ql_sld C S hX w.1 dL_law_1120 ?_
  replace w := w.2
  refine ql_VI (As := [.int (xs9 (xl5 + (1 : Int32)).toNatClampNeg)]) (rest := []) C S htab hlocks hl qy_X12_enactedOn qi_X12_enactedOn qs_X12_enactedOn gw_1876 (ci := 13) rfl w (fun b w => qm_X12_enactedOn l hl9 D _ b (xs9 (xl5 + (1 : Int32)).toNatClampNeg) _ _ w) rfl ⟨Nat.le_of_ble_eq_true rfl, Nat.le_of_ble_eq_true rfl⟩ ⟨rfl, rfl⟩ (by exact Nat.le_of_ble_eq_true rfl) (fun b e9 => by cases e9; rfl) dL_law_1121 ⟨(by show _ ≤ (603072 : Nat); omega), (by show _ ≤ (7190633 : Nat); omega)⟩ ⟨(by show _ ≤ (603072 : Nat); omega), (by show _ ≤ (7190633 : Nat); omega)⟩ (fun x86 h H locs S w => ?_)
  refine W.cs (cells' := (1033 + (513 - (n + 1)) * 21)) (slots' := (15206 + (513 - (n + 1)) * 5126)) (by omega) (by omega) ?_
  refine lv_istore (lv' := [(7, .int x86), (6, .int x85), (0, .ref a0), (1, va_rf rl1), (2, va_rf rl2), (3, va_rf rl3), (4, va_rf rl4), (5, .int xl5)]) C.1.1 C.1.2.1 dL_law_1124 hl (by decide) rfl (fun ls hl => ?_)
  refine ql_aload_n (r := rl2) C dL_law_1126 rfl (lv_at hl 4 rfl) ?_
  refine ql_VI (As := []) (rest := []) C S htab hlocks hl qy_X12_thrown qi_X12_thrown qs_X12_thrown gw_1727 (ci := 13) rfl w (fun b w => qm_X12_thrown l hl9 D _ b _ _ w) rfl ⟨Nat.le_of_ble_eq_true rfl, Nat.le_of_ble_eq_true rfl⟩ ⟨rfl, rfl⟩ (by exact Nat.le_of_ble_eq_true rfl) (fun b e9 => by cases e9; rfl) dL_law_1127 ⟨(by show _ ≤ (603072 : Nat); omega), (by show _ ≤ (7190633 : Nat); omega)⟩ ⟨(by show _ ≤ (603072 : Nat); omega), (by show _ ≤ (7190633 : Nat); omega)⟩ (fun x88 h H locs S w => ?_)
  refine W.cs (cells' := (1033 + (513 - (n + 1)) * 21)) (slots' := (15206 + (513 - (n + 1)) * 5126)) (by omega) (by omega) ?_
  refine lv_iload C.1.1 C.1.2.1 dL_law_1130 (lv_at hl 1 rfl) ?_
  refine lv_icmp_eq (tgt := 1137) C.1.1 C.1.2.1 dL_law_1132 (by decide) (fun c9 => ?_) (fun c9 => ?_)
  · replace w := ql_if w c9
    refine lv_iload C.1.1 C.1.2.1 dL_law_1137 (lv_at hl 1 rfl) ?_
    refine lv_if_ne (tgt := 1154) C.1.1 C.1.2.1 dL_law_1139 (by decide) (fun c9 => ?_) (fun c9 => ?_)
    · replace w := ql_ifn w c9
      exact (qm_L_law_1154 l hl9 D h0 L9 xs9 a0 Q X p e s m below meth c C hr hlocks htab hX) n hn9 k28 hk28 rl1 rl2 rl3 rl4 xl5 _ _ _ _ S (lv_sub hl [2, 3, 4, 5, 6, 7] rfl) w
    · replace w := ql_if w c9
      refine ql_aload_n (r := rl3) C dL_law_1142 rfl (lv_at hl 5 rfl) ?_
      refine lv_iconst (v := (0 : Int32)) C.1.1 C.1.2.1 dL_law_1143 (by decide) ?_
      refine ql_lald C S dL_law_1144 w (fun j90 w => ?_)
      refine lv_iload C.1.1 C.1.2.1 dL_law_1145 (lv_at hl 0 rfl) ?_
      refine lv_i2l C.1.1 C.1.2.1 dL_law_1147 rfl ?_
      refine W.lcmp C.1.1 C.1.2.1 dL_law_1148 ?_
      refine lv_if_eq (tgt := 1154) C.1.1 C.1.2.1 dL_law_1149 (by decide) (fun c9 => ?_) (fun c9 => ?_)
      · replace w := ql_if w c9
        exact (qm_L_law_1154 l hl9 D h0 L9 xs9 a0 Q X p e s m below meth c C hr hlocks htab hX) n hn9 k28 hk28 rl1 rl2 rl3 rl4 xl5 _ _ _ _ S (lv_sub hl [2, 3, 4, 5, 6, 7] rfl) w
      · replace w := ql_ifn w c9
        refine lv_iconst (v := (0 : Int32)) C.1.1 C.1.2.1 dL_law_1152 (by decide) ?_
        exact ql_zret C S hr hlocks dL_law_1153 ⟨(by show _ ≤ (603072 : Nat); omega), (by show _ ≤ (7190633 : Nat); omega)⟩ w
  · replace w := ql_ifn w c9
    refine lv_iconst (v := (0 : Int32)) C.1.1 C.1.2.1 dL_law_1135 (by decide) ?_
    exact ql_zret C S hr hlocks dL_law_1136 ⟨(by show _ ≤ (603072 : Nat); omega), (by show _ ≤ (7190633 : Nat); omega)⟩ w
set_option maxHeartbeats 4000000 in
set_option maxRecDepth 100000 in
theorem qm_L_law_1210 (l : Launch) (hl9 : l.stackTraces = false) (D : ql_D) (h0 : ql_H) (L9 : Nat) (xs9 : Nat → Int32) (a0 : Nat) (Q : Int32 → ql_H → Prop) (X : String → ql_H → Prop) (p : Program) (e : Env) (s : State) (m : MethodId) (below : List Frame) (meth : Method) (c : Code) (C : ql_C D h0 p m c cL_law 9 s [.ref a0].toArray "ClauseLedgerLaw") (hr : meth.sig.returnType = some .boolean) (hlocks : meth.locks = false) (htab : ∀ x ∈ c.exceptionTable.toList, False) (hX : va_X a0 L9 xs9 s s.heap ∧ a0 < s.heap.size ∧ ¬ ql_A h0 a0) : ∀ n : Nat, n + 1 ≤ 513 → ∀ (k28 : Option Nat → Option Nat → Option Nat → Option Nat → Int32 → ql_H → Prop) (hk28 : ∀ (rl1 : Option Nat) (rl2 : Option Nat) (rl3 : Option Nat) (rl4 : Option Nat) (xl5 : Int32) (h : ql_H) (H : Heap) (locs : List Loc) (ls : Array Slot), ql_S D h0 s H locs h → lv_has ls 9 [(0, .ref a0), (1, va_rf rl1), (2, va_rf rl2), (3, va_rf rl3), (4, va_rf rl4), (5, .int xl5)] → k28 rl1 rl2 rl3 rl4 xl5 h → W p l e ({ frames := 2048, cells := 603072, slots := 7190633, locals := 94400 } : Room) s m ([.ref a0] : List Value).toArray below meth c H locs (1032 + (513 - n) * 21) (15200 + (513 - n) * 5126) (vx_MQ below (ql_Q D h0 (ql_rI Q)) (ql_X D h0 X) ([.ref a0] : List Value).toArray s 603072 7190633 (ql_A h0)) (F0 m 28 ls [])) , ∀ (rl1 : Option Nat) (rl2 : Option Nat) (rl3 : Option Nat) (rl4 : Option Nat) (xl5 : Int32) (h : ql_H) (H : Heap) (locs : List Loc) (ls : Array Slot), ql_S D h0 s H locs h → lv_has ls 9 [(0, .ref a0), (1, va_rf rl1), (2, va_rf rl2), (3, va_rf rl3), (4, va_rf rl4), (5, .int xl5)] → qw_L_law_1210 D.2 L9 xs9 a0 Q X k28 rl1 rl2 rl3 rl4 xl5 h → W p l e ({ frames := 2048, cells := 603072, slots := 7190633, locals := 94400 } : Room) s m ([.ref a0] : List Value).toArray below meth c H locs (1034 + (513 - (n + 1)) * 21) (15212 + (513 - (n + 1)) * 5126) (vx_MQ below (ql_Q D h0 (ql_rI Q)) (ql_X D h0 X) ([.ref a0] : List Value).toArray s 603072 7190633 (ql_A h0)) (F0 m 1210 ls []) := by
  intro n hn9 k28 hk28 rl1 rl2 rl3 rl4 xl5 h H locs ls S hl w
  unfold qw_L_law_1210 at w
  refine lv_goto (tgt := 2957) C.1.1 C.1.2.1 dL_law_1210 (by decide) ?_
  refine W.widen (k := (1053 + (513 - (n + 1)) * 21)) (n := (20326 + (513 - (n + 1)) * 5126)) (by omega) (by omega) ?_
  exact (qm_L_law_2957 l hl9 D h0 L9 xs9 a0 Q X p e s m below meth c C hr hlocks htab hX) n hn9 k28 hk28 rl1 rl2 rl3 rl4 xl5 _ _ _ _ S (lv_sub hl [0, 1, 2, 3, 4, 5] rfl) w
set_option maxHeartbeats 4000000 in
set_option maxRecDepth 100000 in
theorem qm_L_law_1157 (l : Launch) (hl9 : l.stackTraces = false) (D : ql_D) (h0 : ql_H) (L9 : Nat) (xs9 : Nat → Int32) (a0 : Nat) (Q : Int32 → ql_H → Prop) (X : String → ql_H → Prop) (p : Program) (e : Env) (s : State) (m : MethodId) (below : List Frame) (meth : Method) (c : Code) (C : ql_C D h0 p m c cL_law 9 s [.ref a0].toArray "ClauseLedgerLaw") (hr : meth.sig.returnType = some .boolean) (hlocks : meth.locks = false) (htab : ∀ x ∈ c.exceptionTable.toList, False) (hX : va_X a0 L9 xs9 s s.heap ∧ a0 < s.heap.size ∧ ¬ ql_A h0 a0) : ∀ n : Nat, n + 1 ≤ 513 → ∀ (k28 : Option Nat → Option Nat → Option Nat → Option Nat → Int32 → ql_H → Prop) (hk28 : ∀ (rl1 : Option Nat) (rl2 : Option Nat) (rl3 : Option Nat) (rl4 : Option Nat) (xl5 : Int32) (h : ql_H) (H : Heap) (locs : List Loc) (ls : Array Slot), ql_S D h0 s H locs h → lv_has ls 9 [(0, .ref a0), (1, va_rf rl1), (2, va_rf rl2), (3, va_rf rl3), (4, va_rf rl4), (5, .int xl5)] → k28 rl1 rl2 rl3 rl4 xl5 h → W p l e ({ frames := 2048, cells := 603072, slots := 7190633, locals := 94400 } : Room) s m ([.ref a0] : List Value).toArray below meth c H locs (1032 + (513 - n) * 21) (15200 + (513 - n) * 5126) (vx_MQ below (ql_Q D h0 (ql_rI Q)) (ql_X D h0 X) ([.ref a0] : List Value).toArray s 603072 7190633 (ql_A h0)) (F0 m 28 ls [])) , ∀ (rl1 : Option Nat) (rl2 : Option Nat) (rl3 : Option Nat) (rl4 : Option Nat) (xl5 : Int32) (h : ql_H) (H : Heap) (locs : List Loc) (ls : Array Slot), ql_S D h0 s H locs h → lv_has ls 9 [(0, .ref a0), (1, va_rf rl1), (2, va_rf rl2), (3, va_rf rl3), (4, va_rf rl4), (5, .int xl5)] → qw_L_law_1157 D.2 L9 xs9 a0 Q X k28 rl1 rl2 rl3 rl4 xl5 h → W p l e ({ frames := 2048, cells := 603072, slots := 7190633, locals := 94400 } : Room) s m ([.ref a0] : List Value).toArray below meth c H locs (1032 + (513 - (n + 1)) * 21) (15200 + (513 - (n + 1)) * 5126) (vx_MQ below (ql_Q D h0 (ql_rI Q)) (ql_X D h0 X) ([.ref a0] : List Value).toArray s 603072 7190633 (ql_A h0)) (F0 m 1157 ls []) := by
  intro n hn9 k28 hk28 rl1 rl2 rl3 rl4 xl5 h H locs ls S hl w
  unfold qw_L_law_1157 at w
  refine ql_aload_n (r := rl1) C dL_law_1157 rfl (lv_at hl 1 rfl) ?_
  refine ql_aload_n (r := (some a0)) C dL_law_1158 rfl (lv_at hl 0 rfl) ?_
  refine lv_iload C.1.1 C.1.2.1 dL_law_1159 (lv_at hl 5 rfl) ?_
  refine lv_iconst (v := (1 : Int32)) C.1.1 C.1.2.1 dL_law_1161 (by decide) ?_
  refine lv_iadd C.1.1 C.1.2.1 dL_law_1162 ?_
  refine ql_sld C S hX w.1 dL_law_1163 ?_
  replace w := w.2
  refine ql_aload_n (r := rl3) C dL_law_1164 rfl (lv_at hl 3 rfl) ?_
  refine ql_SHI (As := [va_rf rl1, .int (xs9 (xl5 + (1 : Int32)).toNatClampNeg), va_rf rl3]) (rest := []) C S hl qyh_L_sunset gw_1007 (qm_L_sunset l hl9 D _ rl1 (xs9 (xl5 + (1 : Int32)).toNatClampNeg) rl3 _ _ w) rfl ⟨Nat.le_of_ble_eq_true rfl, Nat.le_of_ble_eq_true rfl⟩ ⟨rfl, rfl⟩ (by exact Nat.le_of_ble_eq_true rfl) rfl dL_law_1165 ⟨(by show _ ≤ (603072 : Nat); omega), (by show _ ≤ (7190633 : Nat); omega)⟩ (fun x91 h H locs S w => ?_)
  refine W.cs (cells' := (1034 + (513 - (n + 1)) * 21)) (slots' := (15212 + (513 - (n + 1)) * 5126)) (by omega) (by omega) ?_
  refine lv_istore (lv' := [(6, .int x91), (0, .ref a0), (1, va_rf rl1), (2, va_rf rl2), (3, va_rf rl3), (4, va_rf rl4), (5, .int xl5)]) C.1.1 C.1.2.1 dL_law_1168 hl (by decide) rfl (fun ls hl => ?_)
  refine ql_aload_n (r := rl2) C dL_law_1170 rfl (lv_at hl 3 rfl) ?_
  refine ql_aload_n (r := (some a0)) C dL_law_1171 rfl (lv_at hl 1 rfl) ?_
  refine lv_iload C.1.1 C.1.2.1 dL_law_1172 (lv_at hl 6 rfl) ?_
  refine lv_iconst (v := (1 : Int32)) C.1.1 C.1.2.1 dL_law_1174 (by decide) ?_
  refine lv_iadd C.1.1 C.1.2.1 dL_law_1175 ?_
  refine ql_sld C S hX w.1 dL_law_1176 ?_
  replace w := w.2
  refine ql_VI (As := [.int (xs9 (xl5 + (1 : Int32)).toNatClampNeg)]) (rest := []) C S htab hlocks hl qy_X12_sunset qi_X12_sunset qs_X12_sunset gw_1880 (ci := 13) rfl w (fun b w => qm_X12_sunset l hl9 D _ b (xs9 (xl5 + (1 : Int32)).toNatClampNeg) _ _ w) rfl ⟨Nat.le_of_ble_eq_true rfl, Nat.le_of_ble_eq_true rfl⟩ ⟨rfl, rfl⟩ (by exact Nat.le_of_ble_eq_true rfl) (fun b e9 => by cases e9; rfl) dL_law_1177 ⟨(by show _ ≤ (603072 : Nat); omega), (by show _ ≤ (7190633 : Nat); omega)⟩ ⟨(by show _ ≤ (603072 : Nat); omega), (by show _ ≤ (7190633 : Nat); omega)⟩ (fun x92 h H locs S w => ?_)
  refine W.cs (cells' := (1034 + (513 - (n + 1)) * 21)) (slots' := (15212 + (513 - (n + 1)) * 5126)) (by omega) (by omega) ?_
  refine lv_istore (lv' := [(7, .int x92), (6, .int x91), (0, .ref a0), (1, va_rf rl1), (2, va_rf rl2), (3, va_rf rl3), (4, va_rf rl4), (5, .int xl5)]) C.1.1 C.1.2.1 dL_law_1180 hl (by decide) rfl (fun ls hl => ?_)
  refine ql_aload_n (r := rl2) C dL_law_1182 rfl (lv_at hl 4 rfl) ?_
  refine ql_VI (As := []) (rest := []) C S htab hlocks hl qy_X12_thrown qi_X12_thrown qs_X12_thrown gw_1727 (ci := 13) rfl w (fun b w => qm_X12_thrown l hl9 D _ b _ _ w) rfl ⟨Nat.le_of_ble_eq_true rfl, Nat.le_of_ble_eq_true rfl⟩ ⟨rfl, rfl⟩ (by exact Nat.le_of_ble_eq_true rfl) (fun b e9 => by cases e9; rfl) dL_law_1183 ⟨(by show _ ≤ (603072 : Nat); omega), (by show _ ≤ (7190633 : Nat); omega)⟩ ⟨(by show _ ≤ (603072 : Nat); omega), (by show _ ≤ (7190633 : Nat); omega)⟩ (fun x94 h H locs S w => ?_)
  refine W.cs (cells' := (1034 + (513 - (n + 1)) * 21)) (slots' := (15212 + (513 - (n + 1)) * 5126)) (by omega) (by omega) ?_
  refine lv_iload C.1.1 C.1.2.1 dL_law_1186 (lv_at hl 1 rfl) ?_
  refine lv_icmp_eq (tgt := 1193) C.1.1 C.1.2.1 dL_law_1188 (by decide) (fun c9 => ?_) (fun c9 => ?_)
  · replace w := ql_if w c9
    refine lv_iload C.1.1 C.1.2.1 dL_law_1193 (lv_at hl 1 rfl) ?_
    refine lv_if_ne (tgt := 1210) C.1.1 C.1.2.1 dL_law_1195 (by decide) (fun c9 => ?_) (fun c9 => ?_)
    · replace w := ql_ifn w c9
      exact (qm_L_law_1210 l hl9 D h0 L9 xs9 a0 Q X p e s m below meth c C hr hlocks htab hX) n hn9 k28 hk28 rl1 rl2 rl3 rl4 xl5 _ _ _ _ S (lv_sub hl [2, 3, 4, 5, 6, 7] rfl) w
    · replace w := ql_if w c9
      refine ql_aload_n (r := rl3) C dL_law_1198 rfl (lv_at hl 5 rfl) ?_
      refine lv_iconst (v := (0 : Int32)) C.1.1 C.1.2.1 dL_law_1199 (by decide) ?_
      refine ql_lald C S dL_law_1200 w (fun j96 w => ?_)
      refine lv_iload C.1.1 C.1.2.1 dL_law_1201 (lv_at hl 0 rfl) ?_
      refine lv_i2l C.1.1 C.1.2.1 dL_law_1203 rfl ?_
      refine W.lcmp C.1.1 C.1.2.1 dL_law_1204 ?_
      refine lv_if_eq (tgt := 1210) C.1.1 C.1.2.1 dL_law_1205 (by decide) (fun c9 => ?_) (fun c9 => ?_)
      · replace w := ql_if w c9
        exact (qm_L_law_1210 l hl9 D h0 L9 xs9 a0 Q X p e s m below meth c C hr hlocks htab hX) n hn9 k28 hk28 rl1 rl2 rl3 rl4 xl5 _ _ _ _ S (lv_sub hl [2, 3, 4, 5, 6, 7] rfl) w
      · replace w := ql_ifn w c9
        refine lv_iconst (v := (0 : Int32)) C.1.1 C.1.2.1 dL_law_1208 (by decide) ?_
        exact ql_zret C S hr hlocks dL_law_1209 ⟨(by show _ ≤ (603072 : Nat); omega), (by show _ ≤ (7190633 : Nat); omega)⟩ w
  · replace w := ql_ifn w c9
    refine lv_iconst (v := (0 : Int32)) C.1.1 C.1.2.1 dL_law_1191 (by decide) ?_
    exact ql_zret C S hr hlocks dL_law_1192 ⟨(by show _ ≤ (603072 : Nat); omega), (by show _ ≤ (7190633 : Nat); omega)⟩ w
set_option maxHeartbeats 4000000 in
set_option maxRecDepth 100000 in
theorem qm_L_law_1285 (l : Launch) (hl9 : l.stackTraces = false) (D : ql_D) (h0 : ql_H) (L9 : Nat) (xs9 : Nat → Int32) (a0 : Nat) (Q : Int32 → ql_H → Prop) (X : String → ql_H → Prop) (p : Program) (e : Env) (s : State) (m : MethodId) (below : List Frame) (meth : Method) (c : Code) (C : ql_C D h0 p m c cL_law 9 s [.ref a0].toArray "ClauseLedgerLaw") (hr : meth.sig.returnType = some .boolean) (hlocks : meth.locks = false) (htab : ∀ x ∈ c.exceptionTable.toList, False) (hX : va_X a0 L9 xs9 s s.heap ∧ a0 < s.heap.size ∧ ¬ ql_A h0 a0) : ∀ n : Nat, n + 1 ≤ 513 → ∀ (k28 : Option Nat → Option Nat → Option Nat → Option Nat → Int32 → ql_H → Prop) (hk28 : ∀ (rl1 : Option Nat) (rl2 : Option Nat) (rl3 : Option Nat) (rl4 : Option Nat) (xl5 : Int32) (h : ql_H) (H : Heap) (locs : List Loc) (ls : Array Slot), ql_S D h0 s H locs h → lv_has ls 9 [(0, .ref a0), (1, va_rf rl1), (2, va_rf rl2), (3, va_rf rl3), (4, va_rf rl4), (5, .int xl5)] → k28 rl1 rl2 rl3 rl4 xl5 h → W p l e ({ frames := 2048, cells := 603072, slots := 7190633, locals := 94400 } : Room) s m ([.ref a0] : List Value).toArray below meth c H locs (1032 + (513 - n) * 21) (15200 + (513 - n) * 5126) (vx_MQ below (ql_Q D h0 (ql_rI Q)) (ql_X D h0 X) ([.ref a0] : List Value).toArray s 603072 7190633 (ql_A h0)) (F0 m 28 ls [])) , ∀ (rl1 : Option Nat) (rl2 : Option Nat) (rl3 : Option Nat) (rl4 : Option Nat) (xl5 : Int32) (h : ql_H) (H : Heap) (locs : List Loc) (ls : Array Slot), ql_S D h0 s H locs h → lv_has ls 9 [(0, .ref a0), (1, va_rf rl1), (2, va_rf rl2), (3, va_rf rl3), (4, va_rf rl4), (5, .int xl5)] → qw_L_law_1285 D.2 L9 xs9 a0 Q X k28 rl1 rl2 rl3 rl4 xl5 h → W p l e ({ frames := 2048, cells := 603072, slots := 7190633, locals := 94400 } : Room) s m ([.ref a0] : List Value).toArray below meth c H locs (1033 + (513 - (n + 1)) * 21) (15206 + (513 - (n + 1)) * 5126) (vx_MQ below (ql_Q D h0 (ql_rI Q)) (ql_X D h0 X) ([.ref a0] : List Value).toArray s 603072 7190633 (ql_A h0)) (F0 m 1285 ls []) := by
  intro n hn9 k28 hk28 rl1 rl2 rl3 rl4 xl5 h H locs ls S hl w
  unfold qw_L_law_1285 at w
  refine lv_goto (tgt := 2957) C.1.1 C.1.2.1 dL_law_1285 (by decide) ?_
  refine W.widen (k := (1053 + (513 - (n + 1)) * 21)) (n := (20326 + (513 - (n + 1)) * 5126)) (by omega) (by omega) ?_
  exact (qm_L_law_2957 l hl9 D h0 L9 xs9 a0 Q X p e s m below meth c C hr hlocks htab hX) n hn9 k28 hk28 rl1 rl2 rl3 rl4 xl5 _ _ _ _ S (lv_sub hl [0, 1, 2, 3, 4, 5] rfl) w
set_option maxHeartbeats 4000000 in
set_option maxRecDepth 100000 in
theorem qm_L_law_1279 (l : Launch) (hl9 : l.stackTraces = false) (D : ql_D) (h0 : ql_H) (L9 : Nat) (xs9 : Nat → Int32) (a0 : Nat) (Q : Int32 → ql_H → Prop) (X : String → ql_H → Prop) (p : Program) (e : Env) (s : State) (m : MethodId) (below : List Frame) (meth : Method) (c : Code) (C : ql_C D h0 p m c cL_law 9 s [.ref a0].toArray "ClauseLedgerLaw") (hr : meth.sig.returnType = some .boolean) (hlocks : meth.locks = false) (htab : ∀ x ∈ c.exceptionTable.toList, False) (hX : va_X a0 L9 xs9 s s.heap ∧ a0 < s.heap.size ∧ ¬ ql_A h0 a0) : ∀ n : Nat, n + 1 ≤ 513 → ∀ (k28 : Option Nat → Option Nat → Option Nat → Option Nat → Int32 → ql_H → Prop) (hk28 : ∀ (rl1 : Option Nat) (rl2 : Option Nat) (rl3 : Option Nat) (rl4 : Option Nat) (xl5 : Int32) (h : ql_H) (H : Heap) (locs : List Loc) (ls : Array Slot), ql_S D h0 s H locs h → lv_has ls 9 [(0, .ref a0), (1, va_rf rl1), (2, va_rf rl2), (3, va_rf rl3), (4, va_rf rl4), (5, .int xl5)] → k28 rl1 rl2 rl3 rl4 xl5 h → W p l e ({ frames := 2048, cells := 603072, slots := 7190633, locals := 94400 } : Room) s m ([.ref a0] : List Value).toArray below meth c H locs (1032 + (513 - n) * 21) (15200 + (513 - n) * 5126) (vx_MQ below (ql_Q D h0 (ql_rI Q)) (ql_X D h0 X) ([.ref a0] : List Value).toArray s 603072 7190633 (ql_A h0)) (F0 m 28 ls [])) , ∀ (rl1 : Option Nat) (rl2 : Option Nat) (rl3 : Option Nat) (rl4 : Option Nat) (xl5 : Int32) (js0 : Int64) (js1 : Int64) (h : ql_H) (H : Heap) (locs : List Loc) (ls : Array Slot), ql_S D h0 s H locs h → lv_has ls 9 [(0, .ref a0), (1, va_rf rl1), (2, va_rf rl2), (3, va_rf rl3), (4, va_rf rl4), (5, .int xl5)] → qw_L_law_1279 D.2 L9 xs9 a0 Q X k28 rl1 rl2 rl3 rl4 xl5 js0 js1 h → W p l e ({ frames := 2048, cells := 603072, slots := 7190633, locals := 94400 } : Room) s m ([.ref a0] : List Value).toArray below meth c H locs (1033 + (513 - (n + 1)) * 21) (15206 + (513 - (n + 1)) * 5126) (vx_MQ below (ql_Q D h0 (ql_rI Q)) (ql_X D h0 X) ([.ref a0] : List Value).toArray s 603072 7190633 (ql_A h0)) (F0 m 1279 ls [.long js1, .long js0]) := by
  intro n hn9 k28 hk28 rl1 rl2 rl3 rl4 xl5 js0 js1 h H locs ls S hl w
  unfold qw_L_law_1279 at w
  refine W.lcmp C.1.1 C.1.2.1 dL_law_1279 ?_
  refine lv_if_eq (tgt := 1285) C.1.1 C.1.2.1 dL_law_1280 (by decide) (fun c9 => ?_) (fun c9 => ?_)
  · replace w := ql_if w c9
    exact (qm_L_law_1285 l hl9 D h0 L9 xs9 a0 Q X p e s m below meth c C hr hlocks htab hX) n hn9 k28 hk28 rl1 rl2 rl3 rl4 xl5 _ _ _ _ S (lv_sub hl [0, 1, 2, 3, 4, 5] rfl) w
  · replace w := ql_ifn w c9
    refine lv_iconst (v := (0 : Int32)) C.1.1 C.1.2.1 dL_law_1283 (by decide) ?_
    exact ql_zret C S hr hlocks dL_law_1284 ⟨(by show _ ≤ (603072 : Nat); omega), (by show _ ≤ (7190633 : Nat); omega)⟩ w
set_option maxHeartbeats 4000000 in
set_option maxRecDepth 100000 in
theorem qm_L_law_1213 (l : Launch) (hl9 : l.stackTraces = false) (D : ql_D) (h0 : ql_H) (L9 : Nat) (xs9 : Nat → Int32) (a0 : Nat) (Q : Int32 → ql_H → Prop) (X : String → ql_H → Prop) (p : Program) (e : Env) (s : State) (m : MethodId) (below : List Frame) (meth : Method) (c : Code) (C : ql_C D h0 p m c cL_law 9 s [.ref a0].toArray "ClauseLedgerLaw") (hr : meth.sig.returnType = some .boolean) (hlocks : meth.locks = false) (htab : ∀ x ∈ c.exceptionTable.toList, False) (hX : va_X a0 L9 xs9 s s.heap ∧ a0 < s.heap.size ∧ ¬ ql_A h0 a0) : ∀ n : Nat, n + 1 ≤ 513 → ∀ (k28 : Option Nat → Option Nat → Option Nat → Option Nat → Int32 → ql_H → Prop) (hk28 : ∀ (rl1 : Option Nat) (rl2 : Option Nat) (rl3 : Option Nat) (rl4 : Option Nat) (xl5 : Int32) (h : ql_H) (H : Heap) (locs : List Loc) (ls : Array Slot), ql_S D h0 s H locs h → lv_has ls 9 [(0, .ref a0), (1, va_rf rl1), (2, va_rf rl2), (3, va_rf rl3), (4, va_rf rl4), (5, .int xl5)] → k28 rl1 rl2 rl3 rl4 xl5 h → W p l e ({ frames := 2048, cells := 603072, slots := 7190633, locals := 94400 } : Room) s m ([.ref a0] : List Value).toArray below meth c H locs (1032 + (513 - n) * 21) (15200 + (513 - n) * 5126) (vx_MQ below (ql_Q D h0 (ql_rI Q)) (ql_X D h0 X) ([.ref a0] : List Value).toArray s 603072 7190633 (ql_A h0)) (F0 m 28 ls [])) , ∀ (rl1 : Option Nat) (rl2 : Option Nat) (rl3 : Option Nat) (rl4 : Option Nat) (xl5 : Int32) (h : ql_H) (H : Heap) (locs : List Loc) (ls : Array Slot), ql_S D h0 s H locs h → lv_has ls 9 [(0, .ref a0), (1, va_rf rl1), (2, va_rf rl2), (3, va_rf rl3), (4, va_rf rl4), (5, .int xl5)] → qw_L_law_1213 D.2 L9 xs9 a0 Q X k28 rl1 rl2 rl3 rl4 xl5 h → W p l e ({ frames := 2048, cells := 603072, slots := 7190633, locals := 94400 } : Room) s m ([.ref a0] : List Value).toArray below meth c H locs (1032 + (513 - (n + 1)) * 21) (15200 + (513 - (n + 1)) * 5126) (vx_MQ below (ql_Q D h0 (ql_rI Q)) (ql_X D h0 X) ([.ref a0] : List Value).toArray s 603072 7190633 (ql_A h0)) (F0 m 1213 ls []) := by
  intro n hn9 k28 hk28 rl1 rl2 rl3 rl4 xl5 h H locs ls S hl w
  unfold qw_L_law_1213 at w
  refine ql_aload_n (r := rl1) C dL_law_1213 rfl (lv_at hl 1 rfl) ?_
  refine ql_aload_n (r := (some a0)) C dL_law_1214 rfl (lv_at hl 0 rfl) ?_
  refine lv_iload C.1.1 C.1.2.1 dL_law_1215 (lv_at hl 5 rfl) ?_
  refine lv_iconst (v := (1 : Int32)) C.1.1 C.1.2.1 dL_law_1217 (by decide) ?_
  refine lv_iadd C.1.1 C.1.2.1 dL_law_1218 ?_
  refine ql_sld C S hX w.1 dL_law_1219 ?_
  replace w := w.2
  refine ql_aload_n (r := (some a0)) C dL_law_1220 rfl (lv_at hl 0 rfl) ?_
  refine lv_iload C.1.1 C.1.2.1 dL_law_1221 (lv_at hl 5 rfl) ?_
  refine lv_iconst (v := (2 : Int32)) C.1.1 C.1.2.1 dL_law_1223 (by decide) ?_
  refine lv_iadd C.1.1 C.1.2.1 dL_law_1224 ?_
  refine ql_sld C S hX w.1 dL_law_1225 ?_
  replace w := w.2
  refine ql_aload_n (r := rl3) C dL_law_1226 rfl (lv_at hl 3 rfl) ?_
  refine ql_SHI (As := [va_rf rl1, .int (xs9 (xl5 + (1 : Int32)).toNatClampNeg), .int (xs9 (xl5 + (2 : Int32)).toNatClampNeg), va_rf rl3]) (rest := []) C S hl qyh_L_isInForce gw_1019 (qm_L_isInForce l hl9 D _ rl1 (xs9 (xl5 + (1 : Int32)).toNatClampNeg) (xs9 (xl5 + (2 : Int32)).toNatClampNeg) rl3 _ _ w) rfl ⟨Nat.le_of_ble_eq_true rfl, Nat.le_of_ble_eq_true rfl⟩ ⟨rfl, rfl⟩ (by exact Nat.le_of_ble_eq_true rfl) rfl dL_law_1227 ⟨(by show _ ≤ (603072 : Nat); omega), (by show _ ≤ (7190633 : Nat); omega)⟩ (fun x97 h H locs S w => ?_)
  refine W.cs (cells' := (1033 + (513 - (n + 1)) * 21)) (slots' := (15206 + (513 - (n + 1)) * 5126)) (by omega) (by omega) ?_
  refine lv_istore (lv' := [(6, .int x97), (0, .ref a0), (1, va_rf rl1), (2, va_rf rl2), (3, va_rf rl3), (4, va_rf rl4), (5, .int xl5)]) C.1.1 C.1.2.1 dL_law_1230 hl (by decide) rfl (fun ls hl => ?_)
  refine ql_aload_n (r := rl2) C dL_law_1232 rfl (lv_at hl 3 rfl) ?_
  refine ql_aload_n (r := (some a0)) C dL_law_1233 rfl (lv_at hl 1 rfl) ?_
  refine lv_iload C.1.1 C.1.2.1 dL_law_1234 (lv_at hl 6 rfl) ?_
  refine lv_iconst (v := (1 : Int32)) C.1.1 C.1.2.1 dL_law_1236 (by decide) ?_
  refine lv_iadd C.1.1 C.1.2.1 dL_law_1237 ?_
  refine ql_sld C S hX w.1 dL_law_1238 ?_
  replace w := w.2
  refine ql_aload_n (r := (some a0)) C dL_law_1239 rfl (lv_at hl 1 rfl) ?_
  refine lv_iload C.1.1 C.1.2.1 dL_law_1240 (lv_at hl 6 rfl) ?_
  refine lv_iconst (v := (2 : Int32)) C.1.1 C.1.2.1 dL_law_1242 (by decide) ?_
  refine lv_iadd C.1.1 C.1.2.1 dL_law_1243 ?_
  refine ql_sld C S hX w.1 dL_law_1244 ?_
  replace w := w.2
  refine ql_VI (As := [.int (xs9 (xl5 + (1 : Int32)).toNatClampNeg), .int (xs9 (xl5 + (2 : Int32)).toNatClampNeg)]) (rest := []) C S htab hlocks hl qy_X12_isInForce qi_X12_isInForce qs_X12_isInForce gw_1888 (ci := 13) rfl w (fun b w => qm_X12_isInForce l hl9 D _ b (xs9 (xl5 + (1 : Int32)).toNatClampNeg) (xs9 (xl5 + (2 : Int32)).toNatClampNeg) _ _ w) rfl ⟨Nat.le_of_ble_eq_true rfl, Nat.le_of_ble_eq_true rfl⟩ ⟨rfl, rfl⟩ (by exact Nat.le_of_ble_eq_true rfl) (fun b e9 => by cases e9; rfl) dL_law_1245 ⟨(by show _ ≤ (603072 : Nat); omega), (by show _ ≤ (7190633 : Nat); omega)⟩ ⟨(by show _ ≤ (603072 : Nat); omega), (by show _ ≤ (7190633 : Nat); omega)⟩ (fun x98 h H locs S w => ?_)
  refine W.cs (cells' := (1033 + (513 - (n + 1)) * 21)) (slots' := (15206 + (513 - (n + 1)) * 5126)) (by omega) (by omega) ?_
  refine lv_istore (lv' := [(7, .int x98), (6, .int x97), (0, .ref a0), (1, va_rf rl1), (2, va_rf rl2), (3, va_rf rl3), (4, va_rf rl4), (5, .int xl5)]) C.1.1 C.1.2.1 dL_law_1248 hl (by decide) rfl (fun ls hl => ?_)
  refine ql_aload_n (r := rl2) C dL_law_1250 rfl (lv_at hl 4 rfl) ?_
  refine ql_VI (As := []) (rest := []) C S htab hlocks hl qy_X12_thrown qi_X12_thrown qs_X12_thrown gw_1727 (ci := 13) rfl w (fun b w => qm_X12_thrown l hl9 D _ b _ _ w) rfl ⟨Nat.le_of_ble_eq_true rfl, Nat.le_of_ble_eq_true rfl⟩ ⟨rfl, rfl⟩ (by exact Nat.le_of_ble_eq_true rfl) (fun b e9 => by cases e9; rfl) dL_law_1251 ⟨(by show _ ≤ (603072 : Nat); omega), (by show _ ≤ (7190633 : Nat); omega)⟩ ⟨(by show _ ≤ (603072 : Nat); omega), (by show _ ≤ (7190633 : Nat); omega)⟩ (fun x100 h H locs S w => ?_)
  refine W.cs (cells' := (1033 + (513 - (n + 1)) * 21)) (slots' := (15206 + (513 - (n + 1)) * 5126)) (by omega) (by omega) ?_
  refine lv_iload C.1.1 C.1.2.1 dL_law_1254 (lv_at hl 1 rfl) ?_
  refine lv_icmp_eq (tgt := 1261) C.1.1 C.1.2.1 dL_law_1256 (by decide) (fun c9 => ?_) (fun c9 => ?_)
  · replace w := ql_if w c9
    refine lv_iload C.1.1 C.1.2.1 dL_law_1261 (lv_at hl 1 rfl) ?_
    refine lv_if_ne (tgt := 1285) C.1.1 C.1.2.1 dL_law_1263 (by decide) (fun c9 => ?_) (fun c9 => ?_)
    · replace w := ql_ifn w c9
      exact (qm_L_law_1285 l hl9 D h0 L9 xs9 a0 Q X p e s m below meth c C hr hlocks htab hX) n hn9 k28 hk28 rl1 rl2 rl3 rl4 xl5 _ _ _ _ S (lv_sub hl [2, 3, 4, 5, 6, 7] rfl) w
    · replace w := ql_if w c9
      refine ql_aload_n (r := rl3) C dL_law_1266 rfl (lv_at hl 5 rfl) ?_
      refine lv_iconst (v := (0 : Int32)) C.1.1 C.1.2.1 dL_law_1267 (by decide) ?_
      refine ql_lald C S dL_law_1268 w (fun j102 w => ?_)
      refine lv_iload C.1.1 C.1.2.1 dL_law_1269 (lv_at hl 0 rfl) ?_
      refine lv_if_eq (tgt := 1278) C.1.1 C.1.2.1 dL_law_1271 (by decide) (fun c9 => ?_) (fun c9 => ?_)
      · replace w := ql_if w c9
        refine lv_lconst (v := (0 : Int64)) C.1.1 C.1.2.1 dL_law_1278 (by decide) ?_
        exact (qm_L_law_1279 l hl9 D h0 L9 xs9 a0 Q X p e s m below meth c C hr hlocks htab hX) n hn9 k28 hk28 rl1 rl2 rl3 rl4 xl5 j102 (0 : Int64) _ _ _ _ S (lv_sub hl [2, 3, 4, 5, 6, 7] rfl) w
      · replace w := ql_ifn w c9
        refine lv_lconst (v := (1 : Int64)) C.1.1 C.1.2.1 dL_law_1274 (by decide) ?_
        refine lv_goto (tgt := 1279) C.1.1 C.1.2.1 dL_law_1275 (by decide) ?_
        exact (qm_L_law_1279 l hl9 D h0 L9 xs9 a0 Q X p e s m below meth c C hr hlocks htab hX) n hn9 k28 hk28 rl1 rl2 rl3 rl4 xl5 j102 (1 : Int64) _ _ _ _ S (lv_sub hl [2, 3, 4, 5, 6, 7] rfl) w
  · replace w := ql_ifn w c9
    refine lv_iconst (v := (0 : Int32)) C.1.1 C.1.2.1 dL_law_1259 (by decide) ?_
    exact ql_zret C S hr hlocks dL_law_1260 ⟨(by show _ ≤ (603072 : Nat); omega), (by show _ ≤ (7190633 : Nat); omega)⟩ w
set_option maxHeartbeats 4000000 in
set_option maxRecDepth 100000 in
theorem qm_L_law_1348 (l : Launch) (hl9 : l.stackTraces = false) (D : ql_D) (h0 : ql_H) (L9 : Nat) (xs9 : Nat → Int32) (a0 : Nat) (Q : Int32 → ql_H → Prop) (X : String → ql_H → Prop) (p : Program) (e : Env) (s : State) (m : MethodId) (below : List Frame) (meth : Method) (c : Code) (C : ql_C D h0 p m c cL_law 9 s [.ref a0].toArray "ClauseLedgerLaw") (hr : meth.sig.returnType = some .boolean) (hlocks : meth.locks = false) (htab : ∀ x ∈ c.exceptionTable.toList, False) (hX : va_X a0 L9 xs9 s s.heap ∧ a0 < s.heap.size ∧ ¬ ql_A h0 a0) : ∀ n : Nat, n + 1 ≤ 513 → ∀ (k28 : Option Nat → Option Nat → Option Nat → Option Nat → Int32 → ql_H → Prop) (hk28 : ∀ (rl1 : Option Nat) (rl2 : Option Nat) (rl3 : Option Nat) (rl4 : Option Nat) (xl5 : Int32) (h : ql_H) (H : Heap) (locs : List Loc) (ls : Array Slot), ql_S D h0 s H locs h → lv_has ls 9 [(0, .ref a0), (1, va_rf rl1), (2, va_rf rl2), (3, va_rf rl3), (4, va_rf rl4), (5, .int xl5)] → k28 rl1 rl2 rl3 rl4 xl5 h → W p l e ({ frames := 2048, cells := 603072, slots := 7190633, locals := 94400 } : Room) s m ([.ref a0] : List Value).toArray below meth c H locs (1032 + (513 - n) * 21) (15200 + (513 - n) * 5126) (vx_MQ below (ql_Q D h0 (ql_rI Q)) (ql_X D h0 X) ([.ref a0] : List Value).toArray s 603072 7190633 (ql_A h0)) (F0 m 28 ls [])) , ∀ (rl1 : Option Nat) (rl2 : Option Nat) (rl3 : Option Nat) (rl4 : Option Nat) (xl5 : Int32) (h : ql_H) (H : Heap) (locs : List Loc) (ls : Array Slot), ql_S D h0 s H locs h → lv_has ls 9 [(0, .ref a0), (1, va_rf rl1), (2, va_rf rl2), (3, va_rf rl3), (4, va_rf rl4), (5, .int xl5)] → qw_L_law_1348 D.2 L9 xs9 a0 Q X k28 rl1 rl2 rl3 rl4 xl5 h → W p l e ({ frames := 2048, cells := 603072, slots := 7190633, locals := 94400 } : Room) s m ([.ref a0] : List Value).toArray below meth c H locs (1033 + (513 - (n + 1)) * 21) (15206 + (513 - (n + 1)) * 5126) (vx_MQ below (ql_Q D h0 (ql_rI Q)) (ql_X D h0 X) ([.ref a0] : List Value).toArray s 603072 7190633 (ql_A h0)) (F0 m 1348 ls []) := by
  intro n hn9 k28 hk28 rl1 rl2 rl3 rl4 xl5 h H locs ls S hl w
  unfold qw_L_law_1348 at w
  refine lv_goto (tgt := 2957) C.1.1 C.1.2.1 dL_law_1348 (by decide) ?_
  refine W.widen (k := (1053 + (513 - (n + 1)) * 21)) (n := (20326 + (513 - (n + 1)) * 5126)) (by omega) (by omega) ?_
  exact (qm_L_law_2957 l hl9 D h0 L9 xs9 a0 Q X p e s m below meth c C hr hlocks htab hX) n hn9 k28 hk28 rl1 rl2 rl3 rl4 xl5 _ _ _ _ S (lv_sub hl [0, 1, 2, 3, 4, 5] rfl) w
set_option maxHeartbeats 4000000 in
set_option maxRecDepth 100000 in
theorem qm_L_law_1342 (l : Launch) (hl9 : l.stackTraces = false) (D : ql_D) (h0 : ql_H) (L9 : Nat) (xs9 : Nat → Int32) (a0 : Nat) (Q : Int32 → ql_H → Prop) (X : String → ql_H → Prop) (p : Program) (e : Env) (s : State) (m : MethodId) (below : List Frame) (meth : Method) (c : Code) (C : ql_C D h0 p m c cL_law 9 s [.ref a0].toArray "ClauseLedgerLaw") (hr : meth.sig.returnType = some .boolean) (hlocks : meth.locks = false) (htab : ∀ x ∈ c.exceptionTable.toList, False) (hX : va_X a0 L9 xs9 s s.heap ∧ a0 < s.heap.size ∧ ¬ ql_A h0 a0) : ∀ n : Nat, n + 1 ≤ 513 → ∀ (k28 : Option Nat → Option Nat → Option Nat → Option Nat → Int32 → ql_H → Prop) (hk28 : ∀ (rl1 : Option Nat) (rl2 : Option Nat) (rl3 : Option Nat) (rl4 : Option Nat) (xl5 : Int32) (h : ql_H) (H : Heap) (locs : List Loc) (ls : Array Slot), ql_S D h0 s H locs h → lv_has ls 9 [(0, .ref a0), (1, va_rf rl1), (2, va_rf rl2), (3, va_rf rl3), (4, va_rf rl4), (5, .int xl5)] → k28 rl1 rl2 rl3 rl4 xl5 h → W p l e ({ frames := 2048, cells := 603072, slots := 7190633, locals := 94400 } : Room) s m ([.ref a0] : List Value).toArray below meth c H locs (1032 + (513 - n) * 21) (15200 + (513 - n) * 5126) (vx_MQ below (ql_Q D h0 (ql_rI Q)) (ql_X D h0 X) ([.ref a0] : List Value).toArray s 603072 7190633 (ql_A h0)) (F0 m 28 ls [])) , ∀ (rl1 : Option Nat) (rl2 : Option Nat) (rl3 : Option Nat) (rl4 : Option Nat) (xl5 : Int32) (js0 : Int64) (js1 : Int64) (h : ql_H) (H : Heap) (locs : List Loc) (ls : Array Slot), ql_S D h0 s H locs h → lv_has ls 9 [(0, .ref a0), (1, va_rf rl1), (2, va_rf rl2), (3, va_rf rl3), (4, va_rf rl4), (5, .int xl5)] → qw_L_law_1342 D.2 L9 xs9 a0 Q X k28 rl1 rl2 rl3 rl4 xl5 js0 js1 h → W p l e ({ frames := 2048, cells := 603072, slots := 7190633, locals := 94400 } : Room) s m ([.ref a0] : List Value).toArray below meth c H locs (1033 + (513 - (n + 1)) * 21) (15206 + (513 - (n + 1)) * 5126) (vx_MQ below (ql_Q D h0 (ql_rI Q)) (ql_X D h0 X) ([.ref a0] : List Value).toArray s 603072 7190633 (ql_A h0)) (F0 m 1342 ls [.long js1, .long js0]) := by
  intro n hn9 k28 hk28 rl1 rl2 rl3 rl4 xl5 js0 js1 h H locs ls S hl w
  unfold qw_L_law_1342 at w
  refine W.lcmp C.1.1 C.1.2.1 dL_law_1342 ?_
  refine lv_if_eq (tgt := 1348) C.1.1 C.1.2.1 dL_law_1343 (by decide) (fun c9 => ?_) (fun c9 => ?_)
  · replace w := ql_if w c9
    exact (qm_L_law_1348 l hl9 D h0 L9 xs9 a0 Q X p e s m below meth c C hr hlocks htab hX) n hn9 k28 hk28 rl1 rl2 rl3 rl4 xl5 _ _ _ _ S (lv_sub hl [0, 1, 2, 3, 4, 5] rfl) w
  · replace w := ql_ifn w c9
    refine lv_iconst (v := (0 : Int32)) C.1.1 C.1.2.1 dL_law_1346 (by decide) ?_
    exact ql_zret C S hr hlocks dL_law_1347 ⟨(by show _ ≤ (603072 : Nat); omega), (by show _ ≤ (7190633 : Nat); omega)⟩ w
set_option maxHeartbeats 4000000 in
set_option maxRecDepth 100000 in
theorem qm_L_law_1288 (l : Launch) (hl9 : l.stackTraces = false) (D : ql_D) (h0 : ql_H) (L9 : Nat) (xs9 : Nat → Int32) (a0 : Nat) (Q : Int32 → ql_H → Prop) (X : String → ql_H → Prop) (p : Program) (e : Env) (s : State) (m : MethodId) (below : List Frame) (meth : Method) (c : Code) (C : ql_C D h0 p m c cL_law 9 s [.ref a0].toArray "ClauseLedgerLaw") (hr : meth.sig.returnType = some .boolean) (hlocks : meth.locks = false) (htab : ∀ x ∈ c.exceptionTable.toList, False) (hX : va_X a0 L9 xs9 s s.heap ∧ a0 < s.heap.size ∧ ¬ ql_A h0 a0) : ∀ n : Nat, n + 1 ≤ 513 → ∀ (k28 : Option Nat → Option Nat → Option Nat → Option Nat → Int32 → ql_H → Prop) (hk28 : ∀ (rl1 : Option Nat) (rl2 : Option Nat) (rl3 : Option Nat) (rl4 : Option Nat) (xl5 : Int32) (h : ql_H) (H : Heap) (locs : List Loc) (ls : Array Slot), ql_S D h0 s H locs h → lv_has ls 9 [(0, .ref a0), (1, va_rf rl1), (2, va_rf rl2), (3, va_rf rl3), (4, va_rf rl4), (5, .int xl5)] → k28 rl1 rl2 rl3 rl4 xl5 h → W p l e ({ frames := 2048, cells := 603072, slots := 7190633, locals := 94400 } : Room) s m ([.ref a0] : List Value).toArray below meth c H locs (1032 + (513 - n) * 21) (15200 + (513 - n) * 5126) (vx_MQ below (ql_Q D h0 (ql_rI Q)) (ql_X D h0 X) ([.ref a0] : List Value).toArray s 603072 7190633 (ql_A h0)) (F0 m 28 ls [])) , ∀ (rl1 : Option Nat) (rl2 : Option Nat) (rl3 : Option Nat) (rl4 : Option Nat) (xl5 : Int32) (h : ql_H) (H : Heap) (locs : List Loc) (ls : Array Slot), ql_S D h0 s H locs h → lv_has ls 9 [(0, .ref a0), (1, va_rf rl1), (2, va_rf rl2), (3, va_rf rl3), (4, va_rf rl4), (5, .int xl5)] → qw_L_law_1288 D.2 L9 xs9 a0 Q X k28 rl1 rl2 rl3 rl4 xl5 h → W p l e ({ frames := 2048, cells := 603072, slots := 7190633, locals := 94400 } : Room) s m ([.ref a0] : List Value).toArray below meth c H locs (1032 + (513 - (n + 1)) * 21) (15200 + (513 - (n + 1)) * 5126) (vx_MQ below (ql_Q D h0 (ql_rI Q)) (ql_X D h0 X) ([.ref a0] : List Value).toArray s 603072 7190633 (ql_A h0)) (F0 m 1288 ls []) := by
  intro n hn9 k28 hk28 rl1 rl2 rl3 rl4 xl5 h H locs ls S hl w
  unfold qw_L_law_1288 at w
  refine ql_aload_n (r := rl1) C dL_law_1288 rfl (lv_at hl 1 rfl) ?_
  refine ql_aload_n (r := (some a0)) C dL_law_1289 rfl (lv_at hl 0 rfl) ?_
  refine lv_iload C.1.1 C.1.2.1 dL_law_1290 (lv_at hl 5 rfl) ?_
  refine lv_iconst (v := (1 : Int32)) C.1.1 C.1.2.1 dL_law_1292 (by decide) ?_
  refine lv_iadd C.1.1 C.1.2.1 dL_law_1293 ?_
  refine ql_sld C S hX w.1 dL_law_1294 ?_
  replace w := w.2
  refine ql_aload_n (r := rl3) C dL_law_1295 rfl (lv_at hl 3 rfl) ?_
  refine ql_SHI (As := [va_rf rl1, .int (xs9 (xl5 + (1 : Int32)).toNatClampNeg), va_rf rl3]) (rest := []) C S hl qyh_L_hasLapsed gw_1027 (qm_L_hasLapsed l hl9 D _ rl1 (xs9 (xl5 + (1 : Int32)).toNatClampNeg) rl3 _ _ w) rfl ⟨Nat.le_of_ble_eq_true rfl, Nat.le_of_ble_eq_true rfl⟩ ⟨rfl, rfl⟩ (by exact Nat.le_of_ble_eq_true rfl) rfl dL_law_1296 ⟨(by show _ ≤ (603072 : Nat); omega), (by show _ ≤ (7190633 : Nat); omega)⟩ (fun x103 h H locs S w => ?_)
  refine W.cs (cells' := (1033 + (513 - (n + 1)) * 21)) (slots' := (15206 + (513 - (n + 1)) * 5126)) (by omega) (by omega) ?_
  refine lv_istore (lv' := [(6, .int x103), (0, .ref a0), (1, va_rf rl1), (2, va_rf rl2), (3, va_rf rl3), (4, va_rf rl4), (5, .int xl5)]) C.1.1 C.1.2.1 dL_law_1299 hl (by decide) rfl (fun ls hl => ?_)
  refine ql_aload_n (r := rl2) C dL_law_1301 rfl (lv_at hl 3 rfl) ?_
  refine ql_aload_n (r := (some a0)) C dL_law_1302 rfl (lv_at hl 1 rfl) ?_
  refine lv_iload C.1.1 C.1.2.1 dL_law_1303 (lv_at hl 6 rfl) ?_
  refine lv_iconst (v := (1 : Int32)) C.1.1 C.1.2.1 dL_law_1305 (by decide) ?_
  refine lv_iadd C.1.1 C.1.2.1 dL_law_1306 ?_
  refine ql_sld C S hX w.1 dL_law_1307 ?_
  replace w := w.2
  refine ql_VI (As := [.int (xs9 (xl5 + (1 : Int32)).toNatClampNeg)]) (rest := []) C S htab hlocks hl qy_X12_hasLapsed qi_X12_hasLapsed qs_X12_hasLapsed gw_1892 (ci := 13) rfl w (fun b w => qm_X12_hasLapsed l hl9 D _ b (xs9 (xl5 + (1 : Int32)).toNatClampNeg) _ _ w) rfl ⟨Nat.le_of_ble_eq_true rfl, Nat.le_of_ble_eq_true rfl⟩ ⟨rfl, rfl⟩ (by exact Nat.le_of_ble_eq_true rfl) (fun b e9 => by cases e9; rfl) dL_law_1308 ⟨(by show _ ≤ (603072 : Nat); omega), (by show _ ≤ (7190633 : Nat); omega)⟩ ⟨(by show _ ≤ (603072 : Nat); omega), (by show _ ≤ (7190633 : Nat); omega)⟩ (fun x104 h H locs S w => ?_)
  refine W.cs (cells' := (1033 + (513 - (n + 1)) * 21)) (slots' := (15206 + (513 - (n + 1)) * 5126)) (by omega) (by omega) ?_
  refine lv_istore (lv' := [(7, .int x104), (6, .int x103), (0, .ref a0), (1, va_rf rl1), (2, va_rf rl2), (3, va_rf rl3), (4, va_rf rl4), (5, .int xl5)]) C.1.1 C.1.2.1 dL_law_1311 hl (by decide) rfl (fun ls hl => ?_)
  refine ql_aload_n (r := rl2) C dL_law_1313 rfl (lv_at hl 4 rfl) ?_
  refine ql_VI (As := []) (rest := []) C S htab hlocks hl qy_X12_thrown qi_X12_thrown qs_X12_thrown gw_1727 (ci := 13) rfl w (fun b w => qm_X12_thrown l hl9 D _ b _ _ w) rfl ⟨Nat.le_of_ble_eq_true rfl, Nat.le_of_ble_eq_true rfl⟩ ⟨rfl, rfl⟩ (by exact Nat.le_of_ble_eq_true rfl) (fun b e9 => by cases e9; rfl) dL_law_1314 ⟨(by show _ ≤ (603072 : Nat); omega), (by show _ ≤ (7190633 : Nat); omega)⟩ ⟨(by show _ ≤ (603072 : Nat); omega), (by show _ ≤ (7190633 : Nat); omega)⟩ (fun x106 h H locs S w => ?_)
  refine W.cs (cells' := (1033 + (513 - (n + 1)) * 21)) (slots' := (15206 + (513 - (n + 1)) * 5126)) (by omega) (by omega) ?_
  refine lv_iload C.1.1 C.1.2.1 dL_law_1317 (lv_at hl 1 rfl) ?_
  refine lv_icmp_eq (tgt := 1324) C.1.1 C.1.2.1 dL_law_1319 (by decide) (fun c9 => ?_) (fun c9 => ?_)
  · replace w := ql_if w c9
    refine lv_iload C.1.1 C.1.2.1 dL_law_1324 (lv_at hl 1 rfl) ?_
    refine lv_if_ne (tgt := 1348) C.1.1 C.1.2.1 dL_law_1326 (by decide) (fun c9 => ?_) (fun c9 => ?_)
    · replace w := ql_ifn w c9
      exact (qm_L_law_1348 l hl9 D h0 L9 xs9 a0 Q X p e s m below meth c C hr hlocks htab hX) n hn9 k28 hk28 rl1 rl2 rl3 rl4 xl5 _ _ _ _ S (lv_sub hl [2, 3, 4, 5, 6, 7] rfl) w
    · replace w := ql_if w c9
      refine ql_aload_n (r := rl3) C dL_law_1329 rfl (lv_at hl 5 rfl) ?_
      refine lv_iconst (v := (0 : Int32)) C.1.1 C.1.2.1 dL_law_1330 (by decide) ?_
      refine ql_lald C S dL_law_1331 w (fun j108 w => ?_)
      refine lv_iload C.1.1 C.1.2.1 dL_law_1332 (lv_at hl 0 rfl) ?_
      refine lv_if_eq (tgt := 1341) C.1.1 C.1.2.1 dL_law_1334 (by decide) (fun c9 => ?_) (fun c9 => ?_)
      · replace w := ql_if w c9
        refine lv_lconst (v := (0 : Int64)) C.1.1 C.1.2.1 dL_law_1341 (by decide) ?_
        exact (qm_L_law_1342 l hl9 D h0 L9 xs9 a0 Q X p e s m below meth c C hr hlocks htab hX) n hn9 k28 hk28 rl1 rl2 rl3 rl4 xl5 j108 (0 : Int64) _ _ _ _ S (lv_sub hl [2, 3, 4, 5, 6, 7] rfl) w
      · replace w := ql_ifn w c9
        refine lv_lconst (v := (1 : Int64)) C.1.1 C.1.2.1 dL_law_1337 (by decide) ?_
        refine lv_goto (tgt := 1342) C.1.1 C.1.2.1 dL_law_1338 (by decide) ?_
        exact (qm_L_law_1342 l hl9 D h0 L9 xs9 a0 Q X p e s m below meth c C hr hlocks htab hX) n hn9 k28 hk28 rl1 rl2 rl3 rl4 xl5 j108 (1 : Int64) _ _ _ _ S (lv_sub hl [2, 3, 4, 5, 6, 7] rfl) w
  · replace w := ql_ifn w c9
    refine lv_iconst (v := (0 : Int32)) C.1.1 C.1.2.1 dL_law_1322 (by decide) ?_
    exact ql_zret C S hr hlocks dL_law_1323 ⟨(by show _ ≤ (603072 : Nat); omega), (by show _ ≤ (7190633 : Nat); omega)⟩ w
set_option maxHeartbeats 4000000 in
set_option maxRecDepth 100000 in
theorem qm_L_law_1351 (l : Launch) (hl9 : l.stackTraces = false) (D : ql_D) (h0 : ql_H) (L9 : Nat) (xs9 : Nat → Int32) (a0 : Nat) (Q : Int32 → ql_H → Prop) (X : String → ql_H → Prop) (p : Program) (e : Env) (s : State) (m : MethodId) (below : List Frame) (meth : Method) (c : Code) (C : ql_C D h0 p m c cL_law 9 s [.ref a0].toArray "ClauseLedgerLaw") (hr : meth.sig.returnType = some .boolean) (hlocks : meth.locks = false) (htab : ∀ x ∈ c.exceptionTable.toList, False) (hX : va_X a0 L9 xs9 s s.heap ∧ a0 < s.heap.size ∧ ¬ ql_A h0 a0) : ∀ n : Nat, n + 1 ≤ 513 → ∀ (k28 : Option Nat → Option Nat → Option Nat → Option Nat → Int32 → ql_H → Prop) (hk28 : ∀ (rl1 : Option Nat) (rl2 : Option Nat) (rl3 : Option Nat) (rl4 : Option Nat) (xl5 : Int32) (h : ql_H) (H : Heap) (locs : List Loc) (ls : Array Slot), ql_S D h0 s H locs h → lv_has ls 9 [(0, .ref a0), (1, va_rf rl1), (2, va_rf rl2), (3, va_rf rl3), (4, va_rf rl4), (5, .int xl5)] → k28 rl1 rl2 rl3 rl4 xl5 h → W p l e ({ frames := 2048, cells := 603072, slots := 7190633, locals := 94400 } : Room) s m ([.ref a0] : List Value).toArray below meth c H locs (1032 + (513 - n) * 21) (15200 + (513 - n) * 5126) (vx_MQ below (ql_Q D h0 (ql_rI Q)) (ql_X D h0 X) ([.ref a0] : List Value).toArray s 603072 7190633 (ql_A h0)) (F0 m 28 ls [])) , ∀ (rl1 : Option Nat) (rl2 : Option Nat) (rl3 : Option Nat) (rl4 : Option Nat) (xl5 : Int32) (h : ql_H) (H : Heap) (locs : List Loc) (ls : Array Slot), ql_S D h0 s H locs h → lv_has ls 9 [(0, .ref a0), (1, va_rf rl1), (2, va_rf rl2), (3, va_rf rl3), (4, va_rf rl4), (5, .int xl5)] → qw_L_law_1351 D.2 L9 xs9 a0 Q X k28 rl1 rl2 rl3 rl4 xl5 h → W p l e ({ frames := 2048, cells := 603072, slots := 7190633, locals := 94400 } : Room) s m ([.ref a0] : List Value).toArray below meth c H locs (1032 + (513 - (n + 1)) * 21) (15200 + (513 - (n + 1)) * 5126) (vx_MQ below (ql_Q D h0 (ql_rI Q)) (ql_X D h0 X) ([.ref a0] : List Value).toArray s 603072 7190633 (ql_A h0)) (F0 m 1351 ls []) := by
  intro n hn9 k28 hk28 rl1 rl2 rl3 rl4 xl5 h H locs ls S hl w
  unfold qw_L_law_1351 at w
  refine ql_aload_n (r := rl1) C dL_law_1351 rfl (lv_at hl 1 rfl) ?_
  refine ql_aload_n (r := (some a0)) C dL_law_1352 rfl (lv_at hl 0 rfl) ?_
  refine lv_iload C.1.1 C.1.2.1 dL_law_1353 (lv_at hl 5 rfl) ?_
  refine lv_iconst (v := (1 : Int32)) C.1.1 C.1.2.1 dL_law_1355 (by decide) ?_
  refine lv_iadd C.1.1 C.1.2.1 dL_law_1356 ?_
  refine ql_sld C S hX w.1 dL_law_1357 ?_
  replace w := w.2
  refine ql_VI (As := [.int (xs9 (xl5 + (1 : Int32)).toNatClampNeg)]) (rest := []) C S htab hlocks hl qy_X11_inForceOn qi_X11_inForceOn qs_X11_inForceOn gw_637 (ci := 12) rfl w (fun b w => qm_X11_inForceOn l hl9 D _ b (xs9 (xl5 + (1 : Int32)).toNatClampNeg) _ _ w) rfl ⟨Nat.le_of_ble_eq_true rfl, Nat.le_of_ble_eq_true rfl⟩ ⟨rfl, rfl⟩ (by exact Nat.le_of_ble_eq_true rfl) (fun b e9 => by cases e9; rfl) dL_law_1358 ⟨(by show _ ≤ (603072 : Nat); omega), (by show _ ≤ (7190633 : Nat); omega)⟩ ⟨(by show _ ≤ (603072 : Nat); omega), (by show _ ≤ (7190633 : Nat); omega)⟩ (fun x109 h H locs S w => ?_)
  refine W.cs (cells' := (1032 + (513 - (n + 1)) * 21)) (slots' := (15200 + (513 - (n + 1)) * 5126)) (by omega) (by omega) ?_
  refine ql_aload_n (r := rl2) C dL_law_1361 rfl (lv_at hl 2 rfl) ?_
  refine ql_aload_n (r := (some a0)) C dL_law_1362 rfl (lv_at hl 0 rfl) ?_
  refine lv_iload C.1.1 C.1.2.1 dL_law_1363 (lv_at hl 5 rfl) ?_
  refine lv_iconst (v := (1 : Int32)) C.1.1 C.1.2.1 dL_law_1365 (by decide) ?_
  refine lv_iadd C.1.1 C.1.2.1 dL_law_1366 ?_
  refine ql_sld C S hX w.1 dL_law_1367 ?_
  replace w := w.2
  refine ql_VI (As := [.int (xs9 (xl5 + (1 : Int32)).toNatClampNeg)]) (rest := [.int x109]) C S htab hlocks hl qy_X12_inForceOn qi_X12_inForceOn qs_X12_inForceOn gw_1896 (ci := 13) rfl w (fun b w => qm_X12_inForceOn l hl9 D _ b (xs9 (xl5 + (1 : Int32)).toNatClampNeg) _ _ w) rfl ⟨Nat.le_of_ble_eq_true rfl, Nat.le_of_ble_eq_true rfl⟩ ⟨rfl, rfl⟩ (by exact Nat.le_of_ble_eq_true rfl) (fun b e9 => by cases e9; rfl) dL_law_1368 ⟨(by show _ ≤ (603072 : Nat); omega), (by show _ ≤ (7190633 : Nat); omega)⟩ ⟨(by show _ ≤ (603072 : Nat); omega), (by show _ ≤ (7190633 : Nat); omega)⟩ (fun x111 h H locs S w => ?_)
  refine W.cs (cells' := (1032 + (513 - (n + 1)) * 21)) (slots' := (15200 + (513 - (n + 1)) * 5126)) (by omega) (by omega) ?_
  refine lv_icmp_eq (tgt := 2957) C.1.1 C.1.2.1 dL_law_1371 (by decide) (fun c9 => ?_) (fun c9 => ?_)
  · replace w := ql_if w c9
    refine W.widen (k := (1053 + (513 - (n + 1)) * 21)) (n := (20326 + (513 - (n + 1)) * 5126)) (by omega) (by omega) ?_
    exact (qm_L_law_2957 l hl9 D h0 L9 xs9 a0 Q X p e s m below meth c C hr hlocks htab hX) n hn9 k28 hk28 rl1 rl2 rl3 rl4 xl5 _ _ _ _ S (lv_sub hl [0, 1, 2, 3, 4, 5] rfl) w
  · replace w := ql_ifn w c9
    refine lv_iconst (v := (0 : Int32)) C.1.1 C.1.2.1 dL_law_1374 (by decide) ?_
    exact ql_zret C S hr hlocks dL_law_1375 ⟨(by show _ ≤ (603072 : Nat); omega), (by show _ ≤ (7190633 : Nat); omega)⟩ w
set_option maxHeartbeats 4000000 in
set_option maxRecDepth 100000 in
theorem qm_L_law_1429 (l : Launch) (hl9 : l.stackTraces = false) (D : ql_D) (h0 : ql_H) (L9 : Nat) (xs9 : Nat → Int32) (a0 : Nat) (Q : Int32 → ql_H → Prop) (X : String → ql_H → Prop) (p : Program) (e : Env) (s : State) (m : MethodId) (below : List Frame) (meth : Method) (c : Code) (C : ql_C D h0 p m c cL_law 9 s [.ref a0].toArray "ClauseLedgerLaw") (hr : meth.sig.returnType = some .boolean) (hlocks : meth.locks = false) (htab : ∀ x ∈ c.exceptionTable.toList, False) (hX : va_X a0 L9 xs9 s s.heap ∧ a0 < s.heap.size ∧ ¬ ql_A h0 a0) : ∀ n : Nat, n + 1 ≤ 513 → ∀ (k28 : Option Nat → Option Nat → Option Nat → Option Nat → Int32 → ql_H → Prop) (hk28 : ∀ (rl1 : Option Nat) (rl2 : Option Nat) (rl3 : Option Nat) (rl4 : Option Nat) (xl5 : Int32) (h : ql_H) (H : Heap) (locs : List Loc) (ls : Array Slot), ql_S D h0 s H locs h → lv_has ls 9 [(0, .ref a0), (1, va_rf rl1), (2, va_rf rl2), (3, va_rf rl3), (4, va_rf rl4), (5, .int xl5)] → k28 rl1 rl2 rl3 rl4 xl5 h → W p l e ({ frames := 2048, cells := 603072, slots := 7190633, locals := 94400 } : Room) s m ([.ref a0] : List Value).toArray below meth c H locs (1032 + (513 - n) * 21) (15200 + (513 - n) * 5126) (vx_MQ below (ql_Q D h0 (ql_rI Q)) (ql_X D h0 X) ([.ref a0] : List Value).toArray s 603072 7190633 (ql_A h0)) (F0 m 28 ls [])) , ∀ (rl1 : Option Nat) (rl2 : Option Nat) (rl3 : Option Nat) (rl4 : Option Nat) (xl5 : Int32) (h : ql_H) (H : Heap) (locs : List Loc) (ls : Array Slot), ql_S D h0 s H locs h → lv_has ls 9 [(0, .ref a0), (1, va_rf rl1), (2, va_rf rl2), (3, va_rf rl3), (4, va_rf rl4), (5, .int xl5)] → qw_L_law_1429 D.2 L9 xs9 a0 Q X k28 rl1 rl2 rl3 rl4 xl5 h → W p l e ({ frames := 2048, cells := 603072, slots := 7190633, locals := 94400 } : Room) s m ([.ref a0] : List Value).toArray below meth c H locs (1034 + (513 - (n + 1)) * 21) (15212 + (513 - (n + 1)) * 5126) (vx_MQ below (ql_Q D h0 (ql_rI Q)) (ql_X D h0 X) ([.ref a0] : List Value).toArray s 603072 7190633 (ql_A h0)) (F0 m 1429 ls []) := by
  intro n hn9 k28 hk28 rl1 rl2 rl3 rl4 xl5 h H locs ls S hl w
  unfold qw_L_law_1429 at w
  refine lv_goto (tgt := 2957) C.1.1 C.1.2.1 dL_law_1429 (by decide) ?_
  refine W.widen (k := (1053 + (513 - (n + 1)) * 21)) (n := (20326 + (513 - (n + 1)) * 5126)) (by omega) (by omega) ?_
  exact (qm_L_law_2957 l hl9 D h0 L9 xs9 a0 Q X p e s m below meth c C hr hlocks htab hX) n hn9 k28 hk28 rl1 rl2 rl3 rl4 xl5 _ _ _ _ S (lv_sub hl [0, 1, 2, 3, 4, 5] rfl) w
set_option maxHeartbeats 4000000 in
set_option maxRecDepth 100000 in
theorem qm_L_law_1376 (l : Launch) (hl9 : l.stackTraces = false) (D : ql_D) (h0 : ql_H) (L9 : Nat) (xs9 : Nat → Int32) (a0 : Nat) (Q : Int32 → ql_H → Prop) (X : String → ql_H → Prop) (p : Program) (e : Env) (s : State) (m : MethodId) (below : List Frame) (meth : Method) (c : Code) (C : ql_C D h0 p m c cL_law 9 s [.ref a0].toArray "ClauseLedgerLaw") (hr : meth.sig.returnType = some .boolean) (hlocks : meth.locks = false) (htab : ∀ x ∈ c.exceptionTable.toList, False) (hX : va_X a0 L9 xs9 s s.heap ∧ a0 < s.heap.size ∧ ¬ ql_A h0 a0) : ∀ n : Nat, n + 1 ≤ 513 → ∀ (k28 : Option Nat → Option Nat → Option Nat → Option Nat → Int32 → ql_H → Prop) (hk28 : ∀ (rl1 : Option Nat) (rl2 : Option Nat) (rl3 : Option Nat) (rl4 : Option Nat) (xl5 : Int32) (h : ql_H) (H : Heap) (locs : List Loc) (ls : Array Slot), ql_S D h0 s H locs h → lv_has ls 9 [(0, .ref a0), (1, va_rf rl1), (2, va_rf rl2), (3, va_rf rl3), (4, va_rf rl4), (5, .int xl5)] → k28 rl1 rl2 rl3 rl4 xl5 h → W p l e ({ frames := 2048, cells := 603072, slots := 7190633, locals := 94400 } : Room) s m ([.ref a0] : List Value).toArray below meth c H locs (1032 + (513 - n) * 21) (15200 + (513 - n) * 5126) (vx_MQ below (ql_Q D h0 (ql_rI Q)) (ql_X D h0 X) ([.ref a0] : List Value).toArray s 603072 7190633 (ql_A h0)) (F0 m 28 ls [])) , ∀ (rl1 : Option Nat) (rl2 : Option Nat) (rl3 : Option Nat) (rl4 : Option Nat) (xl5 : Int32) (h : ql_H) (H : Heap) (locs : List Loc) (ls : Array Slot), ql_S D h0 s H locs h → lv_has ls 9 [(0, .ref a0), (1, va_rf rl1), (2, va_rf rl2), (3, va_rf rl3), (4, va_rf rl4), (5, .int xl5)] → qw_L_law_1376 D.2 L9 xs9 a0 Q X k28 rl1 rl2 rl3 rl4 xl5 h → W p l e ({ frames := 2048, cells := 603072, slots := 7190633, locals := 94400 } : Room) s m ([.ref a0] : List Value).toArray below meth c H locs (1032 + (513 - (n + 1)) * 21) (15200 + (513 - (n + 1)) * 5126) (vx_MQ below (ql_Q D h0 (ql_rI Q)) (ql_X D h0 X) ([.ref a0] : List Value).toArray s 603072 7190633 (ql_A h0)) (F0 m 1376 ls []) := by
  intro n hn9 k28 hk28 rl1 rl2 rl3 rl4 xl5 h H locs ls S hl w
  unfold qw_L_law_1376 at w
  refine ql_aload_n (r := rl1) C dL_law_1376 rfl (lv_at hl 1 rfl) ?_
  refine ql_aload_n (r := (some a0)) C dL_law_1377 rfl (lv_at hl 0 rfl) ?_
  refine lv_iload C.1.1 C.1.2.1 dL_law_1378 (lv_at hl 5 rfl) ?_
  refine lv_iconst (v := (1 : Int32)) C.1.1 C.1.2.1 dL_law_1380 (by decide) ?_
  refine lv_iadd C.1.1 C.1.2.1 dL_law_1381 ?_
  refine ql_sld C S hX w.1 dL_law_1382 ?_
  replace w := w.2
  refine ql_aload_n (r := rl3) C dL_law_1383 rfl (lv_at hl 3 rfl) ?_
  refine ql_SHI (As := [va_rf rl1, .int (xs9 (xl5 + (1 : Int32)).toNatClampNeg), va_rf rl3]) (rest := []) C S hl qyh_L_daysUntilLapsed gw_1035 (qm_L_daysUntilLapsed l hl9 D _ rl1 (xs9 (xl5 + (1 : Int32)).toNatClampNeg) rl3 _ _ w) rfl ⟨Nat.le_of_ble_eq_true rfl, Nat.le_of_ble_eq_true rfl⟩ ⟨rfl, rfl⟩ (by exact Nat.le_of_ble_eq_true rfl) rfl dL_law_1384 ⟨(by show _ ≤ (603072 : Nat); omega), (by show _ ≤ (7190633 : Nat); omega)⟩ (fun x113 h H locs S w => ?_)
  refine W.cs (cells' := (1034 + (513 - (n + 1)) * 21)) (slots' := (15212 + (513 - (n + 1)) * 5126)) (by omega) (by omega) ?_
  refine lv_istore (lv' := [(6, .int x113), (0, .ref a0), (1, va_rf rl1), (2, va_rf rl2), (3, va_rf rl3), (4, va_rf rl4), (5, .int xl5)]) C.1.1 C.1.2.1 dL_law_1387 hl (by decide) rfl (fun ls hl => ?_)
  refine ql_aload_n (r := rl2) C dL_law_1389 rfl (lv_at hl 3 rfl) ?_
  refine ql_aload_n (r := (some a0)) C dL_law_1390 rfl (lv_at hl 1 rfl) ?_
  refine lv_iload C.1.1 C.1.2.1 dL_law_1391 (lv_at hl 6 rfl) ?_
  refine lv_iconst (v := (1 : Int32)) C.1.1 C.1.2.1 dL_law_1393 (by decide) ?_
  refine lv_iadd C.1.1 C.1.2.1 dL_law_1394 ?_
  refine ql_sld C S hX w.1 dL_law_1395 ?_
  replace w := w.2
  refine ql_VI (As := [.int (xs9 (xl5 + (1 : Int32)).toNatClampNeg)]) (rest := []) C S htab hlocks hl qy_X12_daysUntilLapsed qi_X12_daysUntilLapsed qs_X12_daysUntilLapsed gw_1904 (ci := 13) rfl w (fun b w => qm_X12_daysUntilLapsed l hl9 D _ b (xs9 (xl5 + (1 : Int32)).toNatClampNeg) _ _ w) rfl ⟨Nat.le_of_ble_eq_true rfl, Nat.le_of_ble_eq_true rfl⟩ ⟨rfl, rfl⟩ (by exact Nat.le_of_ble_eq_true rfl) (fun b e9 => by cases e9; rfl) dL_law_1396 ⟨(by show _ ≤ (603072 : Nat); omega), (by show _ ≤ (7190633 : Nat); omega)⟩ ⟨(by show _ ≤ (603072 : Nat); omega), (by show _ ≤ (7190633 : Nat); omega)⟩ (fun x114 h H locs S w => ?_)
  refine W.cs (cells' := (1034 + (513 - (n + 1)) * 21)) (slots' := (15212 + (513 - (n + 1)) * 5126)) (by omega) (by omega) ?_
  refine lv_istore (lv' := [(7, .int x114), (6, .int x113), (0, .ref a0), (1, va_rf rl1), (2, va_rf rl2), (3, va_rf rl3), (4, va_rf rl4), (5, .int xl5)]) C.1.1 C.1.2.1 dL_law_1399 hl (by decide) rfl (fun ls hl => ?_)
  refine ql_aload_n (r := rl2) C dL_law_1401 rfl (lv_at hl 4 rfl) ?_
  refine ql_VI (As := []) (rest := []) C S htab hlocks hl qy_X12_thrown qi_X12_thrown qs_X12_thrown gw_1727 (ci := 13) rfl w (fun b w => qm_X12_thrown l hl9 D _ b _ _ w) rfl ⟨Nat.le_of_ble_eq_true rfl, Nat.le_of_ble_eq_true rfl⟩ ⟨rfl, rfl⟩ (by exact Nat.le_of_ble_eq_true rfl) (fun b e9 => by cases e9; rfl) dL_law_1402 ⟨(by show _ ≤ (603072 : Nat); omega), (by show _ ≤ (7190633 : Nat); omega)⟩ ⟨(by show _ ≤ (603072 : Nat); omega), (by show _ ≤ (7190633 : Nat); omega)⟩ (fun x116 h H locs S w => ?_)
  refine W.cs (cells' := (1034 + (513 - (n + 1)) * 21)) (slots' := (15212 + (513 - (n + 1)) * 5126)) (by omega) (by omega) ?_
  refine lv_iload C.1.1 C.1.2.1 dL_law_1405 (lv_at hl 1 rfl) ?_
  refine lv_icmp_eq (tgt := 1412) C.1.1 C.1.2.1 dL_law_1407 (by decide) (fun c9 => ?_) (fun c9 => ?_)
  · replace w := ql_if w c9
    refine lv_iload C.1.1 C.1.2.1 dL_law_1412 (lv_at hl 1 rfl) ?_
    refine lv_if_ne (tgt := 1429) C.1.1 C.1.2.1 dL_law_1414 (by decide) (fun c9 => ?_) (fun c9 => ?_)
    · replace w := ql_ifn w c9
      exact (qm_L_law_1429 l hl9 D h0 L9 xs9 a0 Q X p e s m below meth c C hr hlocks htab hX) n hn9 k28 hk28 rl1 rl2 rl3 rl4 xl5 _ _ _ _ S (lv_sub hl [2, 3, 4, 5, 6, 7] rfl) w
    · replace w := ql_if w c9
      refine ql_aload_n (r := rl3) C dL_law_1417 rfl (lv_at hl 5 rfl) ?_
      refine lv_iconst (v := (0 : Int32)) C.1.1 C.1.2.1 dL_law_1418 (by decide) ?_
      refine ql_lald C S dL_law_1419 w (fun j118 w => ?_)
      refine lv_iload C.1.1 C.1.2.1 dL_law_1420 (lv_at hl 0 rfl) ?_
      refine lv_i2l C.1.1 C.1.2.1 dL_law_1422 rfl ?_
      refine W.lcmp C.1.1 C.1.2.1 dL_law_1423 ?_
      refine lv_if_eq (tgt := 1429) C.1.1 C.1.2.1 dL_law_1424 (by decide) (fun c9 => ?_) (fun c9 => ?_)
      · replace w := ql_if w c9
        exact (qm_L_law_1429 l hl9 D h0 L9 xs9 a0 Q X p e s m below meth c C hr hlocks htab hX) n hn9 k28 hk28 rl1 rl2 rl3 rl4 xl5 _ _ _ _ S (lv_sub hl [2, 3, 4, 5, 6, 7] rfl) w
      · replace w := ql_ifn w c9
        refine lv_iconst (v := (0 : Int32)) C.1.1 C.1.2.1 dL_law_1427 (by decide) ?_
        exact ql_zret C S hr hlocks dL_law_1428 ⟨(by show _ ≤ (603072 : Nat); omega), (by show _ ≤ (7190633 : Nat); omega)⟩ w
  · replace w := ql_ifn w c9
    refine lv_iconst (v := (0 : Int32)) C.1.1 C.1.2.1 dL_law_1410 (by decide) ?_
    exact ql_zret C S hr hlocks dL_law_1411 ⟨(by show _ ≤ (603072 : Nat); omega), (by show _ ≤ (7190633 : Nat); omega)⟩ w
set_option maxHeartbeats 4000000 in
set_option maxRecDepth 100000 in
theorem qm_L_law_1485 (l : Launch) (hl9 : l.stackTraces = false) (D : ql_D) (h0 : ql_H) (L9 : Nat) (xs9 : Nat → Int32) (a0 : Nat) (Q : Int32 → ql_H → Prop) (X : String → ql_H → Prop) (p : Program) (e : Env) (s : State) (m : MethodId) (below : List Frame) (meth : Method) (c : Code) (C : ql_C D h0 p m c cL_law 9 s [.ref a0].toArray "ClauseLedgerLaw") (hr : meth.sig.returnType = some .boolean) (hlocks : meth.locks = false) (htab : ∀ x ∈ c.exceptionTable.toList, False) (hX : va_X a0 L9 xs9 s s.heap ∧ a0 < s.heap.size ∧ ¬ ql_A h0 a0) : ∀ n : Nat, n + 1 ≤ 513 → ∀ (k28 : Option Nat → Option Nat → Option Nat → Option Nat → Int32 → ql_H → Prop) (hk28 : ∀ (rl1 : Option Nat) (rl2 : Option Nat) (rl3 : Option Nat) (rl4 : Option Nat) (xl5 : Int32) (h : ql_H) (H : Heap) (locs : List Loc) (ls : Array Slot), ql_S D h0 s H locs h → lv_has ls 9 [(0, .ref a0), (1, va_rf rl1), (2, va_rf rl2), (3, va_rf rl3), (4, va_rf rl4), (5, .int xl5)] → k28 rl1 rl2 rl3 rl4 xl5 h → W p l e ({ frames := 2048, cells := 603072, slots := 7190633, locals := 94400 } : Room) s m ([.ref a0] : List Value).toArray below meth c H locs (1032 + (513 - n) * 21) (15200 + (513 - n) * 5126) (vx_MQ below (ql_Q D h0 (ql_rI Q)) (ql_X D h0 X) ([.ref a0] : List Value).toArray s 603072 7190633 (ql_A h0)) (F0 m 28 ls [])) , ∀ (rl1 : Option Nat) (rl2 : Option Nat) (rl3 : Option Nat) (rl4 : Option Nat) (xl5 : Int32) (h : ql_H) (H : Heap) (locs : List Loc) (ls : Array Slot), ql_S D h0 s H locs h → lv_has ls 9 [(0, .ref a0), (1, va_rf rl1), (2, va_rf rl2), (3, va_rf rl3), (4, va_rf rl4), (5, .int xl5)] → qw_L_law_1485 D.2 L9 xs9 a0 Q X k28 rl1 rl2 rl3 rl4 xl5 h → W p l e ({ frames := 2048, cells := 603072, slots := 7190633, locals := 94400 } : Room) s m ([.ref a0] : List Value).toArray below meth c H locs (1033 + (513 - (n + 1)) * 21) (15206 + (513 - (n + 1)) * 5126) (vx_MQ below (ql_Q D h0 (ql_rI Q)) (ql_X D h0 X) ([.ref a0] : List Value).toArray s 603072 7190633 (ql_A h0)) (F0 m 1485 ls []) := by
  intro n hn9 k28 hk28 rl1 rl2 rl3 rl4 xl5 h H locs ls S hl w
  unfold qw_L_law_1485 at w
  refine lv_goto (tgt := 2957) C.1.1 C.1.2.1 dL_law_1485 (by decide) ?_
  refine W.widen (k := (1053 + (513 - (n + 1)) * 21)) (n := (20326 + (513 - (n + 1)) * 5126)) (by omega) (by omega) ?_
  exact (qm_L_law_2957 l hl9 D h0 L9 xs9 a0 Q X p e s m below meth c C hr hlocks htab hX) n hn9 k28 hk28 rl1 rl2 rl3 rl4 xl5 _ _ _ _ S (lv_sub hl [0, 1, 2, 3, 4, 5] rfl) w
set_option maxHeartbeats 4000000 in
set_option maxRecDepth 100000 in
theorem qm_L_law_1432 (l : Launch) (hl9 : l.stackTraces = false) (D : ql_D) (h0 : ql_H) (L9 : Nat) (xs9 : Nat → Int32) (a0 : Nat) (Q : Int32 → ql_H → Prop) (X : String → ql_H → Prop) (p : Program) (e : Env) (s : State) (m : MethodId) (below : List Frame) (meth : Method) (c : Code) (C : ql_C D h0 p m c cL_law 9 s [.ref a0].toArray "ClauseLedgerLaw") (hr : meth.sig.returnType = some .boolean) (hlocks : meth.locks = false) (htab : ∀ x ∈ c.exceptionTable.toList, False) (hX : va_X a0 L9 xs9 s s.heap ∧ a0 < s.heap.size ∧ ¬ ql_A h0 a0) : ∀ n : Nat, n + 1 ≤ 513 → ∀ (k28 : Option Nat → Option Nat → Option Nat → Option Nat → Int32 → ql_H → Prop) (hk28 : ∀ (rl1 : Option Nat) (rl2 : Option Nat) (rl3 : Option Nat) (rl4 : Option Nat) (xl5 : Int32) (h : ql_H) (H : Heap) (locs : List Loc) (ls : Array Slot), ql_S D h0 s H locs h → lv_has ls 9 [(0, .ref a0), (1, va_rf rl1), (2, va_rf rl2), (3, va_rf rl3), (4, va_rf rl4), (5, .int xl5)] → k28 rl1 rl2 rl3 rl4 xl5 h → W p l e ({ frames := 2048, cells := 603072, slots := 7190633, locals := 94400 } : Room) s m ([.ref a0] : List Value).toArray below meth c H locs (1032 + (513 - n) * 21) (15200 + (513 - n) * 5126) (vx_MQ below (ql_Q D h0 (ql_rI Q)) (ql_X D h0 X) ([.ref a0] : List Value).toArray s 603072 7190633 (ql_A h0)) (F0 m 28 ls [])) , ∀ (rl1 : Option Nat) (rl2 : Option Nat) (rl3 : Option Nat) (rl4 : Option Nat) (xl5 : Int32) (h : ql_H) (H : Heap) (locs : List Loc) (ls : Array Slot), ql_S D h0 s H locs h → lv_has ls 9 [(0, .ref a0), (1, va_rf rl1), (2, va_rf rl2), (3, va_rf rl3), (4, va_rf rl4), (5, .int xl5)] → qw_L_law_1432 D.2 L9 xs9 a0 Q X k28 rl1 rl2 rl3 rl4 xl5 h → W p l e ({ frames := 2048, cells := 603072, slots := 7190633, locals := 94400 } : Room) s m ([.ref a0] : List Value).toArray below meth c H locs (1032 + (513 - (n + 1)) * 21) (15200 + (513 - (n + 1)) * 5126) (vx_MQ below (ql_Q D h0 (ql_rI Q)) (ql_X D h0 X) ([.ref a0] : List Value).toArray s 603072 7190633 (ql_A h0)) (F0 m 1432 ls []) := by
  intro n hn9 k28 hk28 rl1 rl2 rl3 rl4 xl5 h H locs ls S hl w
  unfold qw_L_law_1432 at w
  refine ql_aload_n (r := rl1) C dL_law_1432 rfl (lv_at hl 1 rfl) ?_
  refine ql_aload_n (r := (some a0)) C dL_law_1433 rfl (lv_at hl 0 rfl) ?_
  refine lv_iload C.1.1 C.1.2.1 dL_law_1434 (lv_at hl 5 rfl) ?_
  refine lv_iconst (v := (1 : Int32)) C.1.1 C.1.2.1 dL_law_1436 (by decide) ?_
  refine lv_iadd C.1.1 C.1.2.1 dL_law_1437 ?_
  refine ql_sld C S hX w.1 dL_law_1438 ?_
  replace w := w.2
  refine ql_aload_n (r := rl3) C dL_law_1439 rfl (lv_at hl 3 rfl) ?_
  refine ql_SHI (As := [va_rf rl1, .int (xs9 (xl5 + (1 : Int32)).toNatClampNeg), va_rf rl3]) (rest := []) C S hl qyh_L_length gw_1042 (qm_L_length l hl9 D _ rl1 (xs9 (xl5 + (1 : Int32)).toNatClampNeg) rl3 _ _ w) rfl ⟨Nat.le_of_ble_eq_true rfl, Nat.le_of_ble_eq_true rfl⟩ ⟨rfl, rfl⟩ (by exact Nat.le_of_ble_eq_true rfl) rfl dL_law_1440 ⟨(by show _ ≤ (603072 : Nat); omega), (by show _ ≤ (7190633 : Nat); omega)⟩ (fun x119 h H locs S w => ?_)
  refine W.cs (cells' := (1033 + (513 - (n + 1)) * 21)) (slots' := (15206 + (513 - (n + 1)) * 5126)) (by omega) (by omega) ?_
  refine lv_istore (lv' := [(6, .int x119), (0, .ref a0), (1, va_rf rl1), (2, va_rf rl2), (3, va_rf rl3), (4, va_rf rl4), (5, .int xl5)]) C.1.1 C.1.2.1 dL_law_1443 hl (by decide) rfl (fun ls hl => ?_)
  refine ql_aload_n (r := rl2) C dL_law_1445 rfl (lv_at hl 3 rfl) ?_
  refine ql_aload_n (r := (some a0)) C dL_law_1446 rfl (lv_at hl 1 rfl) ?_
  refine lv_iload C.1.1 C.1.2.1 dL_law_1447 (lv_at hl 6 rfl) ?_
  refine lv_iconst (v := (1 : Int32)) C.1.1 C.1.2.1 dL_law_1449 (by decide) ?_
  refine lv_iadd C.1.1 C.1.2.1 dL_law_1450 ?_
  refine ql_sld C S hX w.1 dL_law_1451 ?_
  replace w := w.2
  refine ql_VI (As := [.int (xs9 (xl5 + (1 : Int32)).toNatClampNeg)]) (rest := []) C S htab hlocks hl qy_X12_length qi_X12_length qs_X12_length gw_1911 (ci := 13) rfl w (fun b w => qm_X12_length l hl9 D _ b (xs9 (xl5 + (1 : Int32)).toNatClampNeg) _ _ w) rfl ⟨Nat.le_of_ble_eq_true rfl, Nat.le_of_ble_eq_true rfl⟩ ⟨rfl, rfl⟩ (by exact Nat.le_of_ble_eq_true rfl) (fun b e9 => by cases e9; rfl) dL_law_1452 ⟨(by show _ ≤ (603072 : Nat); omega), (by show _ ≤ (7190633 : Nat); omega)⟩ ⟨(by show _ ≤ (603072 : Nat); omega), (by show _ ≤ (7190633 : Nat); omega)⟩ (fun x120 h H locs S w => ?_)
  refine W.cs (cells' := (1033 + (513 - (n + 1)) * 21)) (slots' := (15206 + (513 - (n + 1)) * 5126)) (by omega) (by omega) ?_
  refine lv_istore (lv' := [(7, .int x120), (6, .int x119), (0, .ref a0), (1, va_rf rl1), (2, va_rf rl2), (3, va_rf rl3), (4, va_rf rl4), (5, .int xl5)]) C.1.1 C.1.2.1 dL_law_1455 hl (by decide) rfl (fun ls hl => ?_)
  refine ql_aload_n (r := rl2) C dL_law_1457 rfl (lv_at hl 4 rfl) ?_
  refine ql_VI (As := []) (rest := []) C S htab hlocks hl qy_X12_thrown qi_X12_thrown qs_X12_thrown gw_1727 (ci := 13) rfl w (fun b w => qm_X12_thrown l hl9 D _ b _ _ w) rfl ⟨Nat.le_of_ble_eq_true rfl, Nat.le_of_ble_eq_true rfl⟩ ⟨rfl, rfl⟩ (by exact Nat.le_of_ble_eq_true rfl) (fun b e9 => by cases e9; rfl) dL_law_1458 ⟨(by show _ ≤ (603072 : Nat); omega), (by show _ ≤ (7190633 : Nat); omega)⟩ ⟨(by show _ ≤ (603072 : Nat); omega), (by show _ ≤ (7190633 : Nat); omega)⟩ (fun x122 h H locs S w => ?_)
  refine W.cs (cells' := (1033 + (513 - (n + 1)) * 21)) (slots' := (15206 + (513 - (n + 1)) * 5126)) (by omega) (by omega) ?_
  refine lv_iload C.1.1 C.1.2.1 dL_law_1461 (lv_at hl 1 rfl) ?_
  refine lv_icmp_eq (tgt := 1468) C.1.1 C.1.2.1 dL_law_1463 (by decide) (fun c9 => ?_) (fun c9 => ?_)
  · replace w := ql_if w c9
    refine lv_iload C.1.1 C.1.2.1 dL_law_1468 (lv_at hl 1 rfl) ?_
    refine lv_if_ne (tgt := 1485) C.1.1 C.1.2.1 dL_law_1470 (by decide) (fun c9 => ?_) (fun c9 => ?_)
    · replace w := ql_ifn w c9
      exact (qm_L_law_1485 l hl9 D h0 L9 xs9 a0 Q X p e s m below meth c C hr hlocks htab hX) n hn9 k28 hk28 rl1 rl2 rl3 rl4 xl5 _ _ _ _ S (lv_sub hl [2, 3, 4, 5, 6, 7] rfl) w
    · replace w := ql_if w c9
      refine ql_aload_n (r := rl3) C dL_law_1473 rfl (lv_at hl 5 rfl) ?_
      refine lv_iconst (v := (0 : Int32)) C.1.1 C.1.2.1 dL_law_1474 (by decide) ?_
      refine ql_lald C S dL_law_1475 w (fun j124 w => ?_)
      refine lv_iload C.1.1 C.1.2.1 dL_law_1476 (lv_at hl 0 rfl) ?_
      refine lv_i2l C.1.1 C.1.2.1 dL_law_1478 rfl ?_
      refine W.lcmp C.1.1 C.1.2.1 dL_law_1479 ?_
      refine lv_if_eq (tgt := 1485) C.1.1 C.1.2.1 dL_law_1480 (by decide) (fun c9 => ?_) (fun c9 => ?_)
      · replace w := ql_if w c9
        exact (qm_L_law_1485 l hl9 D h0 L9 xs9 a0 Q X p e s m below meth c C hr hlocks htab hX) n hn9 k28 hk28 rl1 rl2 rl3 rl4 xl5 _ _ _ _ S (lv_sub hl [2, 3, 4, 5, 6, 7] rfl) w
      · replace w := ql_ifn w c9
        refine lv_iconst (v := (0 : Int32)) C.1.1 C.1.2.1 dL_law_1483 (by decide) ?_
        exact ql_zret C S hr hlocks dL_law_1484 ⟨(by show _ ≤ (603072 : Nat); omega), (by show _ ≤ (7190633 : Nat); omega)⟩ w
  · replace w := ql_ifn w c9
    refine lv_iconst (v := (0 : Int32)) C.1.1 C.1.2.1 dL_law_1466 (by decide) ?_
    exact ql_zret C S hr hlocks dL_law_1467 ⟨(by show _ ≤ (603072 : Nat); omega), (by show _ ≤ (7190633 : Nat); omega)⟩ w
set_option maxHeartbeats 4000000 in
set_option maxRecDepth 100000 in
theorem qm_L_law_1553 (l : Launch) (hl9 : l.stackTraces = false) (D : ql_D) (h0 : ql_H) (L9 : Nat) (xs9 : Nat → Int32) (a0 : Nat) (Q : Int32 → ql_H → Prop) (X : String → ql_H → Prop) (p : Program) (e : Env) (s : State) (m : MethodId) (below : List Frame) (meth : Method) (c : Code) (C : ql_C D h0 p m c cL_law 9 s [.ref a0].toArray "ClauseLedgerLaw") (hr : meth.sig.returnType = some .boolean) (hlocks : meth.locks = false) (htab : ∀ x ∈ c.exceptionTable.toList, False) (hX : va_X a0 L9 xs9 s s.heap ∧ a0 < s.heap.size ∧ ¬ ql_A h0 a0) : ∀ n : Nat, n + 1 ≤ 513 → ∀ (k28 : Option Nat → Option Nat → Option Nat → Option Nat → Int32 → ql_H → Prop) (hk28 : ∀ (rl1 : Option Nat) (rl2 : Option Nat) (rl3 : Option Nat) (rl4 : Option Nat) (xl5 : Int32) (h : ql_H) (H : Heap) (locs : List Loc) (ls : Array Slot), ql_S D h0 s H locs h → lv_has ls 9 [(0, .ref a0), (1, va_rf rl1), (2, va_rf rl2), (3, va_rf rl3), (4, va_rf rl4), (5, .int xl5)] → k28 rl1 rl2 rl3 rl4 xl5 h → W p l e ({ frames := 2048, cells := 603072, slots := 7190633, locals := 94400 } : Room) s m ([.ref a0] : List Value).toArray below meth c H locs (1032 + (513 - n) * 21) (15200 + (513 - n) * 5126) (vx_MQ below (ql_Q D h0 (ql_rI Q)) (ql_X D h0 X) ([.ref a0] : List Value).toArray s 603072 7190633 (ql_A h0)) (F0 m 28 ls [])) , ∀ (rl1 : Option Nat) (rl2 : Option Nat) (rl3 : Option Nat) (rl4 : Option Nat) (xl5 : Int32) (h : ql_H) (H : Heap) (locs : List Loc) (ls : Array Slot), ql_S D h0 s H locs h → lv_has ls 9 [(0, .ref a0), (1, va_rf rl1), (2, va_rf rl2), (3, va_rf rl3), (4, va_rf rl4), (5, .int xl5)] → qw_L_law_1553 D.2 L9 xs9 a0 Q X k28 rl1 rl2 rl3 rl4 xl5 h → W p l e ({ frames := 2048, cells := 603072, slots := 7190633, locals := 94400 } : Room) s m ([.ref a0] : List Value).toArray below meth c H locs (1034 + (513 - (n + 1)) * 21) (15212 + (513 - (n + 1)) * 5126) (vx_MQ below (ql_Q D h0 (ql_rI Q)) (ql_X D h0 X) ([.ref a0] : List Value).toArray s 603072 7190633 (ql_A h0)) (F0 m 1553 ls []) := by
  intro n hn9 k28 hk28 rl1 rl2 rl3 rl4 xl5 h H locs ls S hl w
  unfold qw_L_law_1553 at w
  refine lv_goto (tgt := 2957) C.1.1 C.1.2.1 dL_law_1553 (by decide) ?_
  refine W.widen (k := (1053 + (513 - (n + 1)) * 21)) (n := (20326 + (513 - (n + 1)) * 5126)) (by omega) (by omega) ?_
  exact (qm_L_law_2957 l hl9 D h0 L9 xs9 a0 Q X p e s m below meth c C hr hlocks htab hX) n hn9 k28 hk28 rl1 rl2 rl3 rl4 xl5 _ _ _ _ S (lv_sub hl [0, 1, 2, 3, 4, 5] rfl) w
set_option maxHeartbeats 4000000 in
set_option maxRecDepth 100000 in
theorem qm_L_law_1488 (l : Launch) (hl9 : l.stackTraces = false) (D : ql_D) (h0 : ql_H) (L9 : Nat) (xs9 : Nat → Int32) (a0 : Nat) (Q : Int32 → ql_H → Prop) (X : String → ql_H → Prop) (p : Program) (e : Env) (s : State) (m : MethodId) (below : List Frame) (meth : Method) (c : Code) (C : ql_C D h0 p m c cL_law 9 s [.ref a0].toArray "ClauseLedgerLaw") (hr : meth.sig.returnType = some .boolean) (hlocks : meth.locks = false) (htab : ∀ x ∈ c.exceptionTable.toList, False) (hX : va_X a0 L9 xs9 s s.heap ∧ a0 < s.heap.size ∧ ¬ ql_A h0 a0) : ∀ n : Nat, n + 1 ≤ 513 → ∀ (k28 : Option Nat → Option Nat → Option Nat → Option Nat → Int32 → ql_H → Prop) (hk28 : ∀ (rl1 : Option Nat) (rl2 : Option Nat) (rl3 : Option Nat) (rl4 : Option Nat) (xl5 : Int32) (h : ql_H) (H : Heap) (locs : List Loc) (ls : Array Slot), ql_S D h0 s H locs h → lv_has ls 9 [(0, .ref a0), (1, va_rf rl1), (2, va_rf rl2), (3, va_rf rl3), (4, va_rf rl4), (5, .int xl5)] → k28 rl1 rl2 rl3 rl4 xl5 h → W p l e ({ frames := 2048, cells := 603072, slots := 7190633, locals := 94400 } : Room) s m ([.ref a0] : List Value).toArray below meth c H locs (1032 + (513 - n) * 21) (15200 + (513 - n) * 5126) (vx_MQ below (ql_Q D h0 (ql_rI Q)) (ql_X D h0 X) ([.ref a0] : List Value).toArray s 603072 7190633 (ql_A h0)) (F0 m 28 ls [])) , ∀ (rl1 : Option Nat) (rl2 : Option Nat) (rl3 : Option Nat) (rl4 : Option Nat) (xl5 : Int32) (h : ql_H) (H : Heap) (locs : List Loc) (ls : Array Slot), ql_S D h0 s H locs h → lv_has ls 9 [(0, .ref a0), (1, va_rf rl1), (2, va_rf rl2), (3, va_rf rl3), (4, va_rf rl4), (5, .int xl5)] → qw_L_law_1488 D.2 L9 xs9 a0 Q X k28 rl1 rl2 rl3 rl4 xl5 h → W p l e ({ frames := 2048, cells := 603072, slots := 7190633, locals := 94400 } : Room) s m ([.ref a0] : List Value).toArray below meth c H locs (1032 + (513 - (n + 1)) * 21) (15200 + (513 - (n + 1)) * 5126) (vx_MQ below (ql_Q D h0 (ql_rI Q)) (ql_X D h0 X) ([.ref a0] : List Value).toArray s 603072 7190633 (ql_A h0)) (F0 m 1488 ls []) := by
  intro n hn9 k28 hk28 rl1 rl2 rl3 rl4 xl5 h H locs ls S hl w
  unfold qw_L_law_1488 at w
  refine ql_aload_n (r := rl1) C dL_law_1488 rfl (lv_at hl 1 rfl) ?_
  refine ql_aload_n (r := (some a0)) C dL_law_1489 rfl (lv_at hl 0 rfl) ?_
  refine lv_iload C.1.1 C.1.2.1 dL_law_1490 (lv_at hl 5 rfl) ?_
  refine lv_iconst (v := (1 : Int32)) C.1.1 C.1.2.1 dL_law_1492 (by decide) ?_
  refine lv_iadd C.1.1 C.1.2.1 dL_law_1493 ?_
  refine ql_sld C S hX w.1 dL_law_1494 ?_
  replace w := w.2
  refine ql_aload_n (r := (some a0)) C dL_law_1495 rfl (lv_at hl 0 rfl) ?_
  refine lv_iload C.1.1 C.1.2.1 dL_law_1496 (lv_at hl 5 rfl) ?_
  refine lv_iconst (v := (2 : Int32)) C.1.1 C.1.2.1 dL_law_1498 (by decide) ?_
  refine lv_iadd C.1.1 C.1.2.1 dL_law_1499 ?_
  refine ql_sld C S hX w.1 dL_law_1500 ?_
  replace w := w.2
  refine ql_aload_n (r := rl3) C dL_law_1501 rfl (lv_at hl 3 rfl) ?_
  refine ql_SHI (As := [va_rf rl1, .int (xs9 (xl5 + (1 : Int32)).toNatClampNeg), .int (xs9 (xl5 + (2 : Int32)).toNatClampNeg), va_rf rl3]) (rest := []) C S hl qyh_L_noteAt gw_1050 (qm_L_noteAt l hl9 D _ rl1 (xs9 (xl5 + (1 : Int32)).toNatClampNeg) (xs9 (xl5 + (2 : Int32)).toNatClampNeg) rl3 _ _ w) rfl ⟨Nat.le_of_ble_eq_true rfl, Nat.le_of_ble_eq_true rfl⟩ ⟨rfl, rfl⟩ (by exact Nat.le_of_ble_eq_true rfl) rfl dL_law_1502 ⟨(by show _ ≤ (603072 : Nat); omega), (by show _ ≤ (7190633 : Nat); omega)⟩ (fun x125 h H locs S w => ?_)
  refine W.cs (cells' := (1034 + (513 - (n + 1)) * 21)) (slots' := (15212 + (513 - (n + 1)) * 5126)) (by omega) (by omega) ?_
  refine lv_istore (lv' := [(6, .int x125), (0, .ref a0), (1, va_rf rl1), (2, va_rf rl2), (3, va_rf rl3), (4, va_rf rl4), (5, .int xl5)]) C.1.1 C.1.2.1 dL_law_1505 hl (by decide) rfl (fun ls hl => ?_)
  refine ql_aload_n (r := rl2) C dL_law_1507 rfl (lv_at hl 3 rfl) ?_
  refine ql_aload_n (r := (some a0)) C dL_law_1508 rfl (lv_at hl 1 rfl) ?_
  refine lv_iload C.1.1 C.1.2.1 dL_law_1509 (lv_at hl 6 rfl) ?_
  refine lv_iconst (v := (1 : Int32)) C.1.1 C.1.2.1 dL_law_1511 (by decide) ?_
  refine lv_iadd C.1.1 C.1.2.1 dL_law_1512 ?_
  refine ql_sld C S hX w.1 dL_law_1513 ?_
  replace w := w.2
  refine ql_aload_n (r := (some a0)) C dL_law_1514 rfl (lv_at hl 1 rfl) ?_
  refine lv_iload C.1.1 C.1.2.1 dL_law_1515 (lv_at hl 6 rfl) ?_
  refine lv_iconst (v := (2 : Int32)) C.1.1 C.1.2.1 dL_law_1517 (by decide) ?_
  refine lv_iadd C.1.1 C.1.2.1 dL_law_1518 ?_
  refine ql_sld C S hX w.1 dL_law_1519 ?_
  replace w := w.2
  refine ql_VI (As := [.int (xs9 (xl5 + (1 : Int32)).toNatClampNeg), .int (xs9 (xl5 + (2 : Int32)).toNatClampNeg)]) (rest := []) C S htab hlocks hl qy_X12_noteAt qi_X12_noteAt qs_X12_noteAt gw_1915 (ci := 13) rfl w (fun b w => qm_X12_noteAt l hl9 D _ b (xs9 (xl5 + (1 : Int32)).toNatClampNeg) (xs9 (xl5 + (2 : Int32)).toNatClampNeg) _ _ w) rfl ⟨Nat.le_of_ble_eq_true rfl, Nat.le_of_ble_eq_true rfl⟩ ⟨rfl, rfl⟩ (by exact Nat.le_of_ble_eq_true rfl) (fun b e9 => by cases e9; rfl) dL_law_1520 ⟨(by show _ ≤ (603072 : Nat); omega), (by show _ ≤ (7190633 : Nat); omega)⟩ ⟨(by show _ ≤ (603072 : Nat); omega), (by show _ ≤ (7190633 : Nat); omega)⟩ (fun x126 h H locs S w => ?_)
  refine W.cs (cells' := (1034 + (513 - (n + 1)) * 21)) (slots' := (15212 + (513 - (n + 1)) * 5126)) (by omega) (by omega) ?_
  refine lv_istore (lv' := [(7, .int x126), (6, .int x125), (0, .ref a0), (1, va_rf rl1), (2, va_rf rl2), (3, va_rf rl3), (4, va_rf rl4), (5, .int xl5)]) C.1.1 C.1.2.1 dL_law_1523 hl (by decide) rfl (fun ls hl => ?_)
  refine ql_aload_n (r := rl2) C dL_law_1525 rfl (lv_at hl 4 rfl) ?_
  refine ql_VI (As := []) (rest := []) C S htab hlocks hl qy_X12_thrown qi_X12_thrown qs_X12_thrown gw_1727 (ci := 13) rfl w (fun b w => qm_X12_thrown l hl9 D _ b _ _ w) rfl ⟨Nat.le_of_ble_eq_true rfl, Nat.le_of_ble_eq_true rfl⟩ ⟨rfl, rfl⟩ (by exact Nat.le_of_ble_eq_true rfl) (fun b e9 => by cases e9; rfl) dL_law_1526 ⟨(by show _ ≤ (603072 : Nat); omega), (by show _ ≤ (7190633 : Nat); omega)⟩ ⟨(by show _ ≤ (603072 : Nat); omega), (by show _ ≤ (7190633 : Nat); omega)⟩ (fun x128 h H locs S w => ?_)
  refine W.cs (cells' := (1034 + (513 - (n + 1)) * 21)) (slots' := (15212 + (513 - (n + 1)) * 5126)) (by omega) (by omega) ?_
  refine lv_iload C.1.1 C.1.2.1 dL_law_1529 (lv_at hl 1 rfl) ?_
  refine lv_icmp_eq (tgt := 1536) C.1.1 C.1.2.1 dL_law_1531 (by decide) (fun c9 => ?_) (fun c9 => ?_)
  · replace w := ql_if w c9
    refine lv_iload C.1.1 C.1.2.1 dL_law_1536 (lv_at hl 1 rfl) ?_
    refine lv_if_ne (tgt := 1553) C.1.1 C.1.2.1 dL_law_1538 (by decide) (fun c9 => ?_) (fun c9 => ?_)
    · replace w := ql_ifn w c9
      exact (qm_L_law_1553 l hl9 D h0 L9 xs9 a0 Q X p e s m below meth c C hr hlocks htab hX) n hn9 k28 hk28 rl1 rl2 rl3 rl4 xl5 _ _ _ _ S (lv_sub hl [2, 3, 4, 5, 6, 7] rfl) w
    · replace w := ql_if w c9
      refine ql_aload_n (r := rl3) C dL_law_1541 rfl (lv_at hl 5 rfl) ?_
      refine lv_iconst (v := (0 : Int32)) C.1.1 C.1.2.1 dL_law_1542 (by decide) ?_
      refine ql_lald C S dL_law_1543 w (fun j130 w => ?_)
      refine lv_iload C.1.1 C.1.2.1 dL_law_1544 (lv_at hl 0 rfl) ?_
      refine lv_i2l C.1.1 C.1.2.1 dL_law_1546 rfl ?_
      refine W.lcmp C.1.1 C.1.2.1 dL_law_1547 ?_
      refine lv_if_eq (tgt := 1553) C.1.1 C.1.2.1 dL_law_1548 (by decide) (fun c9 => ?_) (fun c9 => ?_)
      · replace w := ql_if w c9
        exact (qm_L_law_1553 l hl9 D h0 L9 xs9 a0 Q X p e s m below meth c C hr hlocks htab hX) n hn9 k28 hk28 rl1 rl2 rl3 rl4 xl5 _ _ _ _ S (lv_sub hl [2, 3, 4, 5, 6, 7] rfl) w
      · replace w := ql_ifn w c9
        refine lv_iconst (v := (0 : Int32)) C.1.1 C.1.2.1 dL_law_1551 (by decide) ?_
        exact ql_zret C S hr hlocks dL_law_1552 ⟨(by show _ ≤ (603072 : Nat); omega), (by show _ ≤ (7190633 : Nat); omega)⟩ w
  · replace w := ql_ifn w c9
    refine lv_iconst (v := (0 : Int32)) C.1.1 C.1.2.1 dL_law_1534 (by decide) ?_
    exact ql_zret C S hr hlocks dL_law_1535 ⟨(by show _ ≤ (603072 : Nat); omega), (by show _ ≤ (7190633 : Nat); omega)⟩ w
set_option maxHeartbeats 4000000 in
set_option maxRecDepth 100000 in
theorem qm_L_law_1609 (l : Launch) (hl9 : l.stackTraces = false) (D : ql_D) (h0 : ql_H) (L9 : Nat) (xs9 : Nat → Int32) (a0 : Nat) (Q : Int32 → ql_H → Prop) (X : String → ql_H → Prop) (p : Program) (e : Env) (s : State) (m : MethodId) (below : List Frame) (meth : Method) (c : Code) (C : ql_C D h0 p m c cL_law 9 s [.ref a0].toArray "ClauseLedgerLaw") (hr : meth.sig.returnType = some .boolean) (hlocks : meth.locks = false) (htab : ∀ x ∈ c.exceptionTable.toList, False) (hX : va_X a0 L9 xs9 s s.heap ∧ a0 < s.heap.size ∧ ¬ ql_A h0 a0) : ∀ n : Nat, n + 1 ≤ 513 → ∀ (k28 : Option Nat → Option Nat → Option Nat → Option Nat → Int32 → ql_H → Prop) (hk28 : ∀ (rl1 : Option Nat) (rl2 : Option Nat) (rl3 : Option Nat) (rl4 : Option Nat) (xl5 : Int32) (h : ql_H) (H : Heap) (locs : List Loc) (ls : Array Slot), ql_S D h0 s H locs h → lv_has ls 9 [(0, .ref a0), (1, va_rf rl1), (2, va_rf rl2), (3, va_rf rl3), (4, va_rf rl4), (5, .int xl5)] → k28 rl1 rl2 rl3 rl4 xl5 h → W p l e ({ frames := 2048, cells := 603072, slots := 7190633, locals := 94400 } : Room) s m ([.ref a0] : List Value).toArray below meth c H locs (1032 + (513 - n) * 21) (15200 + (513 - n) * 5126) (vx_MQ below (ql_Q D h0 (ql_rI Q)) (ql_X D h0 X) ([.ref a0] : List Value).toArray s 603072 7190633 (ql_A h0)) (F0 m 28 ls [])) , ∀ (rl1 : Option Nat) (rl2 : Option Nat) (rl3 : Option Nat) (rl4 : Option Nat) (xl5 : Int32) (h : ql_H) (H : Heap) (locs : List Loc) (ls : Array Slot), ql_S D h0 s H locs h → lv_has ls 9 [(0, .ref a0), (1, va_rf rl1), (2, va_rf rl2), (3, va_rf rl3), (4, va_rf rl4), (5, .int xl5)] → qw_L_law_1609 D.2 L9 xs9 a0 Q X k28 rl1 rl2 rl3 rl4 xl5 h → W p l e ({ frames := 2048, cells := 603072, slots := 7190633, locals := 94400 } : Room) s m ([.ref a0] : List Value).toArray below meth c H locs (1033 + (513 - (n + 1)) * 21) (15206 + (513 - (n + 1)) * 5126) (vx_MQ below (ql_Q D h0 (ql_rI Q)) (ql_X D h0 X) ([.ref a0] : List Value).toArray s 603072 7190633 (ql_A h0)) (F0 m 1609 ls []) := by
  intro n hn9 k28 hk28 rl1 rl2 rl3 rl4 xl5 h H locs ls S hl w
  unfold qw_L_law_1609 at w
  refine lv_goto (tgt := 2957) C.1.1 C.1.2.1 dL_law_1609 (by decide) ?_
  refine W.widen (k := (1053 + (513 - (n + 1)) * 21)) (n := (20326 + (513 - (n + 1)) * 5126)) (by omega) (by omega) ?_
  exact (qm_L_law_2957 l hl9 D h0 L9 xs9 a0 Q X p e s m below meth c C hr hlocks htab hX) n hn9 k28 hk28 rl1 rl2 rl3 rl4 xl5 _ _ _ _ S (lv_sub hl [0, 1, 2, 3, 4, 5] rfl) w
set_option maxHeartbeats 4000000 in
set_option maxRecDepth 100000 in
theorem qm_L_law_1556 (l : Launch) (hl9 : l.stackTraces = false) (D : ql_D) (h0 : ql_H) (L9 : Nat) (xs9 : Nat → Int32) (a0 : Nat) (Q : Int32 → ql_H → Prop) (X : String → ql_H → Prop) (p : Program) (e : Env) (s : State) (m : MethodId) (below : List Frame) (meth : Method) (c : Code) (C : ql_C D h0 p m c cL_law 9 s [.ref a0].toArray "ClauseLedgerLaw") (hr : meth.sig.returnType = some .boolean) (hlocks : meth.locks = false) (htab : ∀ x ∈ c.exceptionTable.toList, False) (hX : va_X a0 L9 xs9 s s.heap ∧ a0 < s.heap.size ∧ ¬ ql_A h0 a0) : ∀ n : Nat, n + 1 ≤ 513 → ∀ (k28 : Option Nat → Option Nat → Option Nat → Option Nat → Int32 → ql_H → Prop) (hk28 : ∀ (rl1 : Option Nat) (rl2 : Option Nat) (rl3 : Option Nat) (rl4 : Option Nat) (xl5 : Int32) (h : ql_H) (H : Heap) (locs : List Loc) (ls : Array Slot), ql_S D h0 s H locs h → lv_has ls 9 [(0, .ref a0), (1, va_rf rl1), (2, va_rf rl2), (3, va_rf rl3), (4, va_rf rl4), (5, .int xl5)] → k28 rl1 rl2 rl3 rl4 xl5 h → W p l e ({ frames := 2048, cells := 603072, slots := 7190633, locals := 94400 } : Room) s m ([.ref a0] : List Value).toArray below meth c H locs (1032 + (513 - n) * 21) (15200 + (513 - n) * 5126) (vx_MQ below (ql_Q D h0 (ql_rI Q)) (ql_X D h0 X) ([.ref a0] : List Value).toArray s 603072 7190633 (ql_A h0)) (F0 m 28 ls [])) , ∀ (rl1 : Option Nat) (rl2 : Option Nat) (rl3 : Option Nat) (rl4 : Option Nat) (xl5 : Int32) (h : ql_H) (H : Heap) (locs : List Loc) (ls : Array Slot), ql_S D h0 s H locs h → lv_has ls 9 [(0, .ref a0), (1, va_rf rl1), (2, va_rf rl2), (3, va_rf rl3), (4, va_rf rl4), (5, .int xl5)] → qw_L_law_1556 D.2 L9 xs9 a0 Q X k28 rl1 rl2 rl3 rl4 xl5 h → W p l e ({ frames := 2048, cells := 603072, slots := 7190633, locals := 94400 } : Room) s m ([.ref a0] : List Value).toArray below meth c H locs (1032 + (513 - (n + 1)) * 21) (15200 + (513 - (n + 1)) * 5126) (vx_MQ below (ql_Q D h0 (ql_rI Q)) (ql_X D h0 X) ([.ref a0] : List Value).toArray s 603072 7190633 (ql_A h0)) (F0 m 1556 ls []) := by
  intro n hn9 k28 hk28 rl1 rl2 rl3 rl4 xl5 h H locs ls S hl w
  unfold qw_L_law_1556 at w
  refine ql_aload_n (r := rl1) C dL_law_1556 rfl (lv_at hl 1 rfl) ?_
  refine ql_aload_n (r := (some a0)) C dL_law_1557 rfl (lv_at hl 0 rfl) ?_
  refine lv_iload C.1.1 C.1.2.1 dL_law_1558 (lv_at hl 5 rfl) ?_
  refine lv_iconst (v := (1 : Int32)) C.1.1 C.1.2.1 dL_law_1560 (by decide) ?_
  refine lv_iadd C.1.1 C.1.2.1 dL_law_1561 ?_
  refine ql_sld C S hX w.1 dL_law_1562 ?_
  replace w := w.2
  refine ql_aload_n (r := rl3) C dL_law_1563 rfl (lv_at hl 3 rfl) ?_
  refine ql_SHI (As := [va_rf rl1, .int (xs9 (xl5 + (1 : Int32)).toNatClampNeg), va_rf rl3]) (rest := []) C S hl qyh_L_versionCount gw_1061 (qm_L_versionCount l hl9 D _ rl1 (xs9 (xl5 + (1 : Int32)).toNatClampNeg) rl3 _ _ w) rfl ⟨Nat.le_of_ble_eq_true rfl, Nat.le_of_ble_eq_true rfl⟩ ⟨rfl, rfl⟩ (by exact Nat.le_of_ble_eq_true rfl) rfl dL_law_1564 ⟨(by show _ ≤ (603072 : Nat); omega), (by show _ ≤ (7190633 : Nat); omega)⟩ (fun x131 h H locs S w => ?_)
  refine W.cs (cells' := (1033 + (513 - (n + 1)) * 21)) (slots' := (15206 + (513 - (n + 1)) * 5126)) (by omega) (by omega) ?_
  refine lv_istore (lv' := [(6, .int x131), (0, .ref a0), (1, va_rf rl1), (2, va_rf rl2), (3, va_rf rl3), (4, va_rf rl4), (5, .int xl5)]) C.1.1 C.1.2.1 dL_law_1567 hl (by decide) rfl (fun ls hl => ?_)
  refine ql_aload_n (r := rl2) C dL_law_1569 rfl (lv_at hl 3 rfl) ?_
  refine ql_aload_n (r := (some a0)) C dL_law_1570 rfl (lv_at hl 1 rfl) ?_
  refine lv_iload C.1.1 C.1.2.1 dL_law_1571 (lv_at hl 6 rfl) ?_
  refine lv_iconst (v := (1 : Int32)) C.1.1 C.1.2.1 dL_law_1573 (by decide) ?_
  refine lv_iadd C.1.1 C.1.2.1 dL_law_1574 ?_
  refine ql_sld C S hX w.1 dL_law_1575 ?_
  replace w := w.2
  refine ql_VI (As := [.int (xs9 (xl5 + (1 : Int32)).toNatClampNeg)]) (rest := []) C S htab hlocks hl qy_X12_versionCount qi_X12_versionCount qs_X12_versionCount gw_1919 (ci := 13) rfl w (fun b w => qm_X12_versionCount l hl9 D _ b (xs9 (xl5 + (1 : Int32)).toNatClampNeg) _ _ w) rfl ⟨Nat.le_of_ble_eq_true rfl, Nat.le_of_ble_eq_true rfl⟩ ⟨rfl, rfl⟩ (by exact Nat.le_of_ble_eq_true rfl) (fun b e9 => by cases e9; rfl) dL_law_1576 ⟨(by show _ ≤ (603072 : Nat); omega), (by show _ ≤ (7190633 : Nat); omega)⟩ ⟨(by show _ ≤ (603072 : Nat); omega), (by show _ ≤ (7190633 : Nat); omega)⟩ (fun x132 h H locs S w => ?_)
  refine W.cs (cells' := (1033 + (513 - (n + 1)) * 21)) (slots' := (15206 + (513 - (n + 1)) * 5126)) (by omega) (by omega) ?_
  refine lv_istore (lv' := [(7, .int x132), (6, .int x131), (0, .ref a0), (1, va_rf rl1), (2, va_rf rl2), (3, va_rf rl3), (4, va_rf rl4), (5, .int xl5)]) C.1.1 C.1.2.1 dL_law_1579 hl (by decide) rfl (fun ls hl => ?_)
  refine ql_aload_n (r := rl2) C dL_law_1581 rfl (lv_at hl 4 rfl) ?_
  refine ql_VI (As := []) (rest := []) C S htab hlocks hl qy_X12_thrown qi_X12_thrown qs_X12_thrown gw_1727 (ci := 13) rfl w (fun b w => qm_X12_thrown l hl9 D _ b _ _ w) rfl ⟨Nat.le_of_ble_eq_true rfl, Nat.le_of_ble_eq_true rfl⟩ ⟨rfl, rfl⟩ (by exact Nat.le_of_ble_eq_true rfl) (fun b e9 => by cases e9; rfl) dL_law_1582 ⟨(by show _ ≤ (603072 : Nat); omega), (by show _ ≤ (7190633 : Nat); omega)⟩ ⟨(by show _ ≤ (603072 : Nat); omega), (by show _ ≤ (7190633 : Nat); omega)⟩ (fun x134 h H locs S w => ?_)
  refine W.cs (cells' := (1033 + (513 - (n + 1)) * 21)) (slots' := (15206 + (513 - (n + 1)) * 5126)) (by omega) (by omega) ?_
  refine lv_iload C.1.1 C.1.2.1 dL_law_1585 (lv_at hl 1 rfl) ?_
  refine lv_icmp_eq (tgt := 1592) C.1.1 C.1.2.1 dL_law_1587 (by decide) (fun c9 => ?_) (fun c9 => ?_)
  · replace w := ql_if w c9
    refine lv_iload C.1.1 C.1.2.1 dL_law_1592 (lv_at hl 1 rfl) ?_
    refine lv_if_ne (tgt := 1609) C.1.1 C.1.2.1 dL_law_1594 (by decide) (fun c9 => ?_) (fun c9 => ?_)
    · replace w := ql_ifn w c9
      exact (qm_L_law_1609 l hl9 D h0 L9 xs9 a0 Q X p e s m below meth c C hr hlocks htab hX) n hn9 k28 hk28 rl1 rl2 rl3 rl4 xl5 _ _ _ _ S (lv_sub hl [2, 3, 4, 5, 6, 7] rfl) w
    · replace w := ql_if w c9
      refine ql_aload_n (r := rl3) C dL_law_1597 rfl (lv_at hl 5 rfl) ?_
      refine lv_iconst (v := (0 : Int32)) C.1.1 C.1.2.1 dL_law_1598 (by decide) ?_
      refine ql_lald C S dL_law_1599 w (fun j136 w => ?_)
      refine lv_iload C.1.1 C.1.2.1 dL_law_1600 (lv_at hl 0 rfl) ?_
      refine lv_i2l C.1.1 C.1.2.1 dL_law_1602 rfl ?_
      refine W.lcmp C.1.1 C.1.2.1 dL_law_1603 ?_
      refine lv_if_eq (tgt := 1609) C.1.1 C.1.2.1 dL_law_1604 (by decide) (fun c9 => ?_) (fun c9 => ?_)
      · replace w := ql_if w c9
        exact (qm_L_law_1609 l hl9 D h0 L9 xs9 a0 Q X p e s m below meth c C hr hlocks htab hX) n hn9 k28 hk28 rl1 rl2 rl3 rl4 xl5 _ _ _ _ S (lv_sub hl [2, 3, 4, 5, 6, 7] rfl) w
      · replace w := ql_ifn w c9
        refine lv_iconst (v := (0 : Int32)) C.1.1 C.1.2.1 dL_law_1607 (by decide) ?_
        exact ql_zret C S hr hlocks dL_law_1608 ⟨(by show _ ≤ (603072 : Nat); omega), (by show _ ≤ (7190633 : Nat); omega)⟩ w
  · replace w := ql_ifn w c9
    refine lv_iconst (v := (0 : Int32)) C.1.1 C.1.2.1 dL_law_1590 (by decide) ?_
    exact ql_zret C S hr hlocks dL_law_1591 ⟨(by show _ ≤ (603072 : Nat); omega), (by show _ ≤ (7190633 : Nat); omega)⟩ w
set_option maxHeartbeats 4000000 in
set_option maxRecDepth 100000 in
theorem qm_L_law_1677 (l : Launch) (hl9 : l.stackTraces = false) (D : ql_D) (h0 : ql_H) (L9 : Nat) (xs9 : Nat → Int32) (a0 : Nat) (Q : Int32 → ql_H → Prop) (X : String → ql_H → Prop) (p : Program) (e : Env) (s : State) (m : MethodId) (below : List Frame) (meth : Method) (c : Code) (C : ql_C D h0 p m c cL_law 9 s [.ref a0].toArray "ClauseLedgerLaw") (hr : meth.sig.returnType = some .boolean) (hlocks : meth.locks = false) (htab : ∀ x ∈ c.exceptionTable.toList, False) (hX : va_X a0 L9 xs9 s s.heap ∧ a0 < s.heap.size ∧ ¬ ql_A h0 a0) : ∀ n : Nat, n + 1 ≤ 513 → ∀ (k28 : Option Nat → Option Nat → Option Nat → Option Nat → Int32 → ql_H → Prop) (hk28 : ∀ (rl1 : Option Nat) (rl2 : Option Nat) (rl3 : Option Nat) (rl4 : Option Nat) (xl5 : Int32) (h : ql_H) (H : Heap) (locs : List Loc) (ls : Array Slot), ql_S D h0 s H locs h → lv_has ls 9 [(0, .ref a0), (1, va_rf rl1), (2, va_rf rl2), (3, va_rf rl3), (4, va_rf rl4), (5, .int xl5)] → k28 rl1 rl2 rl3 rl4 xl5 h → W p l e ({ frames := 2048, cells := 603072, slots := 7190633, locals := 94400 } : Room) s m ([.ref a0] : List Value).toArray below meth c H locs (1032 + (513 - n) * 21) (15200 + (513 - n) * 5126) (vx_MQ below (ql_Q D h0 (ql_rI Q)) (ql_X D h0 X) ([.ref a0] : List Value).toArray s 603072 7190633 (ql_A h0)) (F0 m 28 ls [])) , ∀ (rl1 : Option Nat) (rl2 : Option Nat) (rl3 : Option Nat) (rl4 : Option Nat) (xl5 : Int32) (h : ql_H) (H : Heap) (locs : List Loc) (ls : Array Slot), ql_S D h0 s H locs h → lv_has ls 9 [(0, .ref a0), (1, va_rf rl1), (2, va_rf rl2), (3, va_rf rl3), (4, va_rf rl4), (5, .int xl5)] → qw_L_law_1677 D.2 L9 xs9 a0 Q X k28 rl1 rl2 rl3 rl4 xl5 h → W p l e ({ frames := 2048, cells := 603072, slots := 7190633, locals := 94400 } : Room) s m ([.ref a0] : List Value).toArray below meth c H locs (1034 + (513 - (n + 1)) * 21) (15212 + (513 - (n + 1)) * 5126) (vx_MQ below (ql_Q D h0 (ql_rI Q)) (ql_X D h0 X) ([.ref a0] : List Value).toArray s 603072 7190633 (ql_A h0)) (F0 m 1677 ls []) := by
  intro n hn9 k28 hk28 rl1 rl2 rl3 rl4 xl5 h H locs ls S hl w
  unfold qw_L_law_1677 at w
  refine lv_goto (tgt := 2957) C.1.1 C.1.2.1 dL_law_1677 (by decide) ?_
  refine W.widen (k := (1053 + (513 - (n + 1)) * 21)) (n := (20326 + (513 - (n + 1)) * 5126)) (by omega) (by omega) ?_
  exact (qm_L_law_2957 l hl9 D h0 L9 xs9 a0 Q X p e s m below meth c C hr hlocks htab hX) n hn9 k28 hk28 rl1 rl2 rl3 rl4 xl5 _ _ _ _ S (lv_sub hl [0, 1, 2, 3, 4, 5] rfl) w
set_option maxHeartbeats 4000000 in
set_option maxRecDepth 100000 in
theorem qm_L_law_1612 (l : Launch) (hl9 : l.stackTraces = false) (D : ql_D) (h0 : ql_H) (L9 : Nat) (xs9 : Nat → Int32) (a0 : Nat) (Q : Int32 → ql_H → Prop) (X : String → ql_H → Prop) (p : Program) (e : Env) (s : State) (m : MethodId) (below : List Frame) (meth : Method) (c : Code) (C : ql_C D h0 p m c cL_law 9 s [.ref a0].toArray "ClauseLedgerLaw") (hr : meth.sig.returnType = some .boolean) (hlocks : meth.locks = false) (htab : ∀ x ∈ c.exceptionTable.toList, False) (hX : va_X a0 L9 xs9 s s.heap ∧ a0 < s.heap.size ∧ ¬ ql_A h0 a0) : ∀ n : Nat, n + 1 ≤ 513 → ∀ (k28 : Option Nat → Option Nat → Option Nat → Option Nat → Int32 → ql_H → Prop) (hk28 : ∀ (rl1 : Option Nat) (rl2 : Option Nat) (rl3 : Option Nat) (rl4 : Option Nat) (xl5 : Int32) (h : ql_H) (H : Heap) (locs : List Loc) (ls : Array Slot), ql_S D h0 s H locs h → lv_has ls 9 [(0, .ref a0), (1, va_rf rl1), (2, va_rf rl2), (3, va_rf rl3), (4, va_rf rl4), (5, .int xl5)] → k28 rl1 rl2 rl3 rl4 xl5 h → W p l e ({ frames := 2048, cells := 603072, slots := 7190633, locals := 94400 } : Room) s m ([.ref a0] : List Value).toArray below meth c H locs (1032 + (513 - n) * 21) (15200 + (513 - n) * 5126) (vx_MQ below (ql_Q D h0 (ql_rI Q)) (ql_X D h0 X) ([.ref a0] : List Value).toArray s 603072 7190633 (ql_A h0)) (F0 m 28 ls [])) , ∀ (rl1 : Option Nat) (rl2 : Option Nat) (rl3 : Option Nat) (rl4 : Option Nat) (xl5 : Int32) (h : ql_H) (H : Heap) (locs : List Loc) (ls : Array Slot), ql_S D h0 s H locs h → lv_has ls 9 [(0, .ref a0), (1, va_rf rl1), (2, va_rf rl2), (3, va_rf rl3), (4, va_rf rl4), (5, .int xl5)] → qw_L_law_1612 D.2 L9 xs9 a0 Q X k28 rl1 rl2 rl3 rl4 xl5 h → W p l e ({ frames := 2048, cells := 603072, slots := 7190633, locals := 94400 } : Room) s m ([.ref a0] : List Value).toArray below meth c H locs (1032 + (513 - (n + 1)) * 21) (15200 + (513 - (n + 1)) * 5126) (vx_MQ below (ql_Q D h0 (ql_rI Q)) (ql_X D h0 X) ([.ref a0] : List Value).toArray s 603072 7190633 (ql_A h0)) (F0 m 1612 ls []) := by
  intro n hn9 k28 hk28 rl1 rl2 rl3 rl4 xl5 h H locs ls S hl w
  unfold qw_L_law_1612 at w
  refine ql_aload_n (r := rl1) C dL_law_1612 rfl (lv_at hl 1 rfl) ?_
  refine ql_aload_n (r := (some a0)) C dL_law_1613 rfl (lv_at hl 0 rfl) ?_
  refine lv_iload C.1.1 C.1.2.1 dL_law_1614 (lv_at hl 5 rfl) ?_
  refine lv_iconst (v := (1 : Int32)) C.1.1 C.1.2.1 dL_law_1616 (by decide) ?_
  refine lv_iadd C.1.1 C.1.2.1 dL_law_1617 ?_
  refine ql_sld C S hX w.1 dL_law_1618 ?_
  replace w := w.2
  refine ql_aload_n (r := (some a0)) C dL_law_1619 rfl (lv_at hl 0 rfl) ?_
  refine lv_iload C.1.1 C.1.2.1 dL_law_1620 (lv_at hl 5 rfl) ?_
  refine lv_iconst (v := (2 : Int32)) C.1.1 C.1.2.1 dL_law_1622 (by decide) ?_
  refine lv_iadd C.1.1 C.1.2.1 dL_law_1623 ?_
  refine ql_sld C S hX w.1 dL_law_1624 ?_
  replace w := w.2
  refine ql_aload_n (r := rl3) C dL_law_1625 rfl (lv_at hl 3 rfl) ?_
  refine ql_SHI (As := [va_rf rl1, .int (xs9 (xl5 + (1 : Int32)).toNatClampNeg), .int (xs9 (xl5 + (2 : Int32)).toNatClampNeg), va_rf rl3]) (rest := []) C S hl qyh_L_lengthOn gw_1069 (qm_L_lengthOn l hl9 D _ rl1 (xs9 (xl5 + (1 : Int32)).toNatClampNeg) (xs9 (xl5 + (2 : Int32)).toNatClampNeg) rl3 _ _ w) rfl ⟨Nat.le_of_ble_eq_true rfl, Nat.le_of_ble_eq_true rfl⟩ ⟨rfl, rfl⟩ (by exact Nat.le_of_ble_eq_true rfl) rfl dL_law_1626 ⟨(by show _ ≤ (603072 : Nat); omega), (by show _ ≤ (7190633 : Nat); omega)⟩ (fun x137 h H locs S w => ?_)
  refine W.cs (cells' := (1034 + (513 - (n + 1)) * 21)) (slots' := (15212 + (513 - (n + 1)) * 5126)) (by omega) (by omega) ?_
  refine lv_istore (lv' := [(6, .int x137), (0, .ref a0), (1, va_rf rl1), (2, va_rf rl2), (3, va_rf rl3), (4, va_rf rl4), (5, .int xl5)]) C.1.1 C.1.2.1 dL_law_1629 hl (by decide) rfl (fun ls hl => ?_)
  refine ql_aload_n (r := rl2) C dL_law_1631 rfl (lv_at hl 3 rfl) ?_
  refine ql_aload_n (r := (some a0)) C dL_law_1632 rfl (lv_at hl 1 rfl) ?_
  refine lv_iload C.1.1 C.1.2.1 dL_law_1633 (lv_at hl 6 rfl) ?_
  refine lv_iconst (v := (1 : Int32)) C.1.1 C.1.2.1 dL_law_1635 (by decide) ?_
  refine lv_iadd C.1.1 C.1.2.1 dL_law_1636 ?_
  refine ql_sld C S hX w.1 dL_law_1637 ?_
  replace w := w.2
  refine ql_aload_n (r := (some a0)) C dL_law_1638 rfl (lv_at hl 1 rfl) ?_
  refine lv_iload C.1.1 C.1.2.1 dL_law_1639 (lv_at hl 6 rfl) ?_
  refine lv_iconst (v := (2 : Int32)) C.1.1 C.1.2.1 dL_law_1641 (by decide) ?_
  refine lv_iadd C.1.1 C.1.2.1 dL_law_1642 ?_
  refine ql_sld C S hX w.1 dL_law_1643 ?_
  replace w := w.2
  refine ql_VI (As := [.int (xs9 (xl5 + (1 : Int32)).toNatClampNeg), .int (xs9 (xl5 + (2 : Int32)).toNatClampNeg)]) (rest := []) C S htab hlocks hl qy_X12_lengthOn qi_X12_lengthOn qs_X12_lengthOn gw_1923 (ci := 13) rfl w (fun b w => qm_X12_lengthOn l hl9 D _ b (xs9 (xl5 + (1 : Int32)).toNatClampNeg) (xs9 (xl5 + (2 : Int32)).toNatClampNeg) _ _ w) rfl ⟨Nat.le_of_ble_eq_true rfl, Nat.le_of_ble_eq_true rfl⟩ ⟨rfl, rfl⟩ (by exact Nat.le_of_ble_eq_true rfl) (fun b e9 => by cases e9; rfl) dL_law_1644 ⟨(by show _ ≤ (603072 : Nat); omega), (by show _ ≤ (7190633 : Nat); omega)⟩ ⟨(by show _ ≤ (603072 : Nat); omega), (by show _ ≤ (7190633 : Nat); omega)⟩ (fun x138 h H locs S w => ?_)
  refine W.cs (cells' := (1034 + (513 - (n + 1)) * 21)) (slots' := (15212 + (513 - (n + 1)) * 5126)) (by omega) (by omega) ?_
  refine lv_istore (lv' := [(7, .int x138), (6, .int x137), (0, .ref a0), (1, va_rf rl1), (2, va_rf rl2), (3, va_rf rl3), (4, va_rf rl4), (5, .int xl5)]) C.1.1 C.1.2.1 dL_law_1647 hl (by decide) rfl (fun ls hl => ?_)
  refine ql_aload_n (r := rl2) C dL_law_1649 rfl (lv_at hl 4 rfl) ?_
  refine ql_VI (As := []) (rest := []) C S htab hlocks hl qy_X12_thrown qi_X12_thrown qs_X12_thrown gw_1727 (ci := 13) rfl w (fun b w => qm_X12_thrown l hl9 D _ b _ _ w) rfl ⟨Nat.le_of_ble_eq_true rfl, Nat.le_of_ble_eq_true rfl⟩ ⟨rfl, rfl⟩ (by exact Nat.le_of_ble_eq_true rfl) (fun b e9 => by cases e9; rfl) dL_law_1650 ⟨(by show _ ≤ (603072 : Nat); omega), (by show _ ≤ (7190633 : Nat); omega)⟩ ⟨(by show _ ≤ (603072 : Nat); omega), (by show _ ≤ (7190633 : Nat); omega)⟩ (fun x140 h H locs S w => ?_)
  refine W.cs (cells' := (1034 + (513 - (n + 1)) * 21)) (slots' := (15212 + (513 - (n + 1)) * 5126)) (by omega) (by omega) ?_
  refine lv_iload C.1.1 C.1.2.1 dL_law_1653 (lv_at hl 1 rfl) ?_
  refine lv_icmp_eq (tgt := 1660) C.1.1 C.1.2.1 dL_law_1655 (by decide) (fun c9 => ?_) (fun c9 => ?_)
  · replace w := ql_if w c9
    refine lv_iload C.1.1 C.1.2.1 dL_law_1660 (lv_at hl 1 rfl) ?_
    refine lv_if_ne (tgt := 1677) C.1.1 C.1.2.1 dL_law_1662 (by decide) (fun c9 => ?_) (fun c9 => ?_)
    · replace w := ql_ifn w c9
      exact (qm_L_law_1677 l hl9 D h0 L9 xs9 a0 Q X p e s m below meth c C hr hlocks htab hX) n hn9 k28 hk28 rl1 rl2 rl3 rl4 xl5 _ _ _ _ S (lv_sub hl [2, 3, 4, 5, 6, 7] rfl) w
    · replace w := ql_if w c9
      refine ql_aload_n (r := rl3) C dL_law_1665 rfl (lv_at hl 5 rfl) ?_
      refine lv_iconst (v := (0 : Int32)) C.1.1 C.1.2.1 dL_law_1666 (by decide) ?_
      refine ql_lald C S dL_law_1667 w (fun j142 w => ?_)
      refine lv_iload C.1.1 C.1.2.1 dL_law_1668 (lv_at hl 0 rfl) ?_
      refine lv_i2l C.1.1 C.1.2.1 dL_law_1670 rfl ?_
      refine W.lcmp C.1.1 C.1.2.1 dL_law_1671 ?_
      refine lv_if_eq (tgt := 1677) C.1.1 C.1.2.1 dL_law_1672 (by decide) (fun c9 => ?_) (fun c9 => ?_)
      · replace w := ql_if w c9
        exact (qm_L_law_1677 l hl9 D h0 L9 xs9 a0 Q X p e s m below meth c C hr hlocks htab hX) n hn9 k28 hk28 rl1 rl2 rl3 rl4 xl5 _ _ _ _ S (lv_sub hl [2, 3, 4, 5, 6, 7] rfl) w
      · replace w := ql_ifn w c9
        refine lv_iconst (v := (0 : Int32)) C.1.1 C.1.2.1 dL_law_1675 (by decide) ?_
        exact ql_zret C S hr hlocks dL_law_1676 ⟨(by show _ ≤ (603072 : Nat); omega), (by show _ ≤ (7190633 : Nat); omega)⟩ w
  · replace w := ql_ifn w c9
    refine lv_iconst (v := (0 : Int32)) C.1.1 C.1.2.1 dL_law_1658 (by decide) ?_
    exact ql_zret C S hr hlocks dL_law_1659 ⟨(by show _ ≤ (603072 : Nat); omega), (by show _ ≤ (7190633 : Nat); omega)⟩ w
set_option maxHeartbeats 4000000 in
set_option maxRecDepth 100000 in
theorem qm_L_law_1757 (l : Launch) (hl9 : l.stackTraces = false) (D : ql_D) (h0 : ql_H) (L9 : Nat) (xs9 : Nat → Int32) (a0 : Nat) (Q : Int32 → ql_H → Prop) (X : String → ql_H → Prop) (p : Program) (e : Env) (s : State) (m : MethodId) (below : List Frame) (meth : Method) (c : Code) (C : ql_C D h0 p m c cL_law 9 s [.ref a0].toArray "ClauseLedgerLaw") (hr : meth.sig.returnType = some .boolean) (hlocks : meth.locks = false) (htab : ∀ x ∈ c.exceptionTable.toList, False) (hX : va_X a0 L9 xs9 s s.heap ∧ a0 < s.heap.size ∧ ¬ ql_A h0 a0) : ∀ n : Nat, n + 1 ≤ 513 → ∀ (k28 : Option Nat → Option Nat → Option Nat → Option Nat → Int32 → ql_H → Prop) (hk28 : ∀ (rl1 : Option Nat) (rl2 : Option Nat) (rl3 : Option Nat) (rl4 : Option Nat) (xl5 : Int32) (h : ql_H) (H : Heap) (locs : List Loc) (ls : Array Slot), ql_S D h0 s H locs h → lv_has ls 9 [(0, .ref a0), (1, va_rf rl1), (2, va_rf rl2), (3, va_rf rl3), (4, va_rf rl4), (5, .int xl5)] → k28 rl1 rl2 rl3 rl4 xl5 h → W p l e ({ frames := 2048, cells := 603072, slots := 7190633, locals := 94400 } : Room) s m ([.ref a0] : List Value).toArray below meth c H locs (1032 + (513 - n) * 21) (15200 + (513 - n) * 5126) (vx_MQ below (ql_Q D h0 (ql_rI Q)) (ql_X D h0 X) ([.ref a0] : List Value).toArray s 603072 7190633 (ql_A h0)) (F0 m 28 ls [])) , ∀ (rl1 : Option Nat) (rl2 : Option Nat) (rl3 : Option Nat) (rl4 : Option Nat) (xl5 : Int32) (h : ql_H) (H : Heap) (locs : List Loc) (ls : Array Slot), ql_S D h0 s H locs h → lv_has ls 9 [(0, .ref a0), (1, va_rf rl1), (2, va_rf rl2), (3, va_rf rl3), (4, va_rf rl4), (5, .int xl5)] → qw_L_law_1757 D.2 L9 xs9 a0 Q X k28 rl1 rl2 rl3 rl4 xl5 h → W p l e ({ frames := 2048, cells := 603072, slots := 7190633, locals := 94400 } : Room) s m ([.ref a0] : List Value).toArray below meth c H locs (1035 + (513 - (n + 1)) * 21) (15218 + (513 - (n + 1)) * 5126) (vx_MQ below (ql_Q D h0 (ql_rI Q)) (ql_X D h0 X) ([.ref a0] : List Value).toArray s 603072 7190633 (ql_A h0)) (F0 m 1757 ls []) := by
  intro n hn9 k28 hk28 rl1 rl2 rl3 rl4 xl5 h H locs ls S hl w
  unfold qw_L_law_1757 at w
  refine lv_goto (tgt := 2957) C.1.1 C.1.2.1 dL_law_1757 (by decide) ?_
  refine W.widen (k := (1053 + (513 - (n + 1)) * 21)) (n := (20326 + (513 - (n + 1)) * 5126)) (by omega) (by omega) ?_
  exact (qm_L_law_2957 l hl9 D h0 L9 xs9 a0 Q X p e s m below meth c C hr hlocks htab hX) n hn9 k28 hk28 rl1 rl2 rl3 rl4 xl5 _ _ _ _ S (lv_sub hl [0, 1, 2, 3, 4, 5] rfl) w
set_option maxHeartbeats 4000000 in
set_option maxRecDepth 100000 in
theorem qm_L_law_1680 (l : Launch) (hl9 : l.stackTraces = false) (D : ql_D) (h0 : ql_H) (L9 : Nat) (xs9 : Nat → Int32) (a0 : Nat) (Q : Int32 → ql_H → Prop) (X : String → ql_H → Prop) (p : Program) (e : Env) (s : State) (m : MethodId) (below : List Frame) (meth : Method) (c : Code) (C : ql_C D h0 p m c cL_law 9 s [.ref a0].toArray "ClauseLedgerLaw") (hr : meth.sig.returnType = some .boolean) (hlocks : meth.locks = false) (htab : ∀ x ∈ c.exceptionTable.toList, False) (hX : va_X a0 L9 xs9 s s.heap ∧ a0 < s.heap.size ∧ ¬ ql_A h0 a0) : ∀ n : Nat, n + 1 ≤ 513 → ∀ (k28 : Option Nat → Option Nat → Option Nat → Option Nat → Int32 → ql_H → Prop) (hk28 : ∀ (rl1 : Option Nat) (rl2 : Option Nat) (rl3 : Option Nat) (rl4 : Option Nat) (xl5 : Int32) (h : ql_H) (H : Heap) (locs : List Loc) (ls : Array Slot), ql_S D h0 s H locs h → lv_has ls 9 [(0, .ref a0), (1, va_rf rl1), (2, va_rf rl2), (3, va_rf rl3), (4, va_rf rl4), (5, .int xl5)] → k28 rl1 rl2 rl3 rl4 xl5 h → W p l e ({ frames := 2048, cells := 603072, slots := 7190633, locals := 94400 } : Room) s m ([.ref a0] : List Value).toArray below meth c H locs (1032 + (513 - n) * 21) (15200 + (513 - n) * 5126) (vx_MQ below (ql_Q D h0 (ql_rI Q)) (ql_X D h0 X) ([.ref a0] : List Value).toArray s 603072 7190633 (ql_A h0)) (F0 m 28 ls [])) , ∀ (rl1 : Option Nat) (rl2 : Option Nat) (rl3 : Option Nat) (rl4 : Option Nat) (xl5 : Int32) (h : ql_H) (H : Heap) (locs : List Loc) (ls : Array Slot), ql_S D h0 s H locs h → lv_has ls 9 [(0, .ref a0), (1, va_rf rl1), (2, va_rf rl2), (3, va_rf rl3), (4, va_rf rl4), (5, .int xl5)] → qw_L_law_1680 D.2 L9 xs9 a0 Q X k28 rl1 rl2 rl3 rl4 xl5 h → W p l e ({ frames := 2048, cells := 603072, slots := 7190633, locals := 94400 } : Room) s m ([.ref a0] : List Value).toArray below meth c H locs (1032 + (513 - (n + 1)) * 21) (15200 + (513 - (n + 1)) * 5126) (vx_MQ below (ql_Q D h0 (ql_rI Q)) (ql_X D h0 X) ([.ref a0] : List Value).toArray s 603072 7190633 (ql_A h0)) (F0 m 1680 ls []) := by
  intro n hn9 k28 hk28 rl1 rl2 rl3 rl4 xl5 h H locs ls S hl w
  unfold qw_L_law_1680 at w
  refine ql_aload_n (r := rl1) C dL_law_1680 rfl (lv_at hl 1 rfl) ?_
  refine ql_aload_n (r := (some a0)) C dL_law_1681 rfl (lv_at hl 0 rfl) ?_
  refine lv_iload C.1.1 C.1.2.1 dL_law_1682 (lv_at hl 5 rfl) ?_
  refine lv_iconst (v := (1 : Int32)) C.1.1 C.1.2.1 dL_law_1684 (by decide) ?_
  refine lv_iadd C.1.1 C.1.2.1 dL_law_1685 ?_
  refine ql_sld C S hX w.1 dL_law_1686 ?_
  replace w := w.2
  refine ql_aload_n (r := (some a0)) C dL_law_1687 rfl (lv_at hl 0 rfl) ?_
  refine lv_iload C.1.1 C.1.2.1 dL_law_1688 (lv_at hl 5 rfl) ?_
  refine lv_iconst (v := (2 : Int32)) C.1.1 C.1.2.1 dL_law_1690 (by decide) ?_
  refine lv_iadd C.1.1 C.1.2.1 dL_law_1691 ?_
  refine ql_sld C S hX w.1 dL_law_1692 ?_
  replace w := w.2
  refine ql_aload_n (r := (some a0)) C dL_law_1693 rfl (lv_at hl 0 rfl) ?_
  refine lv_iload C.1.1 C.1.2.1 dL_law_1694 (lv_at hl 5 rfl) ?_
  refine lv_iconst (v := (3 : Int32)) C.1.1 C.1.2.1 dL_law_1696 (by decide) ?_
  refine lv_iadd C.1.1 C.1.2.1 dL_law_1697 ?_
  refine ql_sld C S hX w.1 dL_law_1698 ?_
  replace w := w.2
  refine ql_aload_n (r := rl3) C dL_law_1699 rfl (lv_at hl 3 rfl) ?_
  refine ql_SHI (As := [va_rf rl1, .int (xs9 (xl5 + (1 : Int32)).toNatClampNeg), .int (xs9 (xl5 + (2 : Int32)).toNatClampNeg), .int (xs9 (xl5 + (3 : Int32)).toNatClampNeg), va_rf rl3]) (rest := []) C S hl qyh_L_noteOn gw_1079 (qm_L_noteOn l hl9 D _ rl1 (xs9 (xl5 + (1 : Int32)).toNatClampNeg) (xs9 (xl5 + (2 : Int32)).toNatClampNeg) (xs9 (xl5 + (3 : Int32)).toNatClampNeg) rl3 _ _ w) rfl ⟨Nat.le_of_ble_eq_true rfl, Nat.le_of_ble_eq_true rfl⟩ ⟨rfl, rfl⟩ (by exact Nat.le_of_ble_eq_true rfl) rfl dL_law_1700 ⟨(by show _ ≤ (603072 : Nat); omega), (by show _ ≤ (7190633 : Nat); omega)⟩ (fun x143 h H locs S w => ?_)
  refine W.cs (cells' := (1035 + (513 - (n + 1)) * 21)) (slots' := (15218 + (513 - (n + 1)) * 5126)) (by omega) (by omega) ?_
  refine lv_istore (lv' := [(6, .int x143), (0, .ref a0), (1, va_rf rl1), (2, va_rf rl2), (3, va_rf rl3), (4, va_rf rl4), (5, .int xl5)]) C.1.1 C.1.2.1 dL_law_1703 hl (by decide) rfl (fun ls hl => ?_)
  refine ql_aload_n (r := rl2) C dL_law_1705 rfl (lv_at hl 3 rfl) ?_
  refine ql_aload_n (r := (some a0)) C dL_law_1706 rfl (lv_at hl 1 rfl) ?_
  refine lv_iload C.1.1 C.1.2.1 dL_law_1707 (lv_at hl 6 rfl) ?_
  refine lv_iconst (v := (1 : Int32)) C.1.1 C.1.2.1 dL_law_1709 (by decide) ?_
  refine lv_iadd C.1.1 C.1.2.1 dL_law_1710 ?_
  refine ql_sld C S hX w.1 dL_law_1711 ?_
  replace w := w.2
  refine ql_aload_n (r := (some a0)) C dL_law_1712 rfl (lv_at hl 1 rfl) ?_
  refine lv_iload C.1.1 C.1.2.1 dL_law_1713 (lv_at hl 6 rfl) ?_
  refine lv_iconst (v := (2 : Int32)) C.1.1 C.1.2.1 dL_law_1715 (by decide) ?_
  refine lv_iadd C.1.1 C.1.2.1 dL_law_1716 ?_
  refine ql_sld C S hX w.1 dL_law_1717 ?_
  replace w := w.2
  refine ql_aload_n (r := (some a0)) C dL_law_1718 rfl (lv_at hl 1 rfl) ?_
  refine lv_iload C.1.1 C.1.2.1 dL_law_1719 (lv_at hl 6 rfl) ?_
  refine lv_iconst (v := (3 : Int32)) C.1.1 C.1.2.1 dL_law_1721 (by decide) ?_
  refine lv_iadd C.1.1 C.1.2.1 dL_law_1722 ?_
  refine ql_sld C S hX w.1 dL_law_1723 ?_
  replace w := w.2
  refine ql_VI (As := [.int (xs9 (xl5 + (1 : Int32)).toNatClampNeg), .int (xs9 (xl5 + (2 : Int32)).toNatClampNeg), .int (xs9 (xl5 + (3 : Int32)).toNatClampNeg)]) (rest := []) C S htab hlocks hl qy_X12_noteOn qi_X12_noteOn qs_X12_noteOn gw_1935 (ci := 13) rfl w (fun b w => qm_X12_noteOn l hl9 D _ b (xs9 (xl5 + (1 : Int32)).toNatClampNeg) (xs9 (xl5 + (2 : Int32)).toNatClampNeg) (xs9 (xl5 + (3 : Int32)).toNatClampNeg) _ _ w) rfl ⟨Nat.le_of_ble_eq_true rfl, Nat.le_of_ble_eq_true rfl⟩ ⟨rfl, rfl⟩ (by exact Nat.le_of_ble_eq_true rfl) (fun b e9 => by cases e9; rfl) dL_law_1724 ⟨(by show _ ≤ (603072 : Nat); omega), (by show _ ≤ (7190633 : Nat); omega)⟩ ⟨(by show _ ≤ (603072 : Nat); omega), (by show _ ≤ (7190633 : Nat); omega)⟩ (fun x144 h H locs S w => ?_)
  refine W.cs (cells' := (1035 + (513 - (n + 1)) * 21)) (slots' := (15218 + (513 - (n + 1)) * 5126)) (by omega) (by omega) ?_
  refine lv_istore (lv' := [(7, .int x144), (6, .int x143), (0, .ref a0), (1, va_rf rl1), (2, va_rf rl2), (3, va_rf rl3), (4, va_rf rl4), (5, .int xl5)]) C.1.1 C.1.2.1 dL_law_1727 hl (by decide) rfl (fun ls hl => ?_)
  refine ql_aload_n (r := rl2) C dL_law_1729 rfl (lv_at hl 4 rfl) ?_
  refine ql_VI (As := []) (rest := []) C S htab hlocks hl qy_X12_thrown qi_X12_thrown qs_X12_thrown gw_1727 (ci := 13) rfl w (fun b w => qm_X12_thrown l hl9 D _ b _ _ w) rfl ⟨Nat.le_of_ble_eq_true rfl, Nat.le_of_ble_eq_true rfl⟩ ⟨rfl, rfl⟩ (by exact Nat.le_of_ble_eq_true rfl) (fun b e9 => by cases e9; rfl) dL_law_1730 ⟨(by show _ ≤ (603072 : Nat); omega), (by show _ ≤ (7190633 : Nat); omega)⟩ ⟨(by show _ ≤ (603072 : Nat); omega), (by show _ ≤ (7190633 : Nat); omega)⟩ (fun x146 h H locs S w => ?_)
  refine W.cs (cells' := (1035 + (513 - (n + 1)) * 21)) (slots' := (15218 + (513 - (n + 1)) * 5126)) (by omega) (by omega) ?_
  refine lv_iload C.1.1 C.1.2.1 dL_law_1733 (lv_at hl 1 rfl) ?_
  refine lv_icmp_eq (tgt := 1740) C.1.1 C.1.2.1 dL_law_1735 (by decide) (fun c9 => ?_) (fun c9 => ?_)
  · replace w := ql_if w c9
    refine lv_iload C.1.1 C.1.2.1 dL_law_1740 (lv_at hl 1 rfl) ?_
    refine lv_if_ne (tgt := 1757) C.1.1 C.1.2.1 dL_law_1742 (by decide) (fun c9 => ?_) (fun c9 => ?_)
    · replace w := ql_ifn w c9
      exact (qm_L_law_1757 l hl9 D h0 L9 xs9 a0 Q X p e s m below meth c C hr hlocks htab hX) n hn9 k28 hk28 rl1 rl2 rl3 rl4 xl5 _ _ _ _ S (lv_sub hl [2, 3, 4, 5, 6, 7] rfl) w
    · replace w := ql_if w c9
      refine ql_aload_n (r := rl3) C dL_law_1745 rfl (lv_at hl 5 rfl) ?_
      refine lv_iconst (v := (0 : Int32)) C.1.1 C.1.2.1 dL_law_1746 (by decide) ?_
      refine ql_lald C S dL_law_1747 w (fun j148 w => ?_)
      refine lv_iload C.1.1 C.1.2.1 dL_law_1748 (lv_at hl 0 rfl) ?_
      refine lv_i2l C.1.1 C.1.2.1 dL_law_1750 rfl ?_
      refine W.lcmp C.1.1 C.1.2.1 dL_law_1751 ?_
      refine lv_if_eq (tgt := 1757) C.1.1 C.1.2.1 dL_law_1752 (by decide) (fun c9 => ?_) (fun c9 => ?_)
      · replace w := ql_if w c9
        exact (qm_L_law_1757 l hl9 D h0 L9 xs9 a0 Q X p e s m below meth c C hr hlocks htab hX) n hn9 k28 hk28 rl1 rl2 rl3 rl4 xl5 _ _ _ _ S (lv_sub hl [2, 3, 4, 5, 6, 7] rfl) w
      · replace w := ql_ifn w c9
        refine lv_iconst (v := (0 : Int32)) C.1.1 C.1.2.1 dL_law_1755 (by decide) ?_
        exact ql_zret C S hr hlocks dL_law_1756 ⟨(by show _ ≤ (603072 : Nat); omega), (by show _ ≤ (7190633 : Nat); omega)⟩ w
  · replace w := ql_ifn w c9
    refine lv_iconst (v := (0 : Int32)) C.1.1 C.1.2.1 dL_law_1738 (by decide) ?_
    exact ql_zret C S hr hlocks dL_law_1739 ⟨(by show _ ≤ (603072 : Nat); omega), (by show _ ≤ (7190633 : Nat); omega)⟩ w
set_option maxHeartbeats 4000000 in
set_option maxRecDepth 100000 in
theorem qm_L_law_1837 (l : Launch) (hl9 : l.stackTraces = false) (D : ql_D) (h0 : ql_H) (L9 : Nat) (xs9 : Nat → Int32) (a0 : Nat) (Q : Int32 → ql_H → Prop) (X : String → ql_H → Prop) (p : Program) (e : Env) (s : State) (m : MethodId) (below : List Frame) (meth : Method) (c : Code) (C : ql_C D h0 p m c cL_law 9 s [.ref a0].toArray "ClauseLedgerLaw") (hr : meth.sig.returnType = some .boolean) (hlocks : meth.locks = false) (htab : ∀ x ∈ c.exceptionTable.toList, False) (hX : va_X a0 L9 xs9 s s.heap ∧ a0 < s.heap.size ∧ ¬ ql_A h0 a0) : ∀ n : Nat, n + 1 ≤ 513 → ∀ (k28 : Option Nat → Option Nat → Option Nat → Option Nat → Int32 → ql_H → Prop) (hk28 : ∀ (rl1 : Option Nat) (rl2 : Option Nat) (rl3 : Option Nat) (rl4 : Option Nat) (xl5 : Int32) (h : ql_H) (H : Heap) (locs : List Loc) (ls : Array Slot), ql_S D h0 s H locs h → lv_has ls 9 [(0, .ref a0), (1, va_rf rl1), (2, va_rf rl2), (3, va_rf rl3), (4, va_rf rl4), (5, .int xl5)] → k28 rl1 rl2 rl3 rl4 xl5 h → W p l e ({ frames := 2048, cells := 603072, slots := 7190633, locals := 94400 } : Room) s m ([.ref a0] : List Value).toArray below meth c H locs (1032 + (513 - n) * 21) (15200 + (513 - n) * 5126) (vx_MQ below (ql_Q D h0 (ql_rI Q)) (ql_X D h0 X) ([.ref a0] : List Value).toArray s 603072 7190633 (ql_A h0)) (F0 m 28 ls [])) , ∀ (rl1 : Option Nat) (rl2 : Option Nat) (rl3 : Option Nat) (rl4 : Option Nat) (xl5 : Int32) (h : ql_H) (H : Heap) (locs : List Loc) (ls : Array Slot), ql_S D h0 s H locs h → lv_has ls 9 [(0, .ref a0), (1, va_rf rl1), (2, va_rf rl2), (3, va_rf rl3), (4, va_rf rl4), (5, .int xl5)] → qw_L_law_1837 D.2 L9 xs9 a0 Q X k28 rl1 rl2 rl3 rl4 xl5 h → W p l e ({ frames := 2048, cells := 603072, slots := 7190633, locals := 94400 } : Room) s m ([.ref a0] : List Value).toArray below meth c H locs (1035 + (513 - (n + 1)) * 21) (15218 + (513 - (n + 1)) * 5126) (vx_MQ below (ql_Q D h0 (ql_rI Q)) (ql_X D h0 X) ([.ref a0] : List Value).toArray s 603072 7190633 (ql_A h0)) (F0 m 1837 ls []) := by
  intro n hn9 k28 hk28 rl1 rl2 rl3 rl4 xl5 h H locs ls S hl w
  unfold qw_L_law_1837 at w
  refine lv_goto (tgt := 2957) C.1.1 C.1.2.1 dL_law_1837 (by decide) ?_
  refine W.widen (k := (1053 + (513 - (n + 1)) * 21)) (n := (20326 + (513 - (n + 1)) * 5126)) (by omega) (by omega) ?_
  exact (qm_L_law_2957 l hl9 D h0 L9 xs9 a0 Q X p e s m below meth c C hr hlocks htab hX) n hn9 k28 hk28 rl1 rl2 rl3 rl4 xl5 _ _ _ _ S (lv_sub hl [0, 1, 2, 3, 4, 5] rfl) w
set_option maxHeartbeats 4000000 in
set_option maxRecDepth 100000 in
theorem qm_L_law_1760 (l : Launch) (hl9 : l.stackTraces = false) (D : ql_D) (h0 : ql_H) (L9 : Nat) (xs9 : Nat → Int32) (a0 : Nat) (Q : Int32 → ql_H → Prop) (X : String → ql_H → Prop) (p : Program) (e : Env) (s : State) (m : MethodId) (below : List Frame) (meth : Method) (c : Code) (C : ql_C D h0 p m c cL_law 9 s [.ref a0].toArray "ClauseLedgerLaw") (hr : meth.sig.returnType = some .boolean) (hlocks : meth.locks = false) (htab : ∀ x ∈ c.exceptionTable.toList, False) (hX : va_X a0 L9 xs9 s s.heap ∧ a0 < s.heap.size ∧ ¬ ql_A h0 a0) : ∀ n : Nat, n + 1 ≤ 513 → ∀ (k28 : Option Nat → Option Nat → Option Nat → Option Nat → Int32 → ql_H → Prop) (hk28 : ∀ (rl1 : Option Nat) (rl2 : Option Nat) (rl3 : Option Nat) (rl4 : Option Nat) (xl5 : Int32) (h : ql_H) (H : Heap) (locs : List Loc) (ls : Array Slot), ql_S D h0 s H locs h → lv_has ls 9 [(0, .ref a0), (1, va_rf rl1), (2, va_rf rl2), (3, va_rf rl3), (4, va_rf rl4), (5, .int xl5)] → k28 rl1 rl2 rl3 rl4 xl5 h → W p l e ({ frames := 2048, cells := 603072, slots := 7190633, locals := 94400 } : Room) s m ([.ref a0] : List Value).toArray below meth c H locs (1032 + (513 - n) * 21) (15200 + (513 - n) * 5126) (vx_MQ below (ql_Q D h0 (ql_rI Q)) (ql_X D h0 X) ([.ref a0] : List Value).toArray s 603072 7190633 (ql_A h0)) (F0 m 28 ls [])) , ∀ (rl1 : Option Nat) (rl2 : Option Nat) (rl3 : Option Nat) (rl4 : Option Nat) (xl5 : Int32) (h : ql_H) (H : Heap) (locs : List Loc) (ls : Array Slot), ql_S D h0 s H locs h → lv_has ls 9 [(0, .ref a0), (1, va_rf rl1), (2, va_rf rl2), (3, va_rf rl3), (4, va_rf rl4), (5, .int xl5)] → qw_L_law_1760 D.2 L9 xs9 a0 Q X k28 rl1 rl2 rl3 rl4 xl5 h → W p l e ({ frames := 2048, cells := 603072, slots := 7190633, locals := 94400 } : Room) s m ([.ref a0] : List Value).toArray below meth c H locs (1032 + (513 - (n + 1)) * 21) (15200 + (513 - (n + 1)) * 5126) (vx_MQ below (ql_Q D h0 (ql_rI Q)) (ql_X D h0 X) ([.ref a0] : List Value).toArray s 603072 7190633 (ql_A h0)) (F0 m 1760 ls []) := by
  intro n hn9 k28 hk28 rl1 rl2 rl3 rl4 xl5 h H locs ls S hl w
  unfold qw_L_law_1760 at w
  refine ql_aload_n (r := rl1) C dL_law_1760 rfl (lv_at hl 1 rfl) ?_
  refine ql_aload_n (r := (some a0)) C dL_law_1761 rfl (lv_at hl 0 rfl) ?_
  refine lv_iload C.1.1 C.1.2.1 dL_law_1762 (lv_at hl 5 rfl) ?_
  refine lv_iconst (v := (1 : Int32)) C.1.1 C.1.2.1 dL_law_1764 (by decide) ?_
  refine lv_iadd C.1.1 C.1.2.1 dL_law_1765 ?_
  refine ql_sld C S hX w.1 dL_law_1766 ?_
  replace w := w.2
  refine ql_aload_n (r := (some a0)) C dL_law_1767 rfl (lv_at hl 0 rfl) ?_
  refine lv_iload C.1.1 C.1.2.1 dL_law_1768 (lv_at hl 5 rfl) ?_
  refine lv_iconst (v := (2 : Int32)) C.1.1 C.1.2.1 dL_law_1770 (by decide) ?_
  refine lv_iadd C.1.1 C.1.2.1 dL_law_1771 ?_
  refine ql_sld C S hX w.1 dL_law_1772 ?_
  replace w := w.2
  refine ql_aload_n (r := (some a0)) C dL_law_1773 rfl (lv_at hl 0 rfl) ?_
  refine lv_iload C.1.1 C.1.2.1 dL_law_1774 (lv_at hl 5 rfl) ?_
  refine lv_iconst (v := (3 : Int32)) C.1.1 C.1.2.1 dL_law_1776 (by decide) ?_
  refine lv_iadd C.1.1 C.1.2.1 dL_law_1777 ?_
  refine ql_sld C S hX w.1 dL_law_1778 ?_
  replace w := w.2
  refine ql_aload_n (r := rl3) C dL_law_1779 rfl (lv_at hl 3 rfl) ?_
  refine ql_SHI (As := [va_rf rl1, .int (xs9 (xl5 + (1 : Int32)).toNatClampNeg), .int (xs9 (xl5 + (2 : Int32)).toNatClampNeg), .int (xs9 (xl5 + (3 : Int32)).toNatClampNeg), va_rf rl3]) (rest := []) C S hl qyh_L_difference gw_1086 (qm_L_difference l hl9 D _ rl1 (xs9 (xl5 + (1 : Int32)).toNatClampNeg) (xs9 (xl5 + (2 : Int32)).toNatClampNeg) (xs9 (xl5 + (3 : Int32)).toNatClampNeg) rl3 _ _ w) rfl ⟨Nat.le_of_ble_eq_true rfl, Nat.le_of_ble_eq_true rfl⟩ ⟨rfl, rfl⟩ (by exact Nat.le_of_ble_eq_true rfl) rfl dL_law_1780 ⟨(by show _ ≤ (603072 : Nat); omega), (by show _ ≤ (7190633 : Nat); omega)⟩ (fun x149 h H locs S w => ?_)
  refine W.cs (cells' := (1035 + (513 - (n + 1)) * 21)) (slots' := (15218 + (513 - (n + 1)) * 5126)) (by omega) (by omega) ?_
  refine lv_istore (lv' := [(6, .int x149), (0, .ref a0), (1, va_rf rl1), (2, va_rf rl2), (3, va_rf rl3), (4, va_rf rl4), (5, .int xl5)]) C.1.1 C.1.2.1 dL_law_1783 hl (by decide) rfl (fun ls hl => ?_)
  refine ql_aload_n (r := rl2) C dL_law_1785 rfl (lv_at hl 3 rfl) ?_
  refine ql_aload_n (r := (some a0)) C dL_law_1786 rfl (lv_at hl 1 rfl) ?_
  refine lv_iload C.1.1 C.1.2.1 dL_law_1787 (lv_at hl 6 rfl) ?_
  refine lv_iconst (v := (1 : Int32)) C.1.1 C.1.2.1 dL_law_1789 (by decide) ?_
  refine lv_iadd C.1.1 C.1.2.1 dL_law_1790 ?_
  refine ql_sld C S hX w.1 dL_law_1791 ?_
  replace w := w.2
  refine ql_aload_n (r := (some a0)) C dL_law_1792 rfl (lv_at hl 1 rfl) ?_
  refine lv_iload C.1.1 C.1.2.1 dL_law_1793 (lv_at hl 6 rfl) ?_
  refine lv_iconst (v := (2 : Int32)) C.1.1 C.1.2.1 dL_law_1795 (by decide) ?_
  refine lv_iadd C.1.1 C.1.2.1 dL_law_1796 ?_
  refine ql_sld C S hX w.1 dL_law_1797 ?_
  replace w := w.2
  refine ql_aload_n (r := (some a0)) C dL_law_1798 rfl (lv_at hl 1 rfl) ?_
  refine lv_iload C.1.1 C.1.2.1 dL_law_1799 (lv_at hl 6 rfl) ?_
  refine lv_iconst (v := (3 : Int32)) C.1.1 C.1.2.1 dL_law_1801 (by decide) ?_
  refine lv_iadd C.1.1 C.1.2.1 dL_law_1802 ?_
  refine ql_sld C S hX w.1 dL_law_1803 ?_
  replace w := w.2
  refine ql_VI (As := [.int (xs9 (xl5 + (1 : Int32)).toNatClampNeg), .int (xs9 (xl5 + (2 : Int32)).toNatClampNeg), .int (xs9 (xl5 + (3 : Int32)).toNatClampNeg)]) (rest := []) C S htab hlocks hl qy_X12_difference qi_X12_difference qs_X12_difference gw_1939 (ci := 13) rfl w (fun b w => qm_X12_difference l hl9 D _ b (xs9 (xl5 + (1 : Int32)).toNatClampNeg) (xs9 (xl5 + (2 : Int32)).toNatClampNeg) (xs9 (xl5 + (3 : Int32)).toNatClampNeg) _ _ w) rfl ⟨Nat.le_of_ble_eq_true rfl, Nat.le_of_ble_eq_true rfl⟩ ⟨rfl, rfl⟩ (by exact Nat.le_of_ble_eq_true rfl) (fun b e9 => by cases e9; rfl) dL_law_1804 ⟨(by show _ ≤ (603072 : Nat); omega), (by show _ ≤ (7190633 : Nat); omega)⟩ ⟨(by show _ ≤ (603072 : Nat); omega), (by show _ ≤ (7190633 : Nat); omega)⟩ (fun x150 h H locs S w => ?_)
  refine W.cs (cells' := (1035 + (513 - (n + 1)) * 21)) (slots' := (15218 + (513 - (n + 1)) * 5126)) (by omega) (by omega) ?_
  refine lv_istore (lv' := [(7, .int x150), (6, .int x149), (0, .ref a0), (1, va_rf rl1), (2, va_rf rl2), (3, va_rf rl3), (4, va_rf rl4), (5, .int xl5)]) C.1.1 C.1.2.1 dL_law_1807 hl (by decide) rfl (fun ls hl => ?_)
  refine ql_aload_n (r := rl2) C dL_law_1809 rfl (lv_at hl 4 rfl) ?_
  refine ql_VI (As := []) (rest := []) C S htab hlocks hl qy_X12_thrown qi_X12_thrown qs_X12_thrown gw_1727 (ci := 13) rfl w (fun b w => qm_X12_thrown l hl9 D _ b _ _ w) rfl ⟨Nat.le_of_ble_eq_true rfl, Nat.le_of_ble_eq_true rfl⟩ ⟨rfl, rfl⟩ (by exact Nat.le_of_ble_eq_true rfl) (fun b e9 => by cases e9; rfl) dL_law_1810 ⟨(by show _ ≤ (603072 : Nat); omega), (by show _ ≤ (7190633 : Nat); omega)⟩ ⟨(by show _ ≤ (603072 : Nat); omega), (by show _ ≤ (7190633 : Nat); omega)⟩ (fun x152 h H locs S w => ?_)
  refine W.cs (cells' := (1035 + (513 - (n + 1)) * 21)) (slots' := (15218 + (513 - (n + 1)) * 5126)) (by omega) (by omega) ?_
  refine lv_iload C.1.1 C.1.2.1 dL_law_1813 (lv_at hl 1 rfl) ?_
  refine lv_icmp_eq (tgt := 1820) C.1.1 C.1.2.1 dL_law_1815 (by decide) (fun c9 => ?_) (fun c9 => ?_)
  · replace w := ql_if w c9
    refine lv_iload C.1.1 C.1.2.1 dL_law_1820 (lv_at hl 1 rfl) ?_
    refine lv_if_ne (tgt := 1837) C.1.1 C.1.2.1 dL_law_1822 (by decide) (fun c9 => ?_) (fun c9 => ?_)
    · replace w := ql_ifn w c9
      exact (qm_L_law_1837 l hl9 D h0 L9 xs9 a0 Q X p e s m below meth c C hr hlocks htab hX) n hn9 k28 hk28 rl1 rl2 rl3 rl4 xl5 _ _ _ _ S (lv_sub hl [2, 3, 4, 5, 6, 7] rfl) w
    · replace w := ql_if w c9
      refine ql_aload_n (r := rl3) C dL_law_1825 rfl (lv_at hl 5 rfl) ?_
      refine lv_iconst (v := (0 : Int32)) C.1.1 C.1.2.1 dL_law_1826 (by decide) ?_
      refine ql_lald C S dL_law_1827 w (fun j154 w => ?_)
      refine lv_iload C.1.1 C.1.2.1 dL_law_1828 (lv_at hl 0 rfl) ?_
      refine lv_i2l C.1.1 C.1.2.1 dL_law_1830 rfl ?_
      refine W.lcmp C.1.1 C.1.2.1 dL_law_1831 ?_
      refine lv_if_eq (tgt := 1837) C.1.1 C.1.2.1 dL_law_1832 (by decide) (fun c9 => ?_) (fun c9 => ?_)
      · replace w := ql_if w c9
        exact (qm_L_law_1837 l hl9 D h0 L9 xs9 a0 Q X p e s m below meth c C hr hlocks htab hX) n hn9 k28 hk28 rl1 rl2 rl3 rl4 xl5 _ _ _ _ S (lv_sub hl [2, 3, 4, 5, 6, 7] rfl) w
      · replace w := ql_ifn w c9
        refine lv_iconst (v := (0 : Int32)) C.1.1 C.1.2.1 dL_law_1835 (by decide) ?_
        exact ql_zret C S hr hlocks dL_law_1836 ⟨(by show _ ≤ (603072 : Nat); omega), (by show _ ≤ (7190633 : Nat); omega)⟩ w
  · replace w := ql_ifn w c9
    refine lv_iconst (v := (0 : Int32)) C.1.1 C.1.2.1 dL_law_1818 (by decide) ?_
    exact ql_zret C S hr hlocks dL_law_1819 ⟨(by show _ ≤ (603072 : Nat); omega), (by show _ ≤ (7190633 : Nat); omega)⟩ w
set_option maxHeartbeats 4000000 in
set_option maxRecDepth 100000 in
theorem qm_L_law_1917 (l : Launch) (hl9 : l.stackTraces = false) (D : ql_D) (h0 : ql_H) (L9 : Nat) (xs9 : Nat → Int32) (a0 : Nat) (Q : Int32 → ql_H → Prop) (X : String → ql_H → Prop) (p : Program) (e : Env) (s : State) (m : MethodId) (below : List Frame) (meth : Method) (c : Code) (C : ql_C D h0 p m c cL_law 9 s [.ref a0].toArray "ClauseLedgerLaw") (hr : meth.sig.returnType = some .boolean) (hlocks : meth.locks = false) (htab : ∀ x ∈ c.exceptionTable.toList, False) (hX : va_X a0 L9 xs9 s s.heap ∧ a0 < s.heap.size ∧ ¬ ql_A h0 a0) : ∀ n : Nat, n + 1 ≤ 513 → ∀ (k28 : Option Nat → Option Nat → Option Nat → Option Nat → Int32 → ql_H → Prop) (hk28 : ∀ (rl1 : Option Nat) (rl2 : Option Nat) (rl3 : Option Nat) (rl4 : Option Nat) (xl5 : Int32) (h : ql_H) (H : Heap) (locs : List Loc) (ls : Array Slot), ql_S D h0 s H locs h → lv_has ls 9 [(0, .ref a0), (1, va_rf rl1), (2, va_rf rl2), (3, va_rf rl3), (4, va_rf rl4), (5, .int xl5)] → k28 rl1 rl2 rl3 rl4 xl5 h → W p l e ({ frames := 2048, cells := 603072, slots := 7190633, locals := 94400 } : Room) s m ([.ref a0] : List Value).toArray below meth c H locs (1032 + (513 - n) * 21) (15200 + (513 - n) * 5126) (vx_MQ below (ql_Q D h0 (ql_rI Q)) (ql_X D h0 X) ([.ref a0] : List Value).toArray s 603072 7190633 (ql_A h0)) (F0 m 28 ls [])) , ∀ (rl1 : Option Nat) (rl2 : Option Nat) (rl3 : Option Nat) (rl4 : Option Nat) (xl5 : Int32) (h : ql_H) (H : Heap) (locs : List Loc) (ls : Array Slot), ql_S D h0 s H locs h → lv_has ls 9 [(0, .ref a0), (1, va_rf rl1), (2, va_rf rl2), (3, va_rf rl3), (4, va_rf rl4), (5, .int xl5)] → qw_L_law_1917 D.2 L9 xs9 a0 Q X k28 rl1 rl2 rl3 rl4 xl5 h → W p l e ({ frames := 2048, cells := 603072, slots := 7190633, locals := 94400 } : Room) s m ([.ref a0] : List Value).toArray below meth c H locs (1035 + (513 - (n + 1)) * 21) (15218 + (513 - (n + 1)) * 5126) (vx_MQ below (ql_Q D h0 (ql_rI Q)) (ql_X D h0 X) ([.ref a0] : List Value).toArray s 603072 7190633 (ql_A h0)) (F0 m 1917 ls []) := by
  intro n hn9 k28 hk28 rl1 rl2 rl3 rl4 xl5 h H locs ls S hl w
  unfold qw_L_law_1917 at w
  refine lv_goto (tgt := 2957) C.1.1 C.1.2.1 dL_law_1917 (by decide) ?_
  refine W.widen (k := (1053 + (513 - (n + 1)) * 21)) (n := (20326 + (513 - (n + 1)) * 5126)) (by omega) (by omega) ?_
  exact (qm_L_law_2957 l hl9 D h0 L9 xs9 a0 Q X p e s m below meth c C hr hlocks htab hX) n hn9 k28 hk28 rl1 rl2 rl3 rl4 xl5 _ _ _ _ S (lv_sub hl [0, 1, 2, 3, 4, 5] rfl) w
set_option maxHeartbeats 4000000 in
set_option maxRecDepth 100000 in
theorem qm_L_law_1840 (l : Launch) (hl9 : l.stackTraces = false) (D : ql_D) (h0 : ql_H) (L9 : Nat) (xs9 : Nat → Int32) (a0 : Nat) (Q : Int32 → ql_H → Prop) (X : String → ql_H → Prop) (p : Program) (e : Env) (s : State) (m : MethodId) (below : List Frame) (meth : Method) (c : Code) (C : ql_C D h0 p m c cL_law 9 s [.ref a0].toArray "ClauseLedgerLaw") (hr : meth.sig.returnType = some .boolean) (hlocks : meth.locks = false) (htab : ∀ x ∈ c.exceptionTable.toList, False) (hX : va_X a0 L9 xs9 s s.heap ∧ a0 < s.heap.size ∧ ¬ ql_A h0 a0) : ∀ n : Nat, n + 1 ≤ 513 → ∀ (k28 : Option Nat → Option Nat → Option Nat → Option Nat → Int32 → ql_H → Prop) (hk28 : ∀ (rl1 : Option Nat) (rl2 : Option Nat) (rl3 : Option Nat) (rl4 : Option Nat) (xl5 : Int32) (h : ql_H) (H : Heap) (locs : List Loc) (ls : Array Slot), ql_S D h0 s H locs h → lv_has ls 9 [(0, .ref a0), (1, va_rf rl1), (2, va_rf rl2), (3, va_rf rl3), (4, va_rf rl4), (5, .int xl5)] → k28 rl1 rl2 rl3 rl4 xl5 h → W p l e ({ frames := 2048, cells := 603072, slots := 7190633, locals := 94400 } : Room) s m ([.ref a0] : List Value).toArray below meth c H locs (1032 + (513 - n) * 21) (15200 + (513 - n) * 5126) (vx_MQ below (ql_Q D h0 (ql_rI Q)) (ql_X D h0 X) ([.ref a0] : List Value).toArray s 603072 7190633 (ql_A h0)) (F0 m 28 ls [])) , ∀ (rl1 : Option Nat) (rl2 : Option Nat) (rl3 : Option Nat) (rl4 : Option Nat) (xl5 : Int32) (h : ql_H) (H : Heap) (locs : List Loc) (ls : Array Slot), ql_S D h0 s H locs h → lv_has ls 9 [(0, .ref a0), (1, va_rf rl1), (2, va_rf rl2), (3, va_rf rl3), (4, va_rf rl4), (5, .int xl5)] → qw_L_law_1840 D.2 L9 xs9 a0 Q X k28 rl1 rl2 rl3 rl4 xl5 h → W p l e ({ frames := 2048, cells := 603072, slots := 7190633, locals := 94400 } : Room) s m ([.ref a0] : List Value).toArray below meth c H locs (1032 + (513 - (n + 1)) * 21) (15200 + (513 - (n + 1)) * 5126) (vx_MQ below (ql_Q D h0 (ql_rI Q)) (ql_X D h0 X) ([.ref a0] : List Value).toArray s 603072 7190633 (ql_A h0)) (F0 m 1840 ls []) := by
  intro n hn9 k28 hk28 rl1 rl2 rl3 rl4 xl5 h H locs ls S hl w
  unfold qw_L_law_1840 at w
  refine ql_aload_n (r := rl1) C dL_law_1840 rfl (lv_at hl 1 rfl) ?_
  refine ql_aload_n (r := (some a0)) C dL_law_1841 rfl (lv_at hl 0 rfl) ?_
  refine lv_iload C.1.1 C.1.2.1 dL_law_1842 (lv_at hl 5 rfl) ?_
  refine lv_iconst (v := (1 : Int32)) C.1.1 C.1.2.1 dL_law_1844 (by decide) ?_
  refine lv_iadd C.1.1 C.1.2.1 dL_law_1845 ?_
  refine ql_sld C S hX w.1 dL_law_1846 ?_
  replace w := w.2
  refine ql_aload_n (r := (some a0)) C dL_law_1847 rfl (lv_at hl 0 rfl) ?_
  refine lv_iload C.1.1 C.1.2.1 dL_law_1848 (lv_at hl 5 rfl) ?_
  refine lv_iconst (v := (2 : Int32)) C.1.1 C.1.2.1 dL_law_1850 (by decide) ?_
  refine lv_iadd C.1.1 C.1.2.1 dL_law_1851 ?_
  refine ql_sld C S hX w.1 dL_law_1852 ?_
  replace w := w.2
  refine ql_aload_n (r := (some a0)) C dL_law_1853 rfl (lv_at hl 0 rfl) ?_
  refine lv_iload C.1.1 C.1.2.1 dL_law_1854 (lv_at hl 5 rfl) ?_
  refine lv_iconst (v := (3 : Int32)) C.1.1 C.1.2.1 dL_law_1856 (by decide) ?_
  refine lv_iadd C.1.1 C.1.2.1 dL_law_1857 ?_
  refine ql_sld C S hX w.1 dL_law_1858 ?_
  replace w := w.2
  refine ql_aload_n (r := rl3) C dL_law_1859 rfl (lv_at hl 3 rfl) ?_
  refine ql_SHI (As := [va_rf rl1, .int (xs9 (xl5 + (1 : Int32)).toNatClampNeg), .int (xs9 (xl5 + (2 : Int32)).toNatClampNeg), .int (xs9 (xl5 + (3 : Int32)).toNatClampNeg), va_rf rl3]) (rest := []) C S hl qyh_L_differenceByEnds gw_1093 (qm_L_differenceByEnds l hl9 D _ rl1 (xs9 (xl5 + (1 : Int32)).toNatClampNeg) (xs9 (xl5 + (2 : Int32)).toNatClampNeg) (xs9 (xl5 + (3 : Int32)).toNatClampNeg) rl3 _ _ w) rfl ⟨Nat.le_of_ble_eq_true rfl, Nat.le_of_ble_eq_true rfl⟩ ⟨rfl, rfl⟩ (by exact Nat.le_of_ble_eq_true rfl) rfl dL_law_1860 ⟨(by show _ ≤ (603072 : Nat); omega), (by show _ ≤ (7190633 : Nat); omega)⟩ (fun x155 h H locs S w => ?_)
  refine W.cs (cells' := (1035 + (513 - (n + 1)) * 21)) (slots' := (15218 + (513 - (n + 1)) * 5126)) (by omega) (by omega) ?_
  refine lv_istore (lv' := [(6, .int x155), (0, .ref a0), (1, va_rf rl1), (2, va_rf rl2), (3, va_rf rl3), (4, va_rf rl4), (5, .int xl5)]) C.1.1 C.1.2.1 dL_law_1863 hl (by decide) rfl (fun ls hl => ?_)
  refine ql_aload_n (r := rl2) C dL_law_1865 rfl (lv_at hl 3 rfl) ?_
  refine ql_aload_n (r := (some a0)) C dL_law_1866 rfl (lv_at hl 1 rfl) ?_
  refine lv_iload C.1.1 C.1.2.1 dL_law_1867 (lv_at hl 6 rfl) ?_
  refine lv_iconst (v := (1 : Int32)) C.1.1 C.1.2.1 dL_law_1869 (by decide) ?_
  refine lv_iadd C.1.1 C.1.2.1 dL_law_1870 ?_
  refine ql_sld C S hX w.1 dL_law_1871 ?_
  replace w := w.2
  refine ql_aload_n (r := (some a0)) C dL_law_1872 rfl (lv_at hl 1 rfl) ?_
  refine lv_iload C.1.1 C.1.2.1 dL_law_1873 (lv_at hl 6 rfl) ?_
  refine lv_iconst (v := (2 : Int32)) C.1.1 C.1.2.1 dL_law_1875 (by decide) ?_
  refine lv_iadd C.1.1 C.1.2.1 dL_law_1876 ?_
  refine ql_sld C S hX w.1 dL_law_1877 ?_
  replace w := w.2
  refine ql_aload_n (r := (some a0)) C dL_law_1878 rfl (lv_at hl 1 rfl) ?_
  refine lv_iload C.1.1 C.1.2.1 dL_law_1879 (lv_at hl 6 rfl) ?_
  refine lv_iconst (v := (3 : Int32)) C.1.1 C.1.2.1 dL_law_1881 (by decide) ?_
  refine lv_iadd C.1.1 C.1.2.1 dL_law_1882 ?_
  refine ql_sld C S hX w.1 dL_law_1883 ?_
  replace w := w.2
  refine ql_VI (As := [.int (xs9 (xl5 + (1 : Int32)).toNatClampNeg), .int (xs9 (xl5 + (2 : Int32)).toNatClampNeg), .int (xs9 (xl5 + (3 : Int32)).toNatClampNeg)]) (rest := []) C S htab hlocks hl qy_X12_differenceByEnds qi_X12_differenceByEnds qs_X12_differenceByEnds gw_1947 (ci := 13) rfl w (fun b w => qm_X12_differenceByEnds l hl9 D _ b (xs9 (xl5 + (1 : Int32)).toNatClampNeg) (xs9 (xl5 + (2 : Int32)).toNatClampNeg) (xs9 (xl5 + (3 : Int32)).toNatClampNeg) _ _ w) rfl ⟨Nat.le_of_ble_eq_true rfl, Nat.le_of_ble_eq_true rfl⟩ ⟨rfl, rfl⟩ (by exact Nat.le_of_ble_eq_true rfl) (fun b e9 => by cases e9; rfl) dL_law_1884 ⟨(by show _ ≤ (603072 : Nat); omega), (by show _ ≤ (7190633 : Nat); omega)⟩ ⟨(by show _ ≤ (603072 : Nat); omega), (by show _ ≤ (7190633 : Nat); omega)⟩ (fun x156 h H locs S w => ?_)
  refine W.cs (cells' := (1035 + (513 - (n + 1)) * 21)) (slots' := (15218 + (513 - (n + 1)) * 5126)) (by omega) (by omega) ?_
  refine lv_istore (lv' := [(7, .int x156), (6, .int x155), (0, .ref a0), (1, va_rf rl1), (2, va_rf rl2), (3, va_rf rl3), (4, va_rf rl4), (5, .int xl5)]) C.1.1 C.1.2.1 dL_law_1887 hl (by decide) rfl (fun ls hl => ?_)
  refine ql_aload_n (r := rl2) C dL_law_1889 rfl (lv_at hl 4 rfl) ?_
  refine ql_VI (As := []) (rest := []) C S htab hlocks hl qy_X12_thrown qi_X12_thrown qs_X12_thrown gw_1727 (ci := 13) rfl w (fun b w => qm_X12_thrown l hl9 D _ b _ _ w) rfl ⟨Nat.le_of_ble_eq_true rfl, Nat.le_of_ble_eq_true rfl⟩ ⟨rfl, rfl⟩ (by exact Nat.le_of_ble_eq_true rfl) (fun b e9 => by cases e9; rfl) dL_law_1890 ⟨(by show _ ≤ (603072 : Nat); omega), (by show _ ≤ (7190633 : Nat); omega)⟩ ⟨(by show _ ≤ (603072 : Nat); omega), (by show _ ≤ (7190633 : Nat); omega)⟩ (fun x158 h H locs S w => ?_)
  refine W.cs (cells' := (1035 + (513 - (n + 1)) * 21)) (slots' := (15218 + (513 - (n + 1)) * 5126)) (by omega) (by omega) ?_
  refine lv_iload C.1.1 C.1.2.1 dL_law_1893 (lv_at hl 1 rfl) ?_
  refine lv_icmp_eq (tgt := 1900) C.1.1 C.1.2.1 dL_law_1895 (by decide) (fun c9 => ?_) (fun c9 => ?_)
  · replace w := ql_if w c9
    refine lv_iload C.1.1 C.1.2.1 dL_law_1900 (lv_at hl 1 rfl) ?_
    refine lv_if_ne (tgt := 1917) C.1.1 C.1.2.1 dL_law_1902 (by decide) (fun c9 => ?_) (fun c9 => ?_)
    · replace w := ql_ifn w c9
      exact (qm_L_law_1917 l hl9 D h0 L9 xs9 a0 Q X p e s m below meth c C hr hlocks htab hX) n hn9 k28 hk28 rl1 rl2 rl3 rl4 xl5 _ _ _ _ S (lv_sub hl [2, 3, 4, 5, 6, 7] rfl) w
    · replace w := ql_if w c9
      refine ql_aload_n (r := rl3) C dL_law_1905 rfl (lv_at hl 5 rfl) ?_
      refine lv_iconst (v := (0 : Int32)) C.1.1 C.1.2.1 dL_law_1906 (by decide) ?_
      refine ql_lald C S dL_law_1907 w (fun j160 w => ?_)
      refine lv_iload C.1.1 C.1.2.1 dL_law_1908 (lv_at hl 0 rfl) ?_
      refine lv_i2l C.1.1 C.1.2.1 dL_law_1910 rfl ?_
      refine W.lcmp C.1.1 C.1.2.1 dL_law_1911 ?_
      refine lv_if_eq (tgt := 1917) C.1.1 C.1.2.1 dL_law_1912 (by decide) (fun c9 => ?_) (fun c9 => ?_)
      · replace w := ql_if w c9
        exact (qm_L_law_1917 l hl9 D h0 L9 xs9 a0 Q X p e s m below meth c C hr hlocks htab hX) n hn9 k28 hk28 rl1 rl2 rl3 rl4 xl5 _ _ _ _ S (lv_sub hl [2, 3, 4, 5, 6, 7] rfl) w
      · replace w := ql_ifn w c9
        refine lv_iconst (v := (0 : Int32)) C.1.1 C.1.2.1 dL_law_1915 (by decide) ?_
        exact ql_zret C S hr hlocks dL_law_1916 ⟨(by show _ ≤ (603072 : Nat); omega), (by show _ ≤ (7190633 : Nat); omega)⟩ w
  · replace w := ql_ifn w c9
    refine lv_iconst (v := (0 : Int32)) C.1.1 C.1.2.1 dL_law_1898 (by decide) ?_
    exact ql_zret C S hr hlocks dL_law_1899 ⟨(by show _ ≤ (603072 : Nat); omega), (by show _ ≤ (7190633 : Nat); omega)⟩ w
set_option maxHeartbeats 4000000 in
set_option maxRecDepth 100000 in
theorem qm_L_law_1920 (l : Launch) (hl9 : l.stackTraces = false) (D : ql_D) (h0 : ql_H) (L9 : Nat) (xs9 : Nat → Int32) (a0 : Nat) (Q : Int32 → ql_H → Prop) (X : String → ql_H → Prop) (p : Program) (e : Env) (s : State) (m : MethodId) (below : List Frame) (meth : Method) (c : Code) (C : ql_C D h0 p m c cL_law 9 s [.ref a0].toArray "ClauseLedgerLaw") (hr : meth.sig.returnType = some .boolean) (hlocks : meth.locks = false) (htab : ∀ x ∈ c.exceptionTable.toList, False) (hX : va_X a0 L9 xs9 s s.heap ∧ a0 < s.heap.size ∧ ¬ ql_A h0 a0) : ∀ n : Nat, n + 1 ≤ 513 → ∀ (k28 : Option Nat → Option Nat → Option Nat → Option Nat → Int32 → ql_H → Prop) (hk28 : ∀ (rl1 : Option Nat) (rl2 : Option Nat) (rl3 : Option Nat) (rl4 : Option Nat) (xl5 : Int32) (h : ql_H) (H : Heap) (locs : List Loc) (ls : Array Slot), ql_S D h0 s H locs h → lv_has ls 9 [(0, .ref a0), (1, va_rf rl1), (2, va_rf rl2), (3, va_rf rl3), (4, va_rf rl4), (5, .int xl5)] → k28 rl1 rl2 rl3 rl4 xl5 h → W p l e ({ frames := 2048, cells := 603072, slots := 7190633, locals := 94400 } : Room) s m ([.ref a0] : List Value).toArray below meth c H locs (1032 + (513 - n) * 21) (15200 + (513 - n) * 5126) (vx_MQ below (ql_Q D h0 (ql_rI Q)) (ql_X D h0 X) ([.ref a0] : List Value).toArray s 603072 7190633 (ql_A h0)) (F0 m 28 ls [])) , ∀ (rl1 : Option Nat) (rl2 : Option Nat) (rl3 : Option Nat) (rl4 : Option Nat) (xl5 : Int32) (h : ql_H) (H : Heap) (locs : List Loc) (ls : Array Slot), ql_S D h0 s H locs h → lv_has ls 9 [(0, .ref a0), (1, va_rf rl1), (2, va_rf rl2), (3, va_rf rl3), (4, va_rf rl4), (5, .int xl5)] → qw_L_law_1920 D.2 L9 xs9 a0 Q X k28 rl1 rl2 rl3 rl4 xl5 h → W p l e ({ frames := 2048, cells := 603072, slots := 7190633, locals := 94400 } : Room) s m ([.ref a0] : List Value).toArray below meth c H locs (1032 + (513 - (n + 1)) * 21) (15200 + (513 - (n + 1)) * 5126) (vx_MQ below (ql_Q D h0 (ql_rI Q)) (ql_X D h0 X) ([.ref a0] : List Value).toArray s 603072 7190633 (ql_A h0)) (F0 m 1920 ls []) := by
  intro n hn9 k28 hk28 rl1 rl2 rl3 rl4 xl5 h H locs ls S hl w
  unfold qw_L_law_1920 at w
  refine ql_aload_n (r := rl1) C dL_law_1920 rfl (lv_at hl 1 rfl) ?_
  refine ql_VI (As := []) (rest := []) C S htab hlocks hl qy_X11_duplicatePairs qi_X11_duplicatePairs qs_X11_duplicatePairs gw_649 (ci := 12) rfl w (fun b w => qm_X11_duplicatePairs l hl9 D _ b _ _ w) rfl ⟨Nat.le_of_ble_eq_true rfl, Nat.le_of_ble_eq_true rfl⟩ ⟨rfl, rfl⟩ (by exact Nat.le_of_ble_eq_true rfl) (fun b e9 => by cases e9; rfl) dL_law_1921 ⟨(by show _ ≤ (603072 : Nat); omega), (by show _ ≤ (7190633 : Nat); omega)⟩ ⟨(by show _ ≤ (603072 : Nat); omega), (by show _ ≤ (7190633 : Nat); omega)⟩ (fun x161 h H locs S w => ?_)
  refine W.cs (cells' := (1032 + (513 - (n + 1)) * 21)) (slots' := (15200 + (513 - (n + 1)) * 5126)) (by omega) (by omega) ?_
  refine ql_aload_n (r := rl2) C dL_law_1924 rfl (lv_at hl 2 rfl) ?_
  refine ql_VI (As := []) (rest := [.int x161]) C S htab hlocks hl qy_X12_duplicatePairs qi_X12_duplicatePairs qs_X12_duplicatePairs gw_1951 (ci := 13) rfl w (fun b w => qm_X12_duplicatePairs l hl9 D _ b _ _ w) rfl ⟨Nat.le_of_ble_eq_true rfl, Nat.le_of_ble_eq_true rfl⟩ ⟨rfl, rfl⟩ (by exact Nat.le_of_ble_eq_true rfl) (fun b e9 => by cases e9; rfl) dL_law_1925 ⟨(by show _ ≤ (603072 : Nat); omega), (by show _ ≤ (7190633 : Nat); omega)⟩ ⟨(by show _ ≤ (603072 : Nat); omega), (by show _ ≤ (7190633 : Nat); omega)⟩ (fun x163 h H locs S w => ?_)
  refine W.cs (cells' := (1032 + (513 - (n + 1)) * 21)) (slots' := (15200 + (513 - (n + 1)) * 5126)) (by omega) (by omega) ?_
  refine lv_icmp_eq (tgt := 2957) C.1.1 C.1.2.1 dL_law_1928 (by decide) (fun c9 => ?_) (fun c9 => ?_)
  · replace w := ql_if w c9
    refine W.widen (k := (1053 + (513 - (n + 1)) * 21)) (n := (20326 + (513 - (n + 1)) * 5126)) (by omega) (by omega) ?_
    exact (qm_L_law_2957 l hl9 D h0 L9 xs9 a0 Q X p e s m below meth c C hr hlocks htab hX) n hn9 k28 hk28 rl1 rl2 rl3 rl4 xl5 _ _ _ _ S (lv_sub hl [0, 1, 2, 3, 4, 5] rfl) w
  · replace w := ql_ifn w c9
    refine lv_iconst (v := (0 : Int32)) C.1.1 C.1.2.1 dL_law_1931 (by decide) ?_
    exact ql_zret C S hr hlocks dL_law_1932 ⟨(by show _ ≤ (603072 : Nat); omega), (by show _ ≤ (7190633 : Nat); omega)⟩ w
set_option maxHeartbeats 4000000 in
set_option maxRecDepth 100000 in
theorem qm_L_law_1933 (l : Launch) (hl9 : l.stackTraces = false) (D : ql_D) (h0 : ql_H) (L9 : Nat) (xs9 : Nat → Int32) (a0 : Nat) (Q : Int32 → ql_H → Prop) (X : String → ql_H → Prop) (p : Program) (e : Env) (s : State) (m : MethodId) (below : List Frame) (meth : Method) (c : Code) (C : ql_C D h0 p m c cL_law 9 s [.ref a0].toArray "ClauseLedgerLaw") (hr : meth.sig.returnType = some .boolean) (hlocks : meth.locks = false) (htab : ∀ x ∈ c.exceptionTable.toList, False) (hX : va_X a0 L9 xs9 s s.heap ∧ a0 < s.heap.size ∧ ¬ ql_A h0 a0) : ∀ n : Nat, n + 1 ≤ 513 → ∀ (k28 : Option Nat → Option Nat → Option Nat → Option Nat → Int32 → ql_H → Prop) (hk28 : ∀ (rl1 : Option Nat) (rl2 : Option Nat) (rl3 : Option Nat) (rl4 : Option Nat) (xl5 : Int32) (h : ql_H) (H : Heap) (locs : List Loc) (ls : Array Slot), ql_S D h0 s H locs h → lv_has ls 9 [(0, .ref a0), (1, va_rf rl1), (2, va_rf rl2), (3, va_rf rl3), (4, va_rf rl4), (5, .int xl5)] → k28 rl1 rl2 rl3 rl4 xl5 h → W p l e ({ frames := 2048, cells := 603072, slots := 7190633, locals := 94400 } : Room) s m ([.ref a0] : List Value).toArray below meth c H locs (1032 + (513 - n) * 21) (15200 + (513 - n) * 5126) (vx_MQ below (ql_Q D h0 (ql_rI Q)) (ql_X D h0 X) ([.ref a0] : List Value).toArray s 603072 7190633 (ql_A h0)) (F0 m 28 ls [])) , ∀ (rl1 : Option Nat) (rl2 : Option Nat) (rl3 : Option Nat) (rl4 : Option Nat) (xl5 : Int32) (h : ql_H) (H : Heap) (locs : List Loc) (ls : Array Slot), ql_S D h0 s H locs h → lv_has ls 9 [(0, .ref a0), (1, va_rf rl1), (2, va_rf rl2), (3, va_rf rl3), (4, va_rf rl4), (5, .int xl5)] → qw_L_law_1933 D.2 L9 xs9 a0 Q X k28 rl1 rl2 rl3 rl4 xl5 h → W p l e ({ frames := 2048, cells := 603072, slots := 7190633, locals := 94400 } : Room) s m ([.ref a0] : List Value).toArray below meth c H locs (1032 + (513 - (n + 1)) * 21) (15200 + (513 - (n + 1)) * 5126) (vx_MQ below (ql_Q D h0 (ql_rI Q)) (ql_X D h0 X) ([.ref a0] : List Value).toArray s 603072 7190633 (ql_A h0)) (F0 m 1933 ls []) := by
  intro n hn9 k28 hk28 rl1 rl2 rl3 rl4 xl5 h H locs ls S hl w
  unfold qw_L_law_1933 at w
  refine ql_aload_n (r := rl1) C dL_law_1933 rfl (lv_at hl 1 rfl) ?_
  refine ql_VI (As := []) (rest := []) C S htab hlocks hl qy_X11_duplicatePairsByComparing qi_X11_duplicatePairsByComparing qs_X11_duplicatePairsByComparing gw_666 (ci := 12) rfl w (fun b w => qm_X11_duplicatePairsByComparing l hl9 D _ b _ _ w) rfl ⟨Nat.le_of_ble_eq_true rfl, Nat.le_of_ble_eq_true rfl⟩ ⟨rfl, rfl⟩ (by exact Nat.le_of_ble_eq_true rfl) (fun b e9 => by cases e9; rfl) dL_law_1934 ⟨(by show _ ≤ (603072 : Nat); omega), (by show _ ≤ (7190633 : Nat); omega)⟩ ⟨(by show _ ≤ (603072 : Nat); omega), (by show _ ≤ (7190633 : Nat); omega)⟩ (fun x165 h H locs S w => ?_)
  refine W.cs (cells' := (1032 + (513 - (n + 1)) * 21)) (slots' := (15200 + (513 - (n + 1)) * 5126)) (by omega) (by omega) ?_
  refine ql_aload_n (r := rl2) C dL_law_1937 rfl (lv_at hl 2 rfl) ?_
  refine ql_VI (As := []) (rest := [.int x165]) C S htab hlocks hl qy_X12_duplicatePairsByComparing qi_X12_duplicatePairsByComparing qs_X12_duplicatePairsByComparing gw_1963 (ci := 13) rfl w (fun b w => qm_X12_duplicatePairsByComparing l hl9 D _ b _ _ w) rfl ⟨Nat.le_of_ble_eq_true rfl, Nat.le_of_ble_eq_true rfl⟩ ⟨rfl, rfl⟩ (by exact Nat.le_of_ble_eq_true rfl) (fun b e9 => by cases e9; rfl) dL_law_1938 ⟨(by show _ ≤ (603072 : Nat); omega), (by show _ ≤ (7190633 : Nat); omega)⟩ ⟨(by show _ ≤ (603072 : Nat); omega), (by show _ ≤ (7190633 : Nat); omega)⟩ (fun x167 h H locs S w => ?_)
  refine W.cs (cells' := (1032 + (513 - (n + 1)) * 21)) (slots' := (15200 + (513 - (n + 1)) * 5126)) (by omega) (by omega) ?_
  refine lv_icmp_eq (tgt := 2957) C.1.1 C.1.2.1 dL_law_1941 (by decide) (fun c9 => ?_) (fun c9 => ?_)
  · replace w := ql_if w c9
    refine W.widen (k := (1053 + (513 - (n + 1)) * 21)) (n := (20326 + (513 - (n + 1)) * 5126)) (by omega) (by omega) ?_
    exact (qm_L_law_2957 l hl9 D h0 L9 xs9 a0 Q X p e s m below meth c C hr hlocks htab hX) n hn9 k28 hk28 rl1 rl2 rl3 rl4 xl5 _ _ _ _ S (lv_sub hl [0, 1, 2, 3, 4, 5] rfl) w
  · replace w := ql_ifn w c9
    refine lv_iconst (v := (0 : Int32)) C.1.1 C.1.2.1 dL_law_1944 (by decide) ?_
    exact ql_zret C S hr hlocks dL_law_1945 ⟨(by show _ ≤ (603072 : Nat); omega), (by show _ ≤ (7190633 : Nat); omega)⟩ w
set_option maxHeartbeats 4000000 in
set_option maxRecDepth 100000 in
theorem qm_L_law_1999 (l : Launch) (hl9 : l.stackTraces = false) (D : ql_D) (h0 : ql_H) (L9 : Nat) (xs9 : Nat → Int32) (a0 : Nat) (Q : Int32 → ql_H → Prop) (X : String → ql_H → Prop) (p : Program) (e : Env) (s : State) (m : MethodId) (below : List Frame) (meth : Method) (c : Code) (C : ql_C D h0 p m c cL_law 9 s [.ref a0].toArray "ClauseLedgerLaw") (hr : meth.sig.returnType = some .boolean) (hlocks : meth.locks = false) (htab : ∀ x ∈ c.exceptionTable.toList, False) (hX : va_X a0 L9 xs9 s s.heap ∧ a0 < s.heap.size ∧ ¬ ql_A h0 a0) : ∀ n : Nat, n + 1 ≤ 513 → ∀ (k28 : Option Nat → Option Nat → Option Nat → Option Nat → Int32 → ql_H → Prop) (hk28 : ∀ (rl1 : Option Nat) (rl2 : Option Nat) (rl3 : Option Nat) (rl4 : Option Nat) (xl5 : Int32) (h : ql_H) (H : Heap) (locs : List Loc) (ls : Array Slot), ql_S D h0 s H locs h → lv_has ls 9 [(0, .ref a0), (1, va_rf rl1), (2, va_rf rl2), (3, va_rf rl3), (4, va_rf rl4), (5, .int xl5)] → k28 rl1 rl2 rl3 rl4 xl5 h → W p l e ({ frames := 2048, cells := 603072, slots := 7190633, locals := 94400 } : Room) s m ([.ref a0] : List Value).toArray below meth c H locs (1032 + (513 - n) * 21) (15200 + (513 - n) * 5126) (vx_MQ below (ql_Q D h0 (ql_rI Q)) (ql_X D h0 X) ([.ref a0] : List Value).toArray s 603072 7190633 (ql_A h0)) (F0 m 28 ls [])) , ∀ (rl1 : Option Nat) (rl2 : Option Nat) (rl3 : Option Nat) (rl4 : Option Nat) (xl5 : Int32) (h : ql_H) (H : Heap) (locs : List Loc) (ls : Array Slot), ql_S D h0 s H locs h → lv_has ls 9 [(0, .ref a0), (1, va_rf rl1), (2, va_rf rl2), (3, va_rf rl3), (4, va_rf rl4), (5, .int xl5)] → qw_L_law_1999 D.2 L9 xs9 a0 Q X k28 rl1 rl2 rl3 rl4 xl5 h → W p l e ({ frames := 2048, cells := 603072, slots := 7190633, locals := 94400 } : Room) s m ([.ref a0] : List Value).toArray below meth c H locs (1033 + (513 - (n + 1)) * 21) (15206 + (513 - (n + 1)) * 5126) (vx_MQ below (ql_Q D h0 (ql_rI Q)) (ql_X D h0 X) ([.ref a0] : List Value).toArray s 603072 7190633 (ql_A h0)) (F0 m 1999 ls []) := by
  intro n hn9 k28 hk28 rl1 rl2 rl3 rl4 xl5 h H locs ls S hl w
  unfold qw_L_law_1999 at w
  refine lv_goto (tgt := 2957) C.1.1 C.1.2.1 dL_law_1999 (by decide) ?_
  refine W.widen (k := (1053 + (513 - (n + 1)) * 21)) (n := (20326 + (513 - (n + 1)) * 5126)) (by omega) (by omega) ?_
  exact (qm_L_law_2957 l hl9 D h0 L9 xs9 a0 Q X p e s m below meth c C hr hlocks htab hX) n hn9 k28 hk28 rl1 rl2 rl3 rl4 xl5 _ _ _ _ S (lv_sub hl [0, 1, 2, 3, 4, 5] rfl) w
set_option maxHeartbeats 4000000 in
set_option maxRecDepth 100000 in
theorem qm_L_law_1946 (l : Launch) (hl9 : l.stackTraces = false) (D : ql_D) (h0 : ql_H) (L9 : Nat) (xs9 : Nat → Int32) (a0 : Nat) (Q : Int32 → ql_H → Prop) (X : String → ql_H → Prop) (p : Program) (e : Env) (s : State) (m : MethodId) (below : List Frame) (meth : Method) (c : Code) (C : ql_C D h0 p m c cL_law 9 s [.ref a0].toArray "ClauseLedgerLaw") (hr : meth.sig.returnType = some .boolean) (hlocks : meth.locks = false) (htab : ∀ x ∈ c.exceptionTable.toList, False) (hX : va_X a0 L9 xs9 s s.heap ∧ a0 < s.heap.size ∧ ¬ ql_A h0 a0) : ∀ n : Nat, n + 1 ≤ 513 → ∀ (k28 : Option Nat → Option Nat → Option Nat → Option Nat → Int32 → ql_H → Prop) (hk28 : ∀ (rl1 : Option Nat) (rl2 : Option Nat) (rl3 : Option Nat) (rl4 : Option Nat) (xl5 : Int32) (h : ql_H) (H : Heap) (locs : List Loc) (ls : Array Slot), ql_S D h0 s H locs h → lv_has ls 9 [(0, .ref a0), (1, va_rf rl1), (2, va_rf rl2), (3, va_rf rl3), (4, va_rf rl4), (5, .int xl5)] → k28 rl1 rl2 rl3 rl4 xl5 h → W p l e ({ frames := 2048, cells := 603072, slots := 7190633, locals := 94400 } : Room) s m ([.ref a0] : List Value).toArray below meth c H locs (1032 + (513 - n) * 21) (15200 + (513 - n) * 5126) (vx_MQ below (ql_Q D h0 (ql_rI Q)) (ql_X D h0 X) ([.ref a0] : List Value).toArray s 603072 7190633 (ql_A h0)) (F0 m 28 ls [])) , ∀ (rl1 : Option Nat) (rl2 : Option Nat) (rl3 : Option Nat) (rl4 : Option Nat) (xl5 : Int32) (h : ql_H) (H : Heap) (locs : List Loc) (ls : Array Slot), ql_S D h0 s H locs h → lv_has ls 9 [(0, .ref a0), (1, va_rf rl1), (2, va_rf rl2), (3, va_rf rl3), (4, va_rf rl4), (5, .int xl5)] → qw_L_law_1946 D.2 L9 xs9 a0 Q X k28 rl1 rl2 rl3 rl4 xl5 h → W p l e ({ frames := 2048, cells := 603072, slots := 7190633, locals := 94400 } : Room) s m ([.ref a0] : List Value).toArray below meth c H locs (1032 + (513 - (n + 1)) * 21) (15200 + (513 - (n + 1)) * 5126) (vx_MQ below (ql_Q D h0 (ql_rI Q)) (ql_X D h0 X) ([.ref a0] : List Value).toArray s 603072 7190633 (ql_A h0)) (F0 m 1946 ls []) := by
  intro n hn9 k28 hk28 rl1 rl2 rl3 rl4 xl5 h H locs ls S hl w
  unfold qw_L_law_1946 at w
  refine ql_aload_n (r := rl1) C dL_law_1946 rfl (lv_at hl 1 rfl) ?_
  refine ql_aload_n (r := (some a0)) C dL_law_1947 rfl (lv_at hl 0 rfl) ?_
  refine lv_iload C.1.1 C.1.2.1 dL_law_1948 (lv_at hl 5 rfl) ?_
  refine lv_iconst (v := (1 : Int32)) C.1.1 C.1.2.1 dL_law_1950 (by decide) ?_
  refine lv_iadd C.1.1 C.1.2.1 dL_law_1951 ?_
  refine ql_sld C S hX w.1 dL_law_1952 ?_
  replace w := w.2
  refine ql_aload_n (r := rl3) C dL_law_1953 rfl (lv_at hl 3 rfl) ?_
  refine ql_SHI (As := [va_rf rl1, .int (xs9 (xl5 + (1 : Int32)).toNatClampNeg), va_rf rl3]) (rest := []) C S hl qyh_L_citeCount gw_1100 (qm_L_citeCount l hl9 D _ rl1 (xs9 (xl5 + (1 : Int32)).toNatClampNeg) rl3 _ _ w) rfl ⟨Nat.le_of_ble_eq_true rfl, Nat.le_of_ble_eq_true rfl⟩ ⟨rfl, rfl⟩ (by exact Nat.le_of_ble_eq_true rfl) rfl dL_law_1954 ⟨(by show _ ≤ (603072 : Nat); omega), (by show _ ≤ (7190633 : Nat); omega)⟩ (fun x169 h H locs S w => ?_)
  refine W.cs (cells' := (1033 + (513 - (n + 1)) * 21)) (slots' := (15206 + (513 - (n + 1)) * 5126)) (by omega) (by omega) ?_
  refine lv_istore (lv' := [(6, .int x169), (0, .ref a0), (1, va_rf rl1), (2, va_rf rl2), (3, va_rf rl3), (4, va_rf rl4), (5, .int xl5)]) C.1.1 C.1.2.1 dL_law_1957 hl (by decide) rfl (fun ls hl => ?_)
  refine ql_aload_n (r := rl2) C dL_law_1959 rfl (lv_at hl 3 rfl) ?_
  refine ql_aload_n (r := (some a0)) C dL_law_1960 rfl (lv_at hl 1 rfl) ?_
  refine lv_iload C.1.1 C.1.2.1 dL_law_1961 (lv_at hl 6 rfl) ?_
  refine lv_iconst (v := (1 : Int32)) C.1.1 C.1.2.1 dL_law_1963 (by decide) ?_
  refine lv_iadd C.1.1 C.1.2.1 dL_law_1964 ?_
  refine ql_sld C S hX w.1 dL_law_1965 ?_
  replace w := w.2
  refine ql_VI (As := [.int (xs9 (xl5 + (1 : Int32)).toNatClampNeg)]) (rest := []) C S htab hlocks hl qy_X12_citeCount qi_X12_citeCount qs_X12_citeCount gw_1967 (ci := 13) rfl w (fun b w => qm_X12_citeCount l hl9 D _ b (xs9 (xl5 + (1 : Int32)).toNatClampNeg) _ _ w) rfl ⟨Nat.le_of_ble_eq_true rfl, Nat.le_of_ble_eq_true rfl⟩ ⟨rfl, rfl⟩ (by exact Nat.le_of_ble_eq_true rfl) (fun b e9 => by cases e9; rfl) dL_law_1966 ⟨(by show _ ≤ (603072 : Nat); omega), (by show _ ≤ (7190633 : Nat); omega)⟩ ⟨(by show _ ≤ (603072 : Nat); omega), (by show _ ≤ (7190633 : Nat); omega)⟩ (fun x170 h H locs S w => ?_)
  refine W.cs (cells' := (1033 + (513 - (n + 1)) * 21)) (slots' := (15206 + (513 - (n + 1)) * 5126)) (by omega) (by omega) ?_
  refine lv_istore (lv' := [(7, .int x170), (6, .int x169), (0, .ref a0), (1, va_rf rl1), (2, va_rf rl2), (3, va_rf rl3), (4, va_rf rl4), (5, .int xl5)]) C.1.1 C.1.2.1 dL_law_1969 hl (by decide) rfl (fun ls hl => ?_)
  refine ql_aload_n (r := rl2) C dL_law_1971 rfl (lv_at hl 4 rfl) ?_
  refine ql_VI (As := []) (rest := []) C S htab hlocks hl qy_X12_thrown qi_X12_thrown qs_X12_thrown gw_1727 (ci := 13) rfl w (fun b w => qm_X12_thrown l hl9 D _ b _ _ w) rfl ⟨Nat.le_of_ble_eq_true rfl, Nat.le_of_ble_eq_true rfl⟩ ⟨rfl, rfl⟩ (by exact Nat.le_of_ble_eq_true rfl) (fun b e9 => by cases e9; rfl) dL_law_1972 ⟨(by show _ ≤ (603072 : Nat); omega), (by show _ ≤ (7190633 : Nat); omega)⟩ ⟨(by show _ ≤ (603072 : Nat); omega), (by show _ ≤ (7190633 : Nat); omega)⟩ (fun x172 h H locs S w => ?_)
  refine W.cs (cells' := (1033 + (513 - (n + 1)) * 21)) (slots' := (15206 + (513 - (n + 1)) * 5126)) (by omega) (by omega) ?_
  refine lv_iload C.1.1 C.1.2.1 dL_law_1975 (lv_at hl 1 rfl) ?_
  refine lv_icmp_eq (tgt := 1982) C.1.1 C.1.2.1 dL_law_1977 (by decide) (fun c9 => ?_) (fun c9 => ?_)
  · replace w := ql_if w c9
    refine lv_iload C.1.1 C.1.2.1 dL_law_1982 (lv_at hl 1 rfl) ?_
    refine lv_if_ne (tgt := 1999) C.1.1 C.1.2.1 dL_law_1984 (by decide) (fun c9 => ?_) (fun c9 => ?_)
    · replace w := ql_ifn w c9
      exact (qm_L_law_1999 l hl9 D h0 L9 xs9 a0 Q X p e s m below meth c C hr hlocks htab hX) n hn9 k28 hk28 rl1 rl2 rl3 rl4 xl5 _ _ _ _ S (lv_sub hl [2, 3, 4, 5, 6, 7] rfl) w
    · replace w := ql_if w c9
      refine ql_aload_n (r := rl3) C dL_law_1987 rfl (lv_at hl 5 rfl) ?_
      refine lv_iconst (v := (0 : Int32)) C.1.1 C.1.2.1 dL_law_1988 (by decide) ?_
      refine ql_lald C S dL_law_1989 w (fun j174 w => ?_)
      refine lv_iload C.1.1 C.1.2.1 dL_law_1990 (lv_at hl 0 rfl) ?_
      refine lv_i2l C.1.1 C.1.2.1 dL_law_1992 rfl ?_
      refine W.lcmp C.1.1 C.1.2.1 dL_law_1993 ?_
      refine lv_if_eq (tgt := 1999) C.1.1 C.1.2.1 dL_law_1994 (by decide) (fun c9 => ?_) (fun c9 => ?_)
      · replace w := ql_if w c9
        exact (qm_L_law_1999 l hl9 D h0 L9 xs9 a0 Q X p e s m below meth c C hr hlocks htab hX) n hn9 k28 hk28 rl1 rl2 rl3 rl4 xl5 _ _ _ _ S (lv_sub hl [2, 3, 4, 5, 6, 7] rfl) w
      · replace w := ql_ifn w c9
        refine lv_iconst (v := (0 : Int32)) C.1.1 C.1.2.1 dL_law_1997 (by decide) ?_
        exact ql_zret C S hr hlocks dL_law_1998 ⟨(by show _ ≤ (603072 : Nat); omega), (by show _ ≤ (7190633 : Nat); omega)⟩ w
  · replace w := ql_ifn w c9
    refine lv_iconst (v := (0 : Int32)) C.1.1 C.1.2.1 dL_law_1980 (by decide) ?_
    exact ql_zret C S hr hlocks dL_law_1981 ⟨(by show _ ≤ (603072 : Nat); omega), (by show _ ≤ (7190633 : Nat); omega)⟩ w
set_option maxHeartbeats 4000000 in
set_option maxRecDepth 100000 in
theorem qm_L_law_2067 (l : Launch) (hl9 : l.stackTraces = false) (D : ql_D) (h0 : ql_H) (L9 : Nat) (xs9 : Nat → Int32) (a0 : Nat) (Q : Int32 → ql_H → Prop) (X : String → ql_H → Prop) (p : Program) (e : Env) (s : State) (m : MethodId) (below : List Frame) (meth : Method) (c : Code) (C : ql_C D h0 p m c cL_law 9 s [.ref a0].toArray "ClauseLedgerLaw") (hr : meth.sig.returnType = some .boolean) (hlocks : meth.locks = false) (htab : ∀ x ∈ c.exceptionTable.toList, False) (hX : va_X a0 L9 xs9 s s.heap ∧ a0 < s.heap.size ∧ ¬ ql_A h0 a0) : ∀ n : Nat, n + 1 ≤ 513 → ∀ (k28 : Option Nat → Option Nat → Option Nat → Option Nat → Int32 → ql_H → Prop) (hk28 : ∀ (rl1 : Option Nat) (rl2 : Option Nat) (rl3 : Option Nat) (rl4 : Option Nat) (xl5 : Int32) (h : ql_H) (H : Heap) (locs : List Loc) (ls : Array Slot), ql_S D h0 s H locs h → lv_has ls 9 [(0, .ref a0), (1, va_rf rl1), (2, va_rf rl2), (3, va_rf rl3), (4, va_rf rl4), (5, .int xl5)] → k28 rl1 rl2 rl3 rl4 xl5 h → W p l e ({ frames := 2048, cells := 603072, slots := 7190633, locals := 94400 } : Room) s m ([.ref a0] : List Value).toArray below meth c H locs (1032 + (513 - n) * 21) (15200 + (513 - n) * 5126) (vx_MQ below (ql_Q D h0 (ql_rI Q)) (ql_X D h0 X) ([.ref a0] : List Value).toArray s 603072 7190633 (ql_A h0)) (F0 m 28 ls [])) , ∀ (rl1 : Option Nat) (rl2 : Option Nat) (rl3 : Option Nat) (rl4 : Option Nat) (xl5 : Int32) (h : ql_H) (H : Heap) (locs : List Loc) (ls : Array Slot), ql_S D h0 s H locs h → lv_has ls 9 [(0, .ref a0), (1, va_rf rl1), (2, va_rf rl2), (3, va_rf rl3), (4, va_rf rl4), (5, .int xl5)] → qw_L_law_2067 D.2 L9 xs9 a0 Q X k28 rl1 rl2 rl3 rl4 xl5 h → W p l e ({ frames := 2048, cells := 603072, slots := 7190633, locals := 94400 } : Room) s m ([.ref a0] : List Value).toArray below meth c H locs (1034 + (513 - (n + 1)) * 21) (15212 + (513 - (n + 1)) * 5126) (vx_MQ below (ql_Q D h0 (ql_rI Q)) (ql_X D h0 X) ([.ref a0] : List Value).toArray s 603072 7190633 (ql_A h0)) (F0 m 2067 ls []) := by
  intro n hn9 k28 hk28 rl1 rl2 rl3 rl4 xl5 h H locs ls S hl w
  unfold qw_L_law_2067 at w
  refine lv_goto (tgt := 2957) C.1.1 C.1.2.1 dL_law_2067 (by decide) ?_
  refine W.widen (k := (1053 + (513 - (n + 1)) * 21)) (n := (20326 + (513 - (n + 1)) * 5126)) (by omega) (by omega) ?_
  exact (qm_L_law_2957 l hl9 D h0 L9 xs9 a0 Q X p e s m below meth c C hr hlocks htab hX) n hn9 k28 hk28 rl1 rl2 rl3 rl4 xl5 _ _ _ _ S (lv_sub hl [0, 1, 2, 3, 4, 5] rfl) w
set_option maxHeartbeats 4000000 in
set_option maxRecDepth 100000 in
theorem qm_L_law_2002 (l : Launch) (hl9 : l.stackTraces = false) (D : ql_D) (h0 : ql_H) (L9 : Nat) (xs9 : Nat → Int32) (a0 : Nat) (Q : Int32 → ql_H → Prop) (X : String → ql_H → Prop) (p : Program) (e : Env) (s : State) (m : MethodId) (below : List Frame) (meth : Method) (c : Code) (C : ql_C D h0 p m c cL_law 9 s [.ref a0].toArray "ClauseLedgerLaw") (hr : meth.sig.returnType = some .boolean) (hlocks : meth.locks = false) (htab : ∀ x ∈ c.exceptionTable.toList, False) (hX : va_X a0 L9 xs9 s s.heap ∧ a0 < s.heap.size ∧ ¬ ql_A h0 a0) : ∀ n : Nat, n + 1 ≤ 513 → ∀ (k28 : Option Nat → Option Nat → Option Nat → Option Nat → Int32 → ql_H → Prop) (hk28 : ∀ (rl1 : Option Nat) (rl2 : Option Nat) (rl3 : Option Nat) (rl4 : Option Nat) (xl5 : Int32) (h : ql_H) (H : Heap) (locs : List Loc) (ls : Array Slot), ql_S D h0 s H locs h → lv_has ls 9 [(0, .ref a0), (1, va_rf rl1), (2, va_rf rl2), (3, va_rf rl3), (4, va_rf rl4), (5, .int xl5)] → k28 rl1 rl2 rl3 rl4 xl5 h → W p l e ({ frames := 2048, cells := 603072, slots := 7190633, locals := 94400 } : Room) s m ([.ref a0] : List Value).toArray below meth c H locs (1032 + (513 - n) * 21) (15200 + (513 - n) * 5126) (vx_MQ below (ql_Q D h0 (ql_rI Q)) (ql_X D h0 X) ([.ref a0] : List Value).toArray s 603072 7190633 (ql_A h0)) (F0 m 28 ls [])) , ∀ (rl1 : Option Nat) (rl2 : Option Nat) (rl3 : Option Nat) (rl4 : Option Nat) (xl5 : Int32) (h : ql_H) (H : Heap) (locs : List Loc) (ls : Array Slot), ql_S D h0 s H locs h → lv_has ls 9 [(0, .ref a0), (1, va_rf rl1), (2, va_rf rl2), (3, va_rf rl3), (4, va_rf rl4), (5, .int xl5)] → qw_L_law_2002 D.2 L9 xs9 a0 Q X k28 rl1 rl2 rl3 rl4 xl5 h → W p l e ({ frames := 2048, cells := 603072, slots := 7190633, locals := 94400 } : Room) s m ([.ref a0] : List Value).toArray below meth c H locs (1032 + (513 - (n + 1)) * 21) (15200 + (513 - (n + 1)) * 5126) (vx_MQ below (ql_Q D h0 (ql_rI Q)) (ql_X D h0 X) ([.ref a0] : List Value).toArray s 603072 7190633 (ql_A h0)) (F0 m 2002 ls []) := by
  intro n hn9 k28 hk28 rl1 rl2 rl3 rl4 xl5 h H locs ls S hl w
  unfold qw_L_law_2002 at w
  refine ql_aload_n (r := rl1) C dL_law_2002 rfl (lv_at hl 1 rfl) ?_
  refine ql_aload_n (r := (some a0)) C dL_law_2003 rfl (lv_at hl 0 rfl) ?_
  refine lv_iload C.1.1 C.1.2.1 dL_law_2004 (lv_at hl 5 rfl) ?_
  refine lv_iconst (v := (1 : Int32)) C.1.1 C.1.2.1 dL_law_2006 (by decide) ?_
  refine lv_iadd C.1.1 C.1.2.1 dL_law_2007 ?_
  refine ql_sld C S hX w.1 dL_law_2008 ?_
  replace w := w.2
  refine ql_aload_n (r := (some a0)) C dL_law_2009 rfl (lv_at hl 0 rfl) ?_
  refine lv_iload C.1.1 C.1.2.1 dL_law_2010 (lv_at hl 5 rfl) ?_
  refine lv_iconst (v := (2 : Int32)) C.1.1 C.1.2.1 dL_law_2012 (by decide) ?_
  refine lv_iadd C.1.1 C.1.2.1 dL_law_2013 ?_
  refine ql_sld C S hX w.1 dL_law_2014 ?_
  replace w := w.2
  refine ql_aload_n (r := rl3) C dL_law_2015 rfl (lv_at hl 3 rfl) ?_
  refine ql_SHI (As := [va_rf rl1, .int (xs9 (xl5 + (1 : Int32)).toNatClampNeg), .int (xs9 (xl5 + (2 : Int32)).toNatClampNeg), va_rf rl3]) (rest := []) C S hl qyh_L_citeAt gw_1108 (qm_L_citeAt l hl9 D _ rl1 (xs9 (xl5 + (1 : Int32)).toNatClampNeg) (xs9 (xl5 + (2 : Int32)).toNatClampNeg) rl3 _ _ w) rfl ⟨Nat.le_of_ble_eq_true rfl, Nat.le_of_ble_eq_true rfl⟩ ⟨rfl, rfl⟩ (by exact Nat.le_of_ble_eq_true rfl) rfl dL_law_2016 ⟨(by show _ ≤ (603072 : Nat); omega), (by show _ ≤ (7190633 : Nat); omega)⟩ (fun x175 h H locs S w => ?_)
  refine W.cs (cells' := (1034 + (513 - (n + 1)) * 21)) (slots' := (15212 + (513 - (n + 1)) * 5126)) (by omega) (by omega) ?_
  refine lv_istore (lv' := [(6, .int x175), (0, .ref a0), (1, va_rf rl1), (2, va_rf rl2), (3, va_rf rl3), (4, va_rf rl4), (5, .int xl5)]) C.1.1 C.1.2.1 dL_law_2019 hl (by decide) rfl (fun ls hl => ?_)
  refine ql_aload_n (r := rl2) C dL_law_2021 rfl (lv_at hl 3 rfl) ?_
  refine ql_aload_n (r := (some a0)) C dL_law_2022 rfl (lv_at hl 1 rfl) ?_
  refine lv_iload C.1.1 C.1.2.1 dL_law_2023 (lv_at hl 6 rfl) ?_
  refine lv_iconst (v := (1 : Int32)) C.1.1 C.1.2.1 dL_law_2025 (by decide) ?_
  refine lv_iadd C.1.1 C.1.2.1 dL_law_2026 ?_
  refine ql_sld C S hX w.1 dL_law_2027 ?_
  replace w := w.2
  refine ql_aload_n (r := (some a0)) C dL_law_2028 rfl (lv_at hl 1 rfl) ?_
  refine lv_iload C.1.1 C.1.2.1 dL_law_2029 (lv_at hl 6 rfl) ?_
  refine lv_iconst (v := (2 : Int32)) C.1.1 C.1.2.1 dL_law_2031 (by decide) ?_
  refine lv_iadd C.1.1 C.1.2.1 dL_law_2032 ?_
  refine ql_sld C S hX w.1 dL_law_2033 ?_
  replace w := w.2
  refine ql_VI (As := [.int (xs9 (xl5 + (1 : Int32)).toNatClampNeg), .int (xs9 (xl5 + (2 : Int32)).toNatClampNeg)]) (rest := []) C S htab hlocks hl qy_X12_citeAt qi_X12_citeAt qs_X12_citeAt gw_1971 (ci := 13) rfl w (fun b w => qm_X12_citeAt l hl9 D _ b (xs9 (xl5 + (1 : Int32)).toNatClampNeg) (xs9 (xl5 + (2 : Int32)).toNatClampNeg) _ _ w) rfl ⟨Nat.le_of_ble_eq_true rfl, Nat.le_of_ble_eq_true rfl⟩ ⟨rfl, rfl⟩ (by exact Nat.le_of_ble_eq_true rfl) (fun b e9 => by cases e9; rfl) dL_law_2034 ⟨(by show _ ≤ (603072 : Nat); omega), (by show _ ≤ (7190633 : Nat); omega)⟩ ⟨(by show _ ≤ (603072 : Nat); omega), (by show _ ≤ (7190633 : Nat); omega)⟩ (fun x176 h H locs S w => ?_)
  refine W.cs (cells' := (1034 + (513 - (n + 1)) * 21)) (slots' := (15212 + (513 - (n + 1)) * 5126)) (by omega) (by omega) ?_
  refine lv_istore (lv' := [(7, .int x176), (6, .int x175), (0, .ref a0), (1, va_rf rl1), (2, va_rf rl2), (3, va_rf rl3), (4, va_rf rl4), (5, .int xl5)]) C.1.1 C.1.2.1 dL_law_2037 hl (by decide) rfl (fun ls hl => ?_)
  refine ql_aload_n (r := rl2) C dL_law_2039 rfl (lv_at hl 4 rfl) ?_
  refine ql_VI (As := []) (rest := []) C S htab hlocks hl qy_X12_thrown qi_X12_thrown qs_X12_thrown gw_1727 (ci := 13) rfl w (fun b w => qm_X12_thrown l hl9 D _ b _ _ w) rfl ⟨Nat.le_of_ble_eq_true rfl, Nat.le_of_ble_eq_true rfl⟩ ⟨rfl, rfl⟩ (by exact Nat.le_of_ble_eq_true rfl) (fun b e9 => by cases e9; rfl) dL_law_2040 ⟨(by show _ ≤ (603072 : Nat); omega), (by show _ ≤ (7190633 : Nat); omega)⟩ ⟨(by show _ ≤ (603072 : Nat); omega), (by show _ ≤ (7190633 : Nat); omega)⟩ (fun x178 h H locs S w => ?_)
  refine W.cs (cells' := (1034 + (513 - (n + 1)) * 21)) (slots' := (15212 + (513 - (n + 1)) * 5126)) (by omega) (by omega) ?_
  refine lv_iload C.1.1 C.1.2.1 dL_law_2043 (lv_at hl 1 rfl) ?_
  refine lv_icmp_eq (tgt := 2050) C.1.1 C.1.2.1 dL_law_2045 (by decide) (fun c9 => ?_) (fun c9 => ?_)
  · replace w := ql_if w c9
    refine lv_iload C.1.1 C.1.2.1 dL_law_2050 (lv_at hl 1 rfl) ?_
    refine lv_if_ne (tgt := 2067) C.1.1 C.1.2.1 dL_law_2052 (by decide) (fun c9 => ?_) (fun c9 => ?_)
    · replace w := ql_ifn w c9
      exact (qm_L_law_2067 l hl9 D h0 L9 xs9 a0 Q X p e s m below meth c C hr hlocks htab hX) n hn9 k28 hk28 rl1 rl2 rl3 rl4 xl5 _ _ _ _ S (lv_sub hl [2, 3, 4, 5, 6, 7] rfl) w
    · replace w := ql_if w c9
      refine ql_aload_n (r := rl3) C dL_law_2055 rfl (lv_at hl 5 rfl) ?_
      refine lv_iconst (v := (0 : Int32)) C.1.1 C.1.2.1 dL_law_2056 (by decide) ?_
      refine ql_lald C S dL_law_2057 w (fun j180 w => ?_)
      refine lv_iload C.1.1 C.1.2.1 dL_law_2058 (lv_at hl 0 rfl) ?_
      refine lv_i2l C.1.1 C.1.2.1 dL_law_2060 rfl ?_
      refine W.lcmp C.1.1 C.1.2.1 dL_law_2061 ?_
      refine lv_if_eq (tgt := 2067) C.1.1 C.1.2.1 dL_law_2062 (by decide) (fun c9 => ?_) (fun c9 => ?_)
      · replace w := ql_if w c9
        exact (qm_L_law_2067 l hl9 D h0 L9 xs9 a0 Q X p e s m below meth c C hr hlocks htab hX) n hn9 k28 hk28 rl1 rl2 rl3 rl4 xl5 _ _ _ _ S (lv_sub hl [2, 3, 4, 5, 6, 7] rfl) w
      · replace w := ql_ifn w c9
        refine lv_iconst (v := (0 : Int32)) C.1.1 C.1.2.1 dL_law_2065 (by decide) ?_
        exact ql_zret C S hr hlocks dL_law_2066 ⟨(by show _ ≤ (603072 : Nat); omega), (by show _ ≤ (7190633 : Nat); omega)⟩ w
  · replace w := ql_ifn w c9
    refine lv_iconst (v := (0 : Int32)) C.1.1 C.1.2.1 dL_law_2048 (by decide) ?_
    exact ql_zret C S hr hlocks dL_law_2049 ⟨(by show _ ≤ (603072 : Nat); omega), (by show _ ≤ (7190633 : Nat); omega)⟩ w
set_option maxHeartbeats 4000000 in
set_option maxRecDepth 100000 in
theorem qm_L_law_2070 (l : Launch) (hl9 : l.stackTraces = false) (D : ql_D) (h0 : ql_H) (L9 : Nat) (xs9 : Nat → Int32) (a0 : Nat) (Q : Int32 → ql_H → Prop) (X : String → ql_H → Prop) (p : Program) (e : Env) (s : State) (m : MethodId) (below : List Frame) (meth : Method) (c : Code) (C : ql_C D h0 p m c cL_law 9 s [.ref a0].toArray "ClauseLedgerLaw") (hr : meth.sig.returnType = some .boolean) (hlocks : meth.locks = false) (htab : ∀ x ∈ c.exceptionTable.toList, False) (hX : va_X a0 L9 xs9 s s.heap ∧ a0 < s.heap.size ∧ ¬ ql_A h0 a0) : ∀ n : Nat, n + 1 ≤ 513 → ∀ (k28 : Option Nat → Option Nat → Option Nat → Option Nat → Int32 → ql_H → Prop) (hk28 : ∀ (rl1 : Option Nat) (rl2 : Option Nat) (rl3 : Option Nat) (rl4 : Option Nat) (xl5 : Int32) (h : ql_H) (H : Heap) (locs : List Loc) (ls : Array Slot), ql_S D h0 s H locs h → lv_has ls 9 [(0, .ref a0), (1, va_rf rl1), (2, va_rf rl2), (3, va_rf rl3), (4, va_rf rl4), (5, .int xl5)] → k28 rl1 rl2 rl3 rl4 xl5 h → W p l e ({ frames := 2048, cells := 603072, slots := 7190633, locals := 94400 } : Room) s m ([.ref a0] : List Value).toArray below meth c H locs (1032 + (513 - n) * 21) (15200 + (513 - n) * 5126) (vx_MQ below (ql_Q D h0 (ql_rI Q)) (ql_X D h0 X) ([.ref a0] : List Value).toArray s 603072 7190633 (ql_A h0)) (F0 m 28 ls [])) , ∀ (rl1 : Option Nat) (rl2 : Option Nat) (rl3 : Option Nat) (rl4 : Option Nat) (xl5 : Int32) (h : ql_H) (H : Heap) (locs : List Loc) (ls : Array Slot), ql_S D h0 s H locs h → lv_has ls 9 [(0, .ref a0), (1, va_rf rl1), (2, va_rf rl2), (3, va_rf rl3), (4, va_rf rl4), (5, .int xl5)] → qw_L_law_2070 D.2 L9 xs9 a0 Q X k28 rl1 rl2 rl3 rl4 xl5 h → W p l e ({ frames := 2048, cells := 603072, slots := 7190633, locals := 94400 } : Room) s m ([.ref a0] : List Value).toArray below meth c H locs (1032 + (513 - (n + 1)) * 21) (15200 + (513 - (n + 1)) * 5126) (vx_MQ below (ql_Q D h0 (ql_rI Q)) (ql_X D h0 X) ([.ref a0] : List Value).toArray s 603072 7190633 (ql_A h0)) (F0 m 2070 ls []) := by
  intro n hn9 k28 hk28 rl1 rl2 rl3 rl4 xl5 h H locs ls S hl w
  unfold qw_L_law_2070 at w
  refine ql_aload_n (r := rl1) C dL_law_2070 rfl (lv_at hl 1 rfl) ?_
  refine ql_VI (As := []) (rest := []) C S htab hlocks hl qy_X11_brokenCites qi_X11_brokenCites qs_X11_brokenCites gw_670 (ci := 12) rfl w (fun b w => qm_X11_brokenCites l hl9 D _ b _ _ w) rfl ⟨Nat.le_of_ble_eq_true rfl, Nat.le_of_ble_eq_true rfl⟩ ⟨rfl, rfl⟩ (by exact Nat.le_of_ble_eq_true rfl) (fun b e9 => by cases e9; rfl) dL_law_2071 ⟨(by show _ ≤ (603072 : Nat); omega), (by show _ ≤ (7190633 : Nat); omega)⟩ ⟨(by show _ ≤ (603072 : Nat); omega), (by show _ ≤ (7190633 : Nat); omega)⟩ (fun x181 h H locs S w => ?_)
  refine W.cs (cells' := (1032 + (513 - (n + 1)) * 21)) (slots' := (15200 + (513 - (n + 1)) * 5126)) (by omega) (by omega) ?_
  refine ql_aload_n (r := rl2) C dL_law_2074 rfl (lv_at hl 2 rfl) ?_
  refine ql_VI (As := []) (rest := [.int x181]) C S htab hlocks hl qy_X12_brokenCites qi_X12_brokenCites qs_X12_brokenCites gw_1975 (ci := 13) rfl w (fun b w => qm_X12_brokenCites l hl9 D _ b _ _ w) rfl ⟨Nat.le_of_ble_eq_true rfl, Nat.le_of_ble_eq_true rfl⟩ ⟨rfl, rfl⟩ (by exact Nat.le_of_ble_eq_true rfl) (fun b e9 => by cases e9; rfl) dL_law_2075 ⟨(by show _ ≤ (603072 : Nat); omega), (by show _ ≤ (7190633 : Nat); omega)⟩ ⟨(by show _ ≤ (603072 : Nat); omega), (by show _ ≤ (7190633 : Nat); omega)⟩ (fun x183 h H locs S w => ?_)
  refine W.cs (cells' := (1032 + (513 - (n + 1)) * 21)) (slots' := (15200 + (513 - (n + 1)) * 5126)) (by omega) (by omega) ?_
  refine lv_icmp_eq (tgt := 2957) C.1.1 C.1.2.1 dL_law_2078 (by decide) (fun c9 => ?_) (fun c9 => ?_)
  · replace w := ql_if w c9
    refine W.widen (k := (1053 + (513 - (n + 1)) * 21)) (n := (20326 + (513 - (n + 1)) * 5126)) (by omega) (by omega) ?_
    exact (qm_L_law_2957 l hl9 D h0 L9 xs9 a0 Q X p e s m below meth c C hr hlocks htab hX) n hn9 k28 hk28 rl1 rl2 rl3 rl4 xl5 _ _ _ _ S (lv_sub hl [0, 1, 2, 3, 4, 5] rfl) w
  · replace w := ql_ifn w c9
    refine lv_iconst (v := (0 : Int32)) C.1.1 C.1.2.1 dL_law_2081 (by decide) ?_
    exact ql_zret C S hr hlocks dL_law_2082 ⟨(by show _ ≤ (603072 : Nat); omega), (by show _ ≤ (7190633 : Nat); omega)⟩ w
set_option maxHeartbeats 4000000 in
set_option maxRecDepth 100000 in
theorem qm_L_law_2155 (l : Launch) (hl9 : l.stackTraces = false) (D : ql_D) (h0 : ql_H) (L9 : Nat) (xs9 : Nat → Int32) (a0 : Nat) (Q : Int32 → ql_H → Prop) (X : String → ql_H → Prop) (p : Program) (e : Env) (s : State) (m : MethodId) (below : List Frame) (meth : Method) (c : Code) (C : ql_C D h0 p m c cL_law 9 s [.ref a0].toArray "ClauseLedgerLaw") (hr : meth.sig.returnType = some .boolean) (hlocks : meth.locks = false) (htab : ∀ x ∈ c.exceptionTable.toList, False) (hX : va_X a0 L9 xs9 s s.heap ∧ a0 < s.heap.size ∧ ¬ ql_A h0 a0) : ∀ n : Nat, n + 1 ≤ 513 → ∀ (k28 : Option Nat → Option Nat → Option Nat → Option Nat → Int32 → ql_H → Prop) (hk28 : ∀ (rl1 : Option Nat) (rl2 : Option Nat) (rl3 : Option Nat) (rl4 : Option Nat) (xl5 : Int32) (h : ql_H) (H : Heap) (locs : List Loc) (ls : Array Slot), ql_S D h0 s H locs h → lv_has ls 9 [(0, .ref a0), (1, va_rf rl1), (2, va_rf rl2), (3, va_rf rl3), (4, va_rf rl4), (5, .int xl5)] → k28 rl1 rl2 rl3 rl4 xl5 h → W p l e ({ frames := 2048, cells := 603072, slots := 7190633, locals := 94400 } : Room) s m ([.ref a0] : List Value).toArray below meth c H locs (1032 + (513 - n) * 21) (15200 + (513 - n) * 5126) (vx_MQ below (ql_Q D h0 (ql_rI Q)) (ql_X D h0 X) ([.ref a0] : List Value).toArray s 603072 7190633 (ql_A h0)) (F0 m 28 ls [])) , ∀ (rl1 : Option Nat) (rl2 : Option Nat) (rl3 : Option Nat) (rl4 : Option Nat) (xl5 : Int32) (h : ql_H) (H : Heap) (locs : List Loc) (ls : Array Slot), ql_S D h0 s H locs h → lv_has ls 9 [(0, .ref a0), (1, va_rf rl1), (2, va_rf rl2), (3, va_rf rl3), (4, va_rf rl4), (5, .int xl5)] → qw_L_law_2155 D.2 L9 xs9 a0 Q X k28 rl1 rl2 rl3 rl4 xl5 h → W p l e ({ frames := 2048, cells := 603072, slots := 7190633, locals := 94400 } : Room) s m ([.ref a0] : List Value).toArray below meth c H locs (1034 + (513 - (n + 1)) * 21) (15212 + (513 - (n + 1)) * 5126) (vx_MQ below (ql_Q D h0 (ql_rI Q)) (ql_X D h0 X) ([.ref a0] : List Value).toArray s 603072 7190633 (ql_A h0)) (F0 m 2155 ls []) := by
  intro n hn9 k28 hk28 rl1 rl2 rl3 rl4 xl5 h H locs ls S hl w
  unfold qw_L_law_2155 at w
  refine lv_goto (tgt := 2957) C.1.1 C.1.2.1 dL_law_2155 (by decide) ?_
  refine W.widen (k := (1053 + (513 - (n + 1)) * 21)) (n := (20326 + (513 - (n + 1)) * 5126)) (by omega) (by omega) ?_
  exact (qm_L_law_2957 l hl9 D h0 L9 xs9 a0 Q X p e s m below meth c C hr hlocks htab hX) n hn9 k28 hk28 rl1 rl2 rl3 rl4 xl5 _ _ _ _ S (lv_sub hl [0, 1, 2, 3, 4, 5] rfl) w
set_option maxHeartbeats 4000000 in
set_option maxRecDepth 100000 in
theorem qm_L_law_2149 (l : Launch) (hl9 : l.stackTraces = false) (D : ql_D) (h0 : ql_H) (L9 : Nat) (xs9 : Nat → Int32) (a0 : Nat) (Q : Int32 → ql_H → Prop) (X : String → ql_H → Prop) (p : Program) (e : Env) (s : State) (m : MethodId) (below : List Frame) (meth : Method) (c : Code) (C : ql_C D h0 p m c cL_law 9 s [.ref a0].toArray "ClauseLedgerLaw") (hr : meth.sig.returnType = some .boolean) (hlocks : meth.locks = false) (htab : ∀ x ∈ c.exceptionTable.toList, False) (hX : va_X a0 L9 xs9 s s.heap ∧ a0 < s.heap.size ∧ ¬ ql_A h0 a0) : ∀ n : Nat, n + 1 ≤ 513 → ∀ (k28 : Option Nat → Option Nat → Option Nat → Option Nat → Int32 → ql_H → Prop) (hk28 : ∀ (rl1 : Option Nat) (rl2 : Option Nat) (rl3 : Option Nat) (rl4 : Option Nat) (xl5 : Int32) (h : ql_H) (H : Heap) (locs : List Loc) (ls : Array Slot), ql_S D h0 s H locs h → lv_has ls 9 [(0, .ref a0), (1, va_rf rl1), (2, va_rf rl2), (3, va_rf rl3), (4, va_rf rl4), (5, .int xl5)] → k28 rl1 rl2 rl3 rl4 xl5 h → W p l e ({ frames := 2048, cells := 603072, slots := 7190633, locals := 94400 } : Room) s m ([.ref a0] : List Value).toArray below meth c H locs (1032 + (513 - n) * 21) (15200 + (513 - n) * 5126) (vx_MQ below (ql_Q D h0 (ql_rI Q)) (ql_X D h0 X) ([.ref a0] : List Value).toArray s 603072 7190633 (ql_A h0)) (F0 m 28 ls [])) , ∀ (rl1 : Option Nat) (rl2 : Option Nat) (rl3 : Option Nat) (rl4 : Option Nat) (xl5 : Int32) (js0 : Int64) (js1 : Int64) (h : ql_H) (H : Heap) (locs : List Loc) (ls : Array Slot), ql_S D h0 s H locs h → lv_has ls 9 [(0, .ref a0), (1, va_rf rl1), (2, va_rf rl2), (3, va_rf rl3), (4, va_rf rl4), (5, .int xl5)] → qw_L_law_2149 D.2 L9 xs9 a0 Q X k28 rl1 rl2 rl3 rl4 xl5 js0 js1 h → W p l e ({ frames := 2048, cells := 603072, slots := 7190633, locals := 94400 } : Room) s m ([.ref a0] : List Value).toArray below meth c H locs (1034 + (513 - (n + 1)) * 21) (15212 + (513 - (n + 1)) * 5126) (vx_MQ below (ql_Q D h0 (ql_rI Q)) (ql_X D h0 X) ([.ref a0] : List Value).toArray s 603072 7190633 (ql_A h0)) (F0 m 2149 ls [.long js1, .long js0]) := by
  intro n hn9 k28 hk28 rl1 rl2 rl3 rl4 xl5 js0 js1 h H locs ls S hl w
  unfold qw_L_law_2149 at w
  refine W.lcmp C.1.1 C.1.2.1 dL_law_2149 ?_
  refine lv_if_eq (tgt := 2155) C.1.1 C.1.2.1 dL_law_2150 (by decide) (fun c9 => ?_) (fun c9 => ?_)
  · replace w := ql_if w c9
    exact (qm_L_law_2155 l hl9 D h0 L9 xs9 a0 Q X p e s m below meth c C hr hlocks htab hX) n hn9 k28 hk28 rl1 rl2 rl3 rl4 xl5 _ _ _ _ S (lv_sub hl [0, 1, 2, 3, 4, 5] rfl) w
  · replace w := ql_ifn w c9
    refine lv_iconst (v := (0 : Int32)) C.1.1 C.1.2.1 dL_law_2153 (by decide) ?_
    exact ql_zret C S hr hlocks dL_law_2154 ⟨(by show _ ≤ (603072 : Nat); omega), (by show _ ≤ (7190633 : Nat); omega)⟩ w
set_option maxHeartbeats 4000000 in
set_option maxRecDepth 100000 in
theorem qm_L_law_2083 (l : Launch) (hl9 : l.stackTraces = false) (D : ql_D) (h0 : ql_H) (L9 : Nat) (xs9 : Nat → Int32) (a0 : Nat) (Q : Int32 → ql_H → Prop) (X : String → ql_H → Prop) (p : Program) (e : Env) (s : State) (m : MethodId) (below : List Frame) (meth : Method) (c : Code) (C : ql_C D h0 p m c cL_law 9 s [.ref a0].toArray "ClauseLedgerLaw") (hr : meth.sig.returnType = some .boolean) (hlocks : meth.locks = false) (htab : ∀ x ∈ c.exceptionTable.toList, False) (hX : va_X a0 L9 xs9 s s.heap ∧ a0 < s.heap.size ∧ ¬ ql_A h0 a0) : ∀ n : Nat, n + 1 ≤ 513 → ∀ (k28 : Option Nat → Option Nat → Option Nat → Option Nat → Int32 → ql_H → Prop) (hk28 : ∀ (rl1 : Option Nat) (rl2 : Option Nat) (rl3 : Option Nat) (rl4 : Option Nat) (xl5 : Int32) (h : ql_H) (H : Heap) (locs : List Loc) (ls : Array Slot), ql_S D h0 s H locs h → lv_has ls 9 [(0, .ref a0), (1, va_rf rl1), (2, va_rf rl2), (3, va_rf rl3), (4, va_rf rl4), (5, .int xl5)] → k28 rl1 rl2 rl3 rl4 xl5 h → W p l e ({ frames := 2048, cells := 603072, slots := 7190633, locals := 94400 } : Room) s m ([.ref a0] : List Value).toArray below meth c H locs (1032 + (513 - n) * 21) (15200 + (513 - n) * 5126) (vx_MQ below (ql_Q D h0 (ql_rI Q)) (ql_X D h0 X) ([.ref a0] : List Value).toArray s 603072 7190633 (ql_A h0)) (F0 m 28 ls [])) , ∀ (rl1 : Option Nat) (rl2 : Option Nat) (rl3 : Option Nat) (rl4 : Option Nat) (xl5 : Int32) (h : ql_H) (H : Heap) (locs : List Loc) (ls : Array Slot), ql_S D h0 s H locs h → lv_has ls 9 [(0, .ref a0), (1, va_rf rl1), (2, va_rf rl2), (3, va_rf rl3), (4, va_rf rl4), (5, .int xl5)] → qw_L_law_2083 D.2 L9 xs9 a0 Q X k28 rl1 rl2 rl3 rl4 xl5 h → W p l e ({ frames := 2048, cells := 603072, slots := 7190633, locals := 94400 } : Room) s m ([.ref a0] : List Value).toArray below meth c H locs (1032 + (513 - (n + 1)) * 21) (15200 + (513 - (n + 1)) * 5126) (vx_MQ below (ql_Q D h0 (ql_rI Q)) (ql_X D h0 X) ([.ref a0] : List Value).toArray s 603072 7190633 (ql_A h0)) (F0 m 2083 ls []) := by
  intro n hn9 k28 hk28 rl1 rl2 rl3 rl4 xl5 h H locs ls S hl w
  unfold qw_L_law_2083 at w
  refine ql_aload_n (r := rl1) C dL_law_2083 rfl (lv_at hl 1 rfl) ?_
  refine ql_aload_n (r := (some a0)) C dL_law_2084 rfl (lv_at hl 0 rfl) ?_
  refine lv_iload C.1.1 C.1.2.1 dL_law_2085 (lv_at hl 5 rfl) ?_
  refine lv_iconst (v := (1 : Int32)) C.1.1 C.1.2.1 dL_law_2087 (by decide) ?_
  refine lv_iadd C.1.1 C.1.2.1 dL_law_2088 ?_
  refine ql_sld C S hX w.1 dL_law_2089 ?_
  replace w := w.2
  refine ql_aload_n (r := (some a0)) C dL_law_2090 rfl (lv_at hl 0 rfl) ?_
  refine lv_iload C.1.1 C.1.2.1 dL_law_2091 (lv_at hl 5 rfl) ?_
  refine lv_iconst (v := (2 : Int32)) C.1.1 C.1.2.1 dL_law_2093 (by decide) ?_
  refine lv_iadd C.1.1 C.1.2.1 dL_law_2094 ?_
  refine ql_sld C S hX w.1 dL_law_2095 ?_
  replace w := w.2
  refine ql_aload_n (r := rl3) C dL_law_2096 rfl (lv_at hl 3 rfl) ?_
  refine ql_SHI (As := [va_rf rl1, .int (xs9 (xl5 + (1 : Int32)).toNatClampNeg), .int (xs9 (xl5 + (2 : Int32)).toNatClampNeg), va_rf rl3]) (rest := []) C S hl qyh_L_citesIndirectly gw_1116 (qm_L_citesIndirectly l hl9 D _ rl1 (xs9 (xl5 + (1 : Int32)).toNatClampNeg) (xs9 (xl5 + (2 : Int32)).toNatClampNeg) rl3 _ _ w) rfl ⟨Nat.le_of_ble_eq_true rfl, Nat.le_of_ble_eq_true rfl⟩ ⟨rfl, rfl⟩ (by exact Nat.le_of_ble_eq_true rfl) rfl dL_law_2097 ⟨(by show _ ≤ (603072 : Nat); omega), (by show _ ≤ (7190633 : Nat); omega)⟩ (fun x185 h H locs S w => ?_)
  refine W.cs (cells' := (1034 + (513 - (n + 1)) * 21)) (slots' := (15212 + (513 - (n + 1)) * 5126)) (by omega) (by omega) ?_
  refine lv_istore (lv' := [(6, .int x185), (0, .ref a0), (1, va_rf rl1), (2, va_rf rl2), (3, va_rf rl3), (4, va_rf rl4), (5, .int xl5)]) C.1.1 C.1.2.1 dL_law_2100 hl (by decide) rfl (fun ls hl => ?_)
  refine ql_aload_n (r := rl2) C dL_law_2102 rfl (lv_at hl 3 rfl) ?_
  refine ql_aload_n (r := (some a0)) C dL_law_2103 rfl (lv_at hl 1 rfl) ?_
  refine lv_iload C.1.1 C.1.2.1 dL_law_2104 (lv_at hl 6 rfl) ?_
  refine lv_iconst (v := (1 : Int32)) C.1.1 C.1.2.1 dL_law_2106 (by decide) ?_
  refine lv_iadd C.1.1 C.1.2.1 dL_law_2107 ?_
  refine ql_sld C S hX w.1 dL_law_2108 ?_
  replace w := w.2
  refine ql_aload_n (r := (some a0)) C dL_law_2109 rfl (lv_at hl 1 rfl) ?_
  refine lv_iload C.1.1 C.1.2.1 dL_law_2110 (lv_at hl 6 rfl) ?_
  refine lv_iconst (v := (2 : Int32)) C.1.1 C.1.2.1 dL_law_2112 (by decide) ?_
  refine lv_iadd C.1.1 C.1.2.1 dL_law_2113 ?_
  refine ql_sld C S hX w.1 dL_law_2114 ?_
  replace w := w.2
  refine ql_VI (As := [.int (xs9 (xl5 + (1 : Int32)).toNatClampNeg), .int (xs9 (xl5 + (2 : Int32)).toNatClampNeg)]) (rest := []) C S htab hlocks hl qy_X12_citesIndirectly qi_X12_citesIndirectly qs_X12_citesIndirectly gw_1979 (ci := 13) rfl w (fun b w => qm_X12_citesIndirectly l hl9 D _ b (xs9 (xl5 + (1 : Int32)).toNatClampNeg) (xs9 (xl5 + (2 : Int32)).toNatClampNeg) _ _ w) rfl ⟨Nat.le_of_ble_eq_true rfl, Nat.le_of_ble_eq_true rfl⟩ ⟨rfl, rfl⟩ (by exact Nat.le_of_ble_eq_true rfl) (fun b e9 => by cases e9; rfl) dL_law_2115 ⟨(by show _ ≤ (603072 : Nat); omega), (by show _ ≤ (7190633 : Nat); omega)⟩ ⟨(by show _ ≤ (603072 : Nat); omega), (by show _ ≤ (7190633 : Nat); omega)⟩ (fun x186 h H locs S w => ?_)
  refine W.cs (cells' := (1034 + (513 - (n + 1)) * 21)) (slots' := (15212 + (513 - (n + 1)) * 5126)) (by omega) (by omega) ?_
  refine lv_istore (lv' := [(7, .int x186), (6, .int x185), (0, .ref a0), (1, va_rf rl1), (2, va_rf rl2), (3, va_rf rl3), (4, va_rf rl4), (5, .int xl5)]) C.1.1 C.1.2.1 dL_law_2118 hl (by decide) rfl (fun ls hl => ?_)
  refine ql_aload_n (r := rl2) C dL_law_2120 rfl (lv_at hl 4 rfl) ?_
  refine ql_VI (As := []) (rest := []) C S htab hlocks hl qy_X12_thrown qi_X12_thrown qs_X12_thrown gw_1727 (ci := 13) rfl w (fun b w => qm_X12_thrown l hl9 D _ b _ _ w) rfl ⟨Nat.le_of_ble_eq_true rfl, Nat.le_of_ble_eq_true rfl⟩ ⟨rfl, rfl⟩ (by exact Nat.le_of_ble_eq_true rfl) (fun b e9 => by cases e9; rfl) dL_law_2121 ⟨(by show _ ≤ (603072 : Nat); omega), (by show _ ≤ (7190633 : Nat); omega)⟩ ⟨(by show _ ≤ (603072 : Nat); omega), (by show _ ≤ (7190633 : Nat); omega)⟩ (fun x188 h H locs S w => ?_)
  refine W.cs (cells' := (1034 + (513 - (n + 1)) * 21)) (slots' := (15212 + (513 - (n + 1)) * 5126)) (by omega) (by omega) ?_
  refine lv_iload C.1.1 C.1.2.1 dL_law_2124 (lv_at hl 1 rfl) ?_
  refine lv_icmp_eq (tgt := 2131) C.1.1 C.1.2.1 dL_law_2126 (by decide) (fun c9 => ?_) (fun c9 => ?_)
  · replace w := ql_if w c9
    refine lv_iload C.1.1 C.1.2.1 dL_law_2131 (lv_at hl 1 rfl) ?_
    refine lv_if_ne (tgt := 2155) C.1.1 C.1.2.1 dL_law_2133 (by decide) (fun c9 => ?_) (fun c9 => ?_)
    · replace w := ql_ifn w c9
      exact (qm_L_law_2155 l hl9 D h0 L9 xs9 a0 Q X p e s m below meth c C hr hlocks htab hX) n hn9 k28 hk28 rl1 rl2 rl3 rl4 xl5 _ _ _ _ S (lv_sub hl [2, 3, 4, 5, 6, 7] rfl) w
    · replace w := ql_if w c9
      refine ql_aload_n (r := rl3) C dL_law_2136 rfl (lv_at hl 5 rfl) ?_
      refine lv_iconst (v := (0 : Int32)) C.1.1 C.1.2.1 dL_law_2137 (by decide) ?_
      refine ql_lald C S dL_law_2138 w (fun j190 w => ?_)
      refine lv_iload C.1.1 C.1.2.1 dL_law_2139 (lv_at hl 0 rfl) ?_
      refine lv_if_eq (tgt := 2148) C.1.1 C.1.2.1 dL_law_2141 (by decide) (fun c9 => ?_) (fun c9 => ?_)
      · replace w := ql_if w c9
        refine lv_lconst (v := (0 : Int64)) C.1.1 C.1.2.1 dL_law_2148 (by decide) ?_
        exact (qm_L_law_2149 l hl9 D h0 L9 xs9 a0 Q X p e s m below meth c C hr hlocks htab hX) n hn9 k28 hk28 rl1 rl2 rl3 rl4 xl5 j190 (0 : Int64) _ _ _ _ S (lv_sub hl [2, 3, 4, 5, 6, 7] rfl) w
      · replace w := ql_ifn w c9
        refine lv_lconst (v := (1 : Int64)) C.1.1 C.1.2.1 dL_law_2144 (by decide) ?_
        refine lv_goto (tgt := 2149) C.1.1 C.1.2.1 dL_law_2145 (by decide) ?_
        exact (qm_L_law_2149 l hl9 D h0 L9 xs9 a0 Q X p e s m below meth c C hr hlocks htab hX) n hn9 k28 hk28 rl1 rl2 rl3 rl4 xl5 j190 (1 : Int64) _ _ _ _ S (lv_sub hl [2, 3, 4, 5, 6, 7] rfl) w
  · replace w := ql_ifn w c9
    refine lv_iconst (v := (0 : Int32)) C.1.1 C.1.2.1 dL_law_2129 (by decide) ?_
    exact ql_zret C S hr hlocks dL_law_2130 ⟨(by show _ ≤ (603072 : Nat); omega), (by show _ ≤ (7190633 : Nat); omega)⟩ w
set_option maxHeartbeats 4000000 in
set_option maxRecDepth 100000 in
theorem qm_L_law_2230 (l : Launch) (hl9 : l.stackTraces = false) (D : ql_D) (h0 : ql_H) (L9 : Nat) (xs9 : Nat → Int32) (a0 : Nat) (Q : Int32 → ql_H → Prop) (X : String → ql_H → Prop) (p : Program) (e : Env) (s : State) (m : MethodId) (below : List Frame) (meth : Method) (c : Code) (C : ql_C D h0 p m c cL_law 9 s [.ref a0].toArray "ClauseLedgerLaw") (hr : meth.sig.returnType = some .boolean) (hlocks : meth.locks = false) (htab : ∀ x ∈ c.exceptionTable.toList, False) (hX : va_X a0 L9 xs9 s s.heap ∧ a0 < s.heap.size ∧ ¬ ql_A h0 a0) : ∀ n : Nat, n + 1 ≤ 513 → ∀ (k28 : Option Nat → Option Nat → Option Nat → Option Nat → Int32 → ql_H → Prop) (hk28 : ∀ (rl1 : Option Nat) (rl2 : Option Nat) (rl3 : Option Nat) (rl4 : Option Nat) (xl5 : Int32) (h : ql_H) (H : Heap) (locs : List Loc) (ls : Array Slot), ql_S D h0 s H locs h → lv_has ls 9 [(0, .ref a0), (1, va_rf rl1), (2, va_rf rl2), (3, va_rf rl3), (4, va_rf rl4), (5, .int xl5)] → k28 rl1 rl2 rl3 rl4 xl5 h → W p l e ({ frames := 2048, cells := 603072, slots := 7190633, locals := 94400 } : Room) s m ([.ref a0] : List Value).toArray below meth c H locs (1032 + (513 - n) * 21) (15200 + (513 - n) * 5126) (vx_MQ below (ql_Q D h0 (ql_rI Q)) (ql_X D h0 X) ([.ref a0] : List Value).toArray s 603072 7190633 (ql_A h0)) (F0 m 28 ls [])) , ∀ (rl1 : Option Nat) (rl2 : Option Nat) (rl3 : Option Nat) (rl4 : Option Nat) (xl5 : Int32) (h : ql_H) (H : Heap) (locs : List Loc) (ls : Array Slot), ql_S D h0 s H locs h → lv_has ls 9 [(0, .ref a0), (1, va_rf rl1), (2, va_rf rl2), (3, va_rf rl3), (4, va_rf rl4), (5, .int xl5)] → qw_L_law_2230 D.2 L9 xs9 a0 Q X k28 rl1 rl2 rl3 rl4 xl5 h → W p l e ({ frames := 2048, cells := 603072, slots := 7190633, locals := 94400 } : Room) s m ([.ref a0] : List Value).toArray below meth c H locs (1034 + (513 - (n + 1)) * 21) (15212 + (513 - (n + 1)) * 5126) (vx_MQ below (ql_Q D h0 (ql_rI Q)) (ql_X D h0 X) ([.ref a0] : List Value).toArray s 603072 7190633 (ql_A h0)) (F0 m 2230 ls []) := by
  intro n hn9 k28 hk28 rl1 rl2 rl3 rl4 xl5 h H locs ls S hl w
  unfold qw_L_law_2230 at w
  refine lv_goto (tgt := 2957) C.1.1 C.1.2.1 dL_law_2230 (by decide) ?_
  refine W.widen (k := (1053 + (513 - (n + 1)) * 21)) (n := (20326 + (513 - (n + 1)) * 5126)) (by omega) (by omega) ?_
  exact (qm_L_law_2957 l hl9 D h0 L9 xs9 a0 Q X p e s m below meth c C hr hlocks htab hX) n hn9 k28 hk28 rl1 rl2 rl3 rl4 xl5 _ _ _ _ S (lv_sub hl [0, 1, 2, 3, 4, 5] rfl) w
set_option maxHeartbeats 4000000 in
set_option maxRecDepth 100000 in
theorem qm_L_law_2224 (l : Launch) (hl9 : l.stackTraces = false) (D : ql_D) (h0 : ql_H) (L9 : Nat) (xs9 : Nat → Int32) (a0 : Nat) (Q : Int32 → ql_H → Prop) (X : String → ql_H → Prop) (p : Program) (e : Env) (s : State) (m : MethodId) (below : List Frame) (meth : Method) (c : Code) (C : ql_C D h0 p m c cL_law 9 s [.ref a0].toArray "ClauseLedgerLaw") (hr : meth.sig.returnType = some .boolean) (hlocks : meth.locks = false) (htab : ∀ x ∈ c.exceptionTable.toList, False) (hX : va_X a0 L9 xs9 s s.heap ∧ a0 < s.heap.size ∧ ¬ ql_A h0 a0) : ∀ n : Nat, n + 1 ≤ 513 → ∀ (k28 : Option Nat → Option Nat → Option Nat → Option Nat → Int32 → ql_H → Prop) (hk28 : ∀ (rl1 : Option Nat) (rl2 : Option Nat) (rl3 : Option Nat) (rl4 : Option Nat) (xl5 : Int32) (h : ql_H) (H : Heap) (locs : List Loc) (ls : Array Slot), ql_S D h0 s H locs h → lv_has ls 9 [(0, .ref a0), (1, va_rf rl1), (2, va_rf rl2), (3, va_rf rl3), (4, va_rf rl4), (5, .int xl5)] → k28 rl1 rl2 rl3 rl4 xl5 h → W p l e ({ frames := 2048, cells := 603072, slots := 7190633, locals := 94400 } : Room) s m ([.ref a0] : List Value).toArray below meth c H locs (1032 + (513 - n) * 21) (15200 + (513 - n) * 5126) (vx_MQ below (ql_Q D h0 (ql_rI Q)) (ql_X D h0 X) ([.ref a0] : List Value).toArray s 603072 7190633 (ql_A h0)) (F0 m 28 ls [])) , ∀ (rl1 : Option Nat) (rl2 : Option Nat) (rl3 : Option Nat) (rl4 : Option Nat) (xl5 : Int32) (js0 : Int64) (js1 : Int64) (h : ql_H) (H : Heap) (locs : List Loc) (ls : Array Slot), ql_S D h0 s H locs h → lv_has ls 9 [(0, .ref a0), (1, va_rf rl1), (2, va_rf rl2), (3, va_rf rl3), (4, va_rf rl4), (5, .int xl5)] → qw_L_law_2224 D.2 L9 xs9 a0 Q X k28 rl1 rl2 rl3 rl4 xl5 js0 js1 h → W p l e ({ frames := 2048, cells := 603072, slots := 7190633, locals := 94400 } : Room) s m ([.ref a0] : List Value).toArray below meth c H locs (1034 + (513 - (n + 1)) * 21) (15212 + (513 - (n + 1)) * 5126) (vx_MQ below (ql_Q D h0 (ql_rI Q)) (ql_X D h0 X) ([.ref a0] : List Value).toArray s 603072 7190633 (ql_A h0)) (F0 m 2224 ls [.long js1, .long js0]) := by
  intro n hn9 k28 hk28 rl1 rl2 rl3 rl4 xl5 js0 js1 h H locs ls S hl w
  unfold qw_L_law_2224 at w
  refine W.lcmp C.1.1 C.1.2.1 dL_law_2224 ?_
  refine lv_if_eq (tgt := 2230) C.1.1 C.1.2.1 dL_law_2225 (by decide) (fun c9 => ?_) (fun c9 => ?_)
  · replace w := ql_if w c9
    exact (qm_L_law_2230 l hl9 D h0 L9 xs9 a0 Q X p e s m below meth c C hr hlocks htab hX) n hn9 k28 hk28 rl1 rl2 rl3 rl4 xl5 _ _ _ _ S (lv_sub hl [0, 1, 2, 3, 4, 5] rfl) w
  · replace w := ql_ifn w c9
    refine lv_iconst (v := (0 : Int32)) C.1.1 C.1.2.1 dL_law_2228 (by decide) ?_
    exact ql_zret C S hr hlocks dL_law_2229 ⟨(by show _ ≤ (603072 : Nat); omega), (by show _ ≤ (7190633 : Nat); omega)⟩ w
set_option maxHeartbeats 4000000 in
set_option maxRecDepth 100000 in
theorem qm_L_law_2158 (l : Launch) (hl9 : l.stackTraces = false) (D : ql_D) (h0 : ql_H) (L9 : Nat) (xs9 : Nat → Int32) (a0 : Nat) (Q : Int32 → ql_H → Prop) (X : String → ql_H → Prop) (p : Program) (e : Env) (s : State) (m : MethodId) (below : List Frame) (meth : Method) (c : Code) (C : ql_C D h0 p m c cL_law 9 s [.ref a0].toArray "ClauseLedgerLaw") (hr : meth.sig.returnType = some .boolean) (hlocks : meth.locks = false) (htab : ∀ x ∈ c.exceptionTable.toList, False) (hX : va_X a0 L9 xs9 s s.heap ∧ a0 < s.heap.size ∧ ¬ ql_A h0 a0) : ∀ n : Nat, n + 1 ≤ 513 → ∀ (k28 : Option Nat → Option Nat → Option Nat → Option Nat → Int32 → ql_H → Prop) (hk28 : ∀ (rl1 : Option Nat) (rl2 : Option Nat) (rl3 : Option Nat) (rl4 : Option Nat) (xl5 : Int32) (h : ql_H) (H : Heap) (locs : List Loc) (ls : Array Slot), ql_S D h0 s H locs h → lv_has ls 9 [(0, .ref a0), (1, va_rf rl1), (2, va_rf rl2), (3, va_rf rl3), (4, va_rf rl4), (5, .int xl5)] → k28 rl1 rl2 rl3 rl4 xl5 h → W p l e ({ frames := 2048, cells := 603072, slots := 7190633, locals := 94400 } : Room) s m ([.ref a0] : List Value).toArray below meth c H locs (1032 + (513 - n) * 21) (15200 + (513 - n) * 5126) (vx_MQ below (ql_Q D h0 (ql_rI Q)) (ql_X D h0 X) ([.ref a0] : List Value).toArray s 603072 7190633 (ql_A h0)) (F0 m 28 ls [])) , ∀ (rl1 : Option Nat) (rl2 : Option Nat) (rl3 : Option Nat) (rl4 : Option Nat) (xl5 : Int32) (h : ql_H) (H : Heap) (locs : List Loc) (ls : Array Slot), ql_S D h0 s H locs h → lv_has ls 9 [(0, .ref a0), (1, va_rf rl1), (2, va_rf rl2), (3, va_rf rl3), (4, va_rf rl4), (5, .int xl5)] → qw_L_law_2158 D.2 L9 xs9 a0 Q X k28 rl1 rl2 rl3 rl4 xl5 h → W p l e ({ frames := 2048, cells := 603072, slots := 7190633, locals := 94400 } : Room) s m ([.ref a0] : List Value).toArray below meth c H locs (1032 + (513 - (n + 1)) * 21) (15200 + (513 - (n + 1)) * 5126) (vx_MQ below (ql_Q D h0 (ql_rI Q)) (ql_X D h0 X) ([.ref a0] : List Value).toArray s 603072 7190633 (ql_A h0)) (F0 m 2158 ls []) := by
  intro n hn9 k28 hk28 rl1 rl2 rl3 rl4 xl5 h H locs ls S hl w
  unfold qw_L_law_2158 at w
  refine ql_aload_n (r := rl1) C dL_law_2158 rfl (lv_at hl 1 rfl) ?_
  refine ql_aload_n (r := (some a0)) C dL_law_2159 rfl (lv_at hl 0 rfl) ?_
  refine lv_iload C.1.1 C.1.2.1 dL_law_2160 (lv_at hl 5 rfl) ?_
  refine lv_iconst (v := (1 : Int32)) C.1.1 C.1.2.1 dL_law_2162 (by decide) ?_
  refine lv_iadd C.1.1 C.1.2.1 dL_law_2163 ?_
  refine ql_sld C S hX w.1 dL_law_2164 ?_
  replace w := w.2
  refine ql_aload_n (r := (some a0)) C dL_law_2165 rfl (lv_at hl 0 rfl) ?_
  refine lv_iload C.1.1 C.1.2.1 dL_law_2166 (lv_at hl 5 rfl) ?_
  refine lv_iconst (v := (2 : Int32)) C.1.1 C.1.2.1 dL_law_2168 (by decide) ?_
  refine lv_iadd C.1.1 C.1.2.1 dL_law_2169 ?_
  refine ql_sld C S hX w.1 dL_law_2170 ?_
  replace w := w.2
  refine ql_aload_n (r := rl3) C dL_law_2171 rfl (lv_at hl 3 rfl) ?_
  refine ql_SHI (As := [va_rf rl1, .int (xs9 (xl5 + (1 : Int32)).toNatClampNeg), .int (xs9 (xl5 + (2 : Int32)).toNatClampNeg), va_rf rl3]) (rest := []) C S hl qyh_L_citesByClosure gw_1129 (qm_L_citesByClosure l hl9 D _ rl1 (xs9 (xl5 + (1 : Int32)).toNatClampNeg) (xs9 (xl5 + (2 : Int32)).toNatClampNeg) rl3 _ _ w) rfl ⟨Nat.le_of_ble_eq_true rfl, Nat.le_of_ble_eq_true rfl⟩ ⟨rfl, rfl⟩ (by exact Nat.le_of_ble_eq_true rfl) rfl dL_law_2172 ⟨(by show _ ≤ (603072 : Nat); omega), (by show _ ≤ (7190633 : Nat); omega)⟩ (fun x191 h H locs S w => ?_)
  refine W.cs (cells' := (1034 + (513 - (n + 1)) * 21)) (slots' := (15212 + (513 - (n + 1)) * 5126)) (by omega) (by omega) ?_
  refine lv_istore (lv' := [(6, .int x191), (0, .ref a0), (1, va_rf rl1), (2, va_rf rl2), (3, va_rf rl3), (4, va_rf rl4), (5, .int xl5)]) C.1.1 C.1.2.1 dL_law_2175 hl (by decide) rfl (fun ls hl => ?_)
  refine ql_aload_n (r := rl2) C dL_law_2177 rfl (lv_at hl 3 rfl) ?_
  refine ql_aload_n (r := (some a0)) C dL_law_2178 rfl (lv_at hl 1 rfl) ?_
  refine lv_iload C.1.1 C.1.2.1 dL_law_2179 (lv_at hl 6 rfl) ?_
  refine lv_iconst (v := (1 : Int32)) C.1.1 C.1.2.1 dL_law_2181 (by decide) ?_
  refine lv_iadd C.1.1 C.1.2.1 dL_law_2182 ?_
  refine ql_sld C S hX w.1 dL_law_2183 ?_
  replace w := w.2
  refine ql_aload_n (r := (some a0)) C dL_law_2184 rfl (lv_at hl 1 rfl) ?_
  refine lv_iload C.1.1 C.1.2.1 dL_law_2185 (lv_at hl 6 rfl) ?_
  refine lv_iconst (v := (2 : Int32)) C.1.1 C.1.2.1 dL_law_2187 (by decide) ?_
  refine lv_iadd C.1.1 C.1.2.1 dL_law_2188 ?_
  refine ql_sld C S hX w.1 dL_law_2189 ?_
  replace w := w.2
  refine ql_VI (As := [.int (xs9 (xl5 + (1 : Int32)).toNatClampNeg), .int (xs9 (xl5 + (2 : Int32)).toNatClampNeg)]) (rest := []) C S htab hlocks hl qy_X12_citesByClosure qi_X12_citesByClosure qs_X12_citesByClosure gw_1995 (ci := 13) rfl w (fun b w => qm_X12_citesByClosure l hl9 D _ b (xs9 (xl5 + (1 : Int32)).toNatClampNeg) (xs9 (xl5 + (2 : Int32)).toNatClampNeg) _ _ w) rfl ⟨Nat.le_of_ble_eq_true rfl, Nat.le_of_ble_eq_true rfl⟩ ⟨rfl, rfl⟩ (by exact Nat.le_of_ble_eq_true rfl) (fun b e9 => by cases e9; rfl) dL_law_2190 ⟨(by show _ ≤ (603072 : Nat); omega), (by show _ ≤ (7190633 : Nat); omega)⟩ ⟨(by show _ ≤ (603072 : Nat); omega), (by show _ ≤ (7190633 : Nat); omega)⟩ (fun x192 h H locs S w => ?_)
  refine W.cs (cells' := (1034 + (513 - (n + 1)) * 21)) (slots' := (15212 + (513 - (n + 1)) * 5126)) (by omega) (by omega) ?_
  refine lv_istore (lv' := [(7, .int x192), (6, .int x191), (0, .ref a0), (1, va_rf rl1), (2, va_rf rl2), (3, va_rf rl3), (4, va_rf rl4), (5, .int xl5)]) C.1.1 C.1.2.1 dL_law_2193 hl (by decide) rfl (fun ls hl => ?_)
  refine ql_aload_n (r := rl2) C dL_law_2195 rfl (lv_at hl 4 rfl) ?_
  refine ql_VI (As := []) (rest := []) C S htab hlocks hl qy_X12_thrown qi_X12_thrown qs_X12_thrown gw_1727 (ci := 13) rfl w (fun b w => qm_X12_thrown l hl9 D _ b _ _ w) rfl ⟨Nat.le_of_ble_eq_true rfl, Nat.le_of_ble_eq_true rfl⟩ ⟨rfl, rfl⟩ (by exact Nat.le_of_ble_eq_true rfl) (fun b e9 => by cases e9; rfl) dL_law_2196 ⟨(by show _ ≤ (603072 : Nat); omega), (by show _ ≤ (7190633 : Nat); omega)⟩ ⟨(by show _ ≤ (603072 : Nat); omega), (by show _ ≤ (7190633 : Nat); omega)⟩ (fun x194 h H locs S w => ?_)
  refine W.cs (cells' := (1034 + (513 - (n + 1)) * 21)) (slots' := (15212 + (513 - (n + 1)) * 5126)) (by omega) (by omega) ?_
  refine lv_iload C.1.1 C.1.2.1 dL_law_2199 (lv_at hl 1 rfl) ?_
  refine lv_icmp_eq (tgt := 2206) C.1.1 C.1.2.1 dL_law_2201 (by decide) (fun c9 => ?_) (fun c9 => ?_)
  · replace w := ql_if w c9
    refine lv_iload C.1.1 C.1.2.1 dL_law_2206 (lv_at hl 1 rfl) ?_
    refine lv_if_ne (tgt := 2230) C.1.1 C.1.2.1 dL_law_2208 (by decide) (fun c9 => ?_) (fun c9 => ?_)
    · replace w := ql_ifn w c9
      exact (qm_L_law_2230 l hl9 D h0 L9 xs9 a0 Q X p e s m below meth c C hr hlocks htab hX) n hn9 k28 hk28 rl1 rl2 rl3 rl4 xl5 _ _ _ _ S (lv_sub hl [2, 3, 4, 5, 6, 7] rfl) w
    · replace w := ql_if w c9
      refine ql_aload_n (r := rl3) C dL_law_2211 rfl (lv_at hl 5 rfl) ?_
      refine lv_iconst (v := (0 : Int32)) C.1.1 C.1.2.1 dL_law_2212 (by decide) ?_
      refine ql_lald C S dL_law_2213 w (fun j196 w => ?_)
      refine lv_iload C.1.1 C.1.2.1 dL_law_2214 (lv_at hl 0 rfl) ?_
      refine lv_if_eq (tgt := 2223) C.1.1 C.1.2.1 dL_law_2216 (by decide) (fun c9 => ?_) (fun c9 => ?_)
      · replace w := ql_if w c9
        refine lv_lconst (v := (0 : Int64)) C.1.1 C.1.2.1 dL_law_2223 (by decide) ?_
        exact (qm_L_law_2224 l hl9 D h0 L9 xs9 a0 Q X p e s m below meth c C hr hlocks htab hX) n hn9 k28 hk28 rl1 rl2 rl3 rl4 xl5 j196 (0 : Int64) _ _ _ _ S (lv_sub hl [2, 3, 4, 5, 6, 7] rfl) w
      · replace w := ql_ifn w c9
        refine lv_lconst (v := (1 : Int64)) C.1.1 C.1.2.1 dL_law_2219 (by decide) ?_
        refine lv_goto (tgt := 2224) C.1.1 C.1.2.1 dL_law_2220 (by decide) ?_
        exact (qm_L_law_2224 l hl9 D h0 L9 xs9 a0 Q X p e s m below meth c C hr hlocks htab hX) n hn9 k28 hk28 rl1 rl2 rl3 rl4 xl5 j196 (1 : Int64) _ _ _ _ S (lv_sub hl [2, 3, 4, 5, 6, 7] rfl) w
  · replace w := ql_ifn w c9
    refine lv_iconst (v := (0 : Int32)) C.1.1 C.1.2.1 dL_law_2204 (by decide) ?_
    exact ql_zret C S hr hlocks dL_law_2205 ⟨(by show _ ≤ (603072 : Nat); omega), (by show _ ≤ (7190633 : Nat); omega)⟩ w
set_option maxHeartbeats 4000000 in
set_option maxRecDepth 100000 in
theorem qm_L_law_2286 (l : Launch) (hl9 : l.stackTraces = false) (D : ql_D) (h0 : ql_H) (L9 : Nat) (xs9 : Nat → Int32) (a0 : Nat) (Q : Int32 → ql_H → Prop) (X : String → ql_H → Prop) (p : Program) (e : Env) (s : State) (m : MethodId) (below : List Frame) (meth : Method) (c : Code) (C : ql_C D h0 p m c cL_law 9 s [.ref a0].toArray "ClauseLedgerLaw") (hr : meth.sig.returnType = some .boolean) (hlocks : meth.locks = false) (htab : ∀ x ∈ c.exceptionTable.toList, False) (hX : va_X a0 L9 xs9 s s.heap ∧ a0 < s.heap.size ∧ ¬ ql_A h0 a0) : ∀ n : Nat, n + 1 ≤ 513 → ∀ (k28 : Option Nat → Option Nat → Option Nat → Option Nat → Int32 → ql_H → Prop) (hk28 : ∀ (rl1 : Option Nat) (rl2 : Option Nat) (rl3 : Option Nat) (rl4 : Option Nat) (xl5 : Int32) (h : ql_H) (H : Heap) (locs : List Loc) (ls : Array Slot), ql_S D h0 s H locs h → lv_has ls 9 [(0, .ref a0), (1, va_rf rl1), (2, va_rf rl2), (3, va_rf rl3), (4, va_rf rl4), (5, .int xl5)] → k28 rl1 rl2 rl3 rl4 xl5 h → W p l e ({ frames := 2048, cells := 603072, slots := 7190633, locals := 94400 } : Room) s m ([.ref a0] : List Value).toArray below meth c H locs (1032 + (513 - n) * 21) (15200 + (513 - n) * 5126) (vx_MQ below (ql_Q D h0 (ql_rI Q)) (ql_X D h0 X) ([.ref a0] : List Value).toArray s 603072 7190633 (ql_A h0)) (F0 m 28 ls [])) , ∀ (rl1 : Option Nat) (rl2 : Option Nat) (rl3 : Option Nat) (rl4 : Option Nat) (xl5 : Int32) (h : ql_H) (H : Heap) (locs : List Loc) (ls : Array Slot), ql_S D h0 s H locs h → lv_has ls 9 [(0, .ref a0), (1, va_rf rl1), (2, va_rf rl2), (3, va_rf rl3), (4, va_rf rl4), (5, .int xl5)] → qw_L_law_2286 D.2 L9 xs9 a0 Q X k28 rl1 rl2 rl3 rl4 xl5 h → W p l e ({ frames := 2048, cells := 603072, slots := 7190633, locals := 94400 } : Room) s m ([.ref a0] : List Value).toArray below meth c H locs (1033 + (513 - (n + 1)) * 21) (15206 + (513 - (n + 1)) * 5126) (vx_MQ below (ql_Q D h0 (ql_rI Q)) (ql_X D h0 X) ([.ref a0] : List Value).toArray s 603072 7190633 (ql_A h0)) (F0 m 2286 ls []) := by
  intro n hn9 k28 hk28 rl1 rl2 rl3 rl4 xl5 h H locs ls S hl w
  unfold qw_L_law_2286 at w
  refine lv_goto (tgt := 2957) C.1.1 C.1.2.1 dL_law_2286 (by decide) ?_
  refine W.widen (k := (1053 + (513 - (n + 1)) * 21)) (n := (20326 + (513 - (n + 1)) * 5126)) (by omega) (by omega) ?_
  exact (qm_L_law_2957 l hl9 D h0 L9 xs9 a0 Q X p e s m below meth c C hr hlocks htab hX) n hn9 k28 hk28 rl1 rl2 rl3 rl4 xl5 _ _ _ _ S (lv_sub hl [0, 1, 2, 3, 4, 5] rfl) w
set_option maxHeartbeats 4000000 in
set_option maxRecDepth 100000 in
theorem qm_L_law_2233 (l : Launch) (hl9 : l.stackTraces = false) (D : ql_D) (h0 : ql_H) (L9 : Nat) (xs9 : Nat → Int32) (a0 : Nat) (Q : Int32 → ql_H → Prop) (X : String → ql_H → Prop) (p : Program) (e : Env) (s : State) (m : MethodId) (below : List Frame) (meth : Method) (c : Code) (C : ql_C D h0 p m c cL_law 9 s [.ref a0].toArray "ClauseLedgerLaw") (hr : meth.sig.returnType = some .boolean) (hlocks : meth.locks = false) (htab : ∀ x ∈ c.exceptionTable.toList, False) (hX : va_X a0 L9 xs9 s s.heap ∧ a0 < s.heap.size ∧ ¬ ql_A h0 a0) : ∀ n : Nat, n + 1 ≤ 513 → ∀ (k28 : Option Nat → Option Nat → Option Nat → Option Nat → Int32 → ql_H → Prop) (hk28 : ∀ (rl1 : Option Nat) (rl2 : Option Nat) (rl3 : Option Nat) (rl4 : Option Nat) (xl5 : Int32) (h : ql_H) (H : Heap) (locs : List Loc) (ls : Array Slot), ql_S D h0 s H locs h → lv_has ls 9 [(0, .ref a0), (1, va_rf rl1), (2, va_rf rl2), (3, va_rf rl3), (4, va_rf rl4), (5, .int xl5)] → k28 rl1 rl2 rl3 rl4 xl5 h → W p l e ({ frames := 2048, cells := 603072, slots := 7190633, locals := 94400 } : Room) s m ([.ref a0] : List Value).toArray below meth c H locs (1032 + (513 - n) * 21) (15200 + (513 - n) * 5126) (vx_MQ below (ql_Q D h0 (ql_rI Q)) (ql_X D h0 X) ([.ref a0] : List Value).toArray s 603072 7190633 (ql_A h0)) (F0 m 28 ls [])) , ∀ (rl1 : Option Nat) (rl2 : Option Nat) (rl3 : Option Nat) (rl4 : Option Nat) (xl5 : Int32) (h : ql_H) (H : Heap) (locs : List Loc) (ls : Array Slot), ql_S D h0 s H locs h → lv_has ls 9 [(0, .ref a0), (1, va_rf rl1), (2, va_rf rl2), (3, va_rf rl3), (4, va_rf rl4), (5, .int xl5)] → qw_L_law_2233 D.2 L9 xs9 a0 Q X k28 rl1 rl2 rl3 rl4 xl5 h → W p l e ({ frames := 2048, cells := 603072, slots := 7190633, locals := 94400 } : Room) s m ([.ref a0] : List Value).toArray below meth c H locs (1032 + (513 - (n + 1)) * 21) (15200 + (513 - (n + 1)) * 5126) (vx_MQ below (ql_Q D h0 (ql_rI Q)) (ql_X D h0 X) ([.ref a0] : List Value).toArray s 603072 7190633 (ql_A h0)) (F0 m 2233 ls []) := by
  intro n hn9 k28 hk28 rl1 rl2 rl3 rl4 xl5 h H locs ls S hl w
  unfold qw_L_law_2233 at w
  refine ql_aload_n (r := rl1) C dL_law_2233 rfl (lv_at hl 1 rfl) ?_
  refine ql_aload_n (r := (some a0)) C dL_law_2234 rfl (lv_at hl 0 rfl) ?_
  refine lv_iload C.1.1 C.1.2.1 dL_law_2235 (lv_at hl 5 rfl) ?_
  refine lv_iconst (v := (1 : Int32)) C.1.1 C.1.2.1 dL_law_2237 (by decide) ?_
  refine lv_iadd C.1.1 C.1.2.1 dL_law_2238 ?_
  refine ql_sld C S hX w.1 dL_law_2239 ?_
  replace w := w.2
  refine ql_aload_n (r := rl3) C dL_law_2240 rfl (lv_at hl 3 rfl) ?_
  refine ql_SHI (As := [va_rf rl1, .int (xs9 (xl5 + (1 : Int32)).toNatClampNeg), va_rf rl3]) (rest := []) C S hl qyh_L_clauseByCites gw_1136 (qm_L_clauseByCites l hl9 D _ rl1 (xs9 (xl5 + (1 : Int32)).toNatClampNeg) rl3 _ _ w) rfl ⟨Nat.le_of_ble_eq_true rfl, Nat.le_of_ble_eq_true rfl⟩ ⟨rfl, rfl⟩ (by exact Nat.le_of_ble_eq_true rfl) rfl dL_law_2241 ⟨(by show _ ≤ (603072 : Nat); omega), (by show _ ≤ (7190633 : Nat); omega)⟩ (fun x197 h H locs S w => ?_)
  refine W.cs (cells' := (1033 + (513 - (n + 1)) * 21)) (slots' := (15206 + (513 - (n + 1)) * 5126)) (by omega) (by omega) ?_
  refine lv_istore (lv' := [(6, .int x197), (0, .ref a0), (1, va_rf rl1), (2, va_rf rl2), (3, va_rf rl3), (4, va_rf rl4), (5, .int xl5)]) C.1.1 C.1.2.1 dL_law_2244 hl (by decide) rfl (fun ls hl => ?_)
  refine ql_aload_n (r := rl2) C dL_law_2246 rfl (lv_at hl 3 rfl) ?_
  refine ql_aload_n (r := (some a0)) C dL_law_2247 rfl (lv_at hl 1 rfl) ?_
  refine lv_iload C.1.1 C.1.2.1 dL_law_2248 (lv_at hl 6 rfl) ?_
  refine lv_iconst (v := (1 : Int32)) C.1.1 C.1.2.1 dL_law_2250 (by decide) ?_
  refine lv_iadd C.1.1 C.1.2.1 dL_law_2251 ?_
  refine ql_sld C S hX w.1 dL_law_2252 ?_
  replace w := w.2
  refine ql_VI (As := [.int (xs9 (xl5 + (1 : Int32)).toNatClampNeg)]) (rest := []) C S htab hlocks hl qy_X12_clauseByCites qi_X12_clauseByCites qs_X12_clauseByCites gw_1999 (ci := 13) rfl w (fun b w => qm_X12_clauseByCites l hl9 D _ b (xs9 (xl5 + (1 : Int32)).toNatClampNeg) _ _ w) rfl ⟨Nat.le_of_ble_eq_true rfl, Nat.le_of_ble_eq_true rfl⟩ ⟨rfl, rfl⟩ (by exact Nat.le_of_ble_eq_true rfl) (fun b e9 => by cases e9; rfl) dL_law_2253 ⟨(by show _ ≤ (603072 : Nat); omega), (by show _ ≤ (7190633 : Nat); omega)⟩ ⟨(by show _ ≤ (603072 : Nat); omega), (by show _ ≤ (7190633 : Nat); omega)⟩ (fun x198 h H locs S w => ?_)
  refine W.cs (cells' := (1033 + (513 - (n + 1)) * 21)) (slots' := (15206 + (513 - (n + 1)) * 5126)) (by omega) (by omega) ?_
  refine lv_istore (lv' := [(7, .int x198), (6, .int x197), (0, .ref a0), (1, va_rf rl1), (2, va_rf rl2), (3, va_rf rl3), (4, va_rf rl4), (5, .int xl5)]) C.1.1 C.1.2.1 dL_law_2256 hl (by decide) rfl (fun ls hl => ?_)
  refine ql_aload_n (r := rl2) C dL_law_2258 rfl (lv_at hl 4 rfl) ?_
  refine ql_VI (As := []) (rest := []) C S htab hlocks hl qy_X12_thrown qi_X12_thrown qs_X12_thrown gw_1727 (ci := 13) rfl w (fun b w => qm_X12_thrown l hl9 D _ b _ _ w) rfl ⟨Nat.le_of_ble_eq_true rfl, Nat.le_of_ble_eq_true rfl⟩ ⟨rfl, rfl⟩ (by exact Nat.le_of_ble_eq_true rfl) (fun b e9 => by cases e9; rfl) dL_law_2259 ⟨(by show _ ≤ (603072 : Nat); omega), (by show _ ≤ (7190633 : Nat); omega)⟩ ⟨(by show _ ≤ (603072 : Nat); omega), (by show _ ≤ (7190633 : Nat); omega)⟩ (fun x200 h H locs S w => ?_)
  refine W.cs (cells' := (1033 + (513 - (n + 1)) * 21)) (slots' := (15206 + (513 - (n + 1)) * 5126)) (by omega) (by omega) ?_
  refine lv_iload C.1.1 C.1.2.1 dL_law_2262 (lv_at hl 1 rfl) ?_
  refine lv_icmp_eq (tgt := 2269) C.1.1 C.1.2.1 dL_law_2264 (by decide) (fun c9 => ?_) (fun c9 => ?_)
  · replace w := ql_if w c9
    refine lv_iload C.1.1 C.1.2.1 dL_law_2269 (lv_at hl 1 rfl) ?_
    refine lv_if_ne (tgt := 2286) C.1.1 C.1.2.1 dL_law_2271 (by decide) (fun c9 => ?_) (fun c9 => ?_)
    · replace w := ql_ifn w c9
      exact (qm_L_law_2286 l hl9 D h0 L9 xs9 a0 Q X p e s m below meth c C hr hlocks htab hX) n hn9 k28 hk28 rl1 rl2 rl3 rl4 xl5 _ _ _ _ S (lv_sub hl [2, 3, 4, 5, 6, 7] rfl) w
    · replace w := ql_if w c9
      refine ql_aload_n (r := rl3) C dL_law_2274 rfl (lv_at hl 5 rfl) ?_
      refine lv_iconst (v := (0 : Int32)) C.1.1 C.1.2.1 dL_law_2275 (by decide) ?_
      refine ql_lald C S dL_law_2276 w (fun j202 w => ?_)
      refine lv_iload C.1.1 C.1.2.1 dL_law_2277 (lv_at hl 0 rfl) ?_
      refine lv_i2l C.1.1 C.1.2.1 dL_law_2279 rfl ?_
      refine W.lcmp C.1.1 C.1.2.1 dL_law_2280 ?_
      refine lv_if_eq (tgt := 2286) C.1.1 C.1.2.1 dL_law_2281 (by decide) (fun c9 => ?_) (fun c9 => ?_)
      · replace w := ql_if w c9
        exact (qm_L_law_2286 l hl9 D h0 L9 xs9 a0 Q X p e s m below meth c C hr hlocks htab hX) n hn9 k28 hk28 rl1 rl2 rl3 rl4 xl5 _ _ _ _ S (lv_sub hl [2, 3, 4, 5, 6, 7] rfl) w
      · replace w := ql_ifn w c9
        refine lv_iconst (v := (0 : Int32)) C.1.1 C.1.2.1 dL_law_2284 (by decide) ?_
        exact ql_zret C S hr hlocks dL_law_2285 ⟨(by show _ ≤ (603072 : Nat); omega), (by show _ ≤ (7190633 : Nat); omega)⟩ w
  · replace w := ql_ifn w c9
    refine lv_iconst (v := (0 : Int32)) C.1.1 C.1.2.1 dL_law_2267 (by decide) ?_
    exact ql_zret C S hr hlocks dL_law_2268 ⟨(by show _ ≤ (603072 : Nat); omega), (by show _ ≤ (7190633 : Nat); omega)⟩ w
set_option maxHeartbeats 4000000 in
set_option maxRecDepth 100000 in
theorem qm_L_law_2289 (l : Launch) (hl9 : l.stackTraces = false) (D : ql_D) (h0 : ql_H) (L9 : Nat) (xs9 : Nat → Int32) (a0 : Nat) (Q : Int32 → ql_H → Prop) (X : String → ql_H → Prop) (p : Program) (e : Env) (s : State) (m : MethodId) (below : List Frame) (meth : Method) (c : Code) (C : ql_C D h0 p m c cL_law 9 s [.ref a0].toArray "ClauseLedgerLaw") (hr : meth.sig.returnType = some .boolean) (hlocks : meth.locks = false) (htab : ∀ x ∈ c.exceptionTable.toList, False) (hX : va_X a0 L9 xs9 s s.heap ∧ a0 < s.heap.size ∧ ¬ ql_A h0 a0) : ∀ n : Nat, n + 1 ≤ 513 → ∀ (k28 : Option Nat → Option Nat → Option Nat → Option Nat → Int32 → ql_H → Prop) (hk28 : ∀ (rl1 : Option Nat) (rl2 : Option Nat) (rl3 : Option Nat) (rl4 : Option Nat) (xl5 : Int32) (h : ql_H) (H : Heap) (locs : List Loc) (ls : Array Slot), ql_S D h0 s H locs h → lv_has ls 9 [(0, .ref a0), (1, va_rf rl1), (2, va_rf rl2), (3, va_rf rl3), (4, va_rf rl4), (5, .int xl5)] → k28 rl1 rl2 rl3 rl4 xl5 h → W p l e ({ frames := 2048, cells := 603072, slots := 7190633, locals := 94400 } : Room) s m ([.ref a0] : List Value).toArray below meth c H locs (1032 + (513 - n) * 21) (15200 + (513 - n) * 5126) (vx_MQ below (ql_Q D h0 (ql_rI Q)) (ql_X D h0 X) ([.ref a0] : List Value).toArray s 603072 7190633 (ql_A h0)) (F0 m 28 ls [])) , ∀ (rl1 : Option Nat) (rl2 : Option Nat) (rl3 : Option Nat) (rl4 : Option Nat) (xl5 : Int32) (h : ql_H) (H : Heap) (locs : List Loc) (ls : Array Slot), ql_S D h0 s H locs h → lv_has ls 9 [(0, .ref a0), (1, va_rf rl1), (2, va_rf rl2), (3, va_rf rl3), (4, va_rf rl4), (5, .int xl5)] → qw_L_law_2289 D.2 L9 xs9 a0 Q X k28 rl1 rl2 rl3 rl4 xl5 h → W p l e ({ frames := 2048, cells := 603072, slots := 7190633, locals := 94400 } : Room) s m ([.ref a0] : List Value).toArray below meth c H locs (1032 + (513 - (n + 1)) * 21) (15200 + (513 - (n + 1)) * 5126) (vx_MQ below (ql_Q D h0 (ql_rI Q)) (ql_X D h0 X) ([.ref a0] : List Value).toArray s 603072 7190633 (ql_A h0)) (F0 m 2289 ls []) := by
  intro n hn9 k28 hk28 rl1 rl2 rl3 rl4 xl5 h H locs ls S hl w
  unfold qw_L_law_2289 at w
  refine ql_aload_n (r := rl1) C dL_law_2289 rfl (lv_at hl 1 rfl) ?_
  refine ql_VI (As := []) (rest := []) C S htab hlocks hl qy_X11_addedTotal qi_X11_addedTotal qs_X11_addedTotal gw_678 (ci := 12) rfl w (fun b w => qm_X11_addedTotal l hl9 D _ b _ _ w) rfl ⟨Nat.le_of_ble_eq_true rfl, Nat.le_of_ble_eq_true rfl⟩ ⟨rfl, rfl⟩ (by exact Nat.le_of_ble_eq_true rfl) (fun b e9 => by cases e9; rfl) dL_law_2290 ⟨(by show _ ≤ (603072 : Nat); omega), (by show _ ≤ (7190633 : Nat); omega)⟩ ⟨(by show _ ≤ (603072 : Nat); omega), (by show _ ≤ (7190633 : Nat); omega)⟩ (fun x203 h H locs S w => ?_)
  refine W.cs (cells' := (1032 + (513 - (n + 1)) * 21)) (slots' := (15200 + (513 - (n + 1)) * 5126)) (by omega) (by omega) ?_
  refine ql_aload_n (r := rl2) C dL_law_2293 rfl (lv_at hl 2 rfl) ?_
  refine ql_VI (As := []) (rest := [.int x203]) C S htab hlocks hl qy_X12_addedTotal qi_X12_addedTotal qs_X12_addedTotal gw_2007 (ci := 13) rfl w (fun b w => qm_X12_addedTotal l hl9 D _ b _ _ w) rfl ⟨Nat.le_of_ble_eq_true rfl, Nat.le_of_ble_eq_true rfl⟩ ⟨rfl, rfl⟩ (by exact Nat.le_of_ble_eq_true rfl) (fun b e9 => by cases e9; rfl) dL_law_2294 ⟨(by show _ ≤ (603072 : Nat); omega), (by show _ ≤ (7190633 : Nat); omega)⟩ ⟨(by show _ ≤ (603072 : Nat); omega), (by show _ ≤ (7190633 : Nat); omega)⟩ (fun x205 h H locs S w => ?_)
  refine W.cs (cells' := (1032 + (513 - (n + 1)) * 21)) (slots' := (15200 + (513 - (n + 1)) * 5126)) (by omega) (by omega) ?_
  refine lv_icmp_eq (tgt := 2957) C.1.1 C.1.2.1 dL_law_2297 (by decide) (fun c9 => ?_) (fun c9 => ?_)
  · replace w := ql_if w c9
    refine W.widen (k := (1053 + (513 - (n + 1)) * 21)) (n := (20326 + (513 - (n + 1)) * 5126)) (by omega) (by omega) ?_
    exact (qm_L_law_2957 l hl9 D h0 L9 xs9 a0 Q X p e s m below meth c C hr hlocks htab hX) n hn9 k28 hk28 rl1 rl2 rl3 rl4 xl5 _ _ _ _ S (lv_sub hl [0, 1, 2, 3, 4, 5] rfl) w
  · replace w := ql_ifn w c9
    refine lv_iconst (v := (0 : Int32)) C.1.1 C.1.2.1 dL_law_2300 (by decide) ?_
    exact ql_zret C S hr hlocks dL_law_2301 ⟨(by show _ ≤ (603072 : Nat); omega), (by show _ ≤ (7190633 : Nat); omega)⟩ w
set_option maxHeartbeats 4000000 in
set_option maxRecDepth 100000 in
theorem qm_L_law_2302 (l : Launch) (hl9 : l.stackTraces = false) (D : ql_D) (h0 : ql_H) (L9 : Nat) (xs9 : Nat → Int32) (a0 : Nat) (Q : Int32 → ql_H → Prop) (X : String → ql_H → Prop) (p : Program) (e : Env) (s : State) (m : MethodId) (below : List Frame) (meth : Method) (c : Code) (C : ql_C D h0 p m c cL_law 9 s [.ref a0].toArray "ClauseLedgerLaw") (hr : meth.sig.returnType = some .boolean) (hlocks : meth.locks = false) (htab : ∀ x ∈ c.exceptionTable.toList, False) (hX : va_X a0 L9 xs9 s s.heap ∧ a0 < s.heap.size ∧ ¬ ql_A h0 a0) : ∀ n : Nat, n + 1 ≤ 513 → ∀ (k28 : Option Nat → Option Nat → Option Nat → Option Nat → Int32 → ql_H → Prop) (hk28 : ∀ (rl1 : Option Nat) (rl2 : Option Nat) (rl3 : Option Nat) (rl4 : Option Nat) (xl5 : Int32) (h : ql_H) (H : Heap) (locs : List Loc) (ls : Array Slot), ql_S D h0 s H locs h → lv_has ls 9 [(0, .ref a0), (1, va_rf rl1), (2, va_rf rl2), (3, va_rf rl3), (4, va_rf rl4), (5, .int xl5)] → k28 rl1 rl2 rl3 rl4 xl5 h → W p l e ({ frames := 2048, cells := 603072, slots := 7190633, locals := 94400 } : Room) s m ([.ref a0] : List Value).toArray below meth c H locs (1032 + (513 - n) * 21) (15200 + (513 - n) * 5126) (vx_MQ below (ql_Q D h0 (ql_rI Q)) (ql_X D h0 X) ([.ref a0] : List Value).toArray s 603072 7190633 (ql_A h0)) (F0 m 28 ls [])) , ∀ (rl1 : Option Nat) (rl2 : Option Nat) (rl3 : Option Nat) (rl4 : Option Nat) (xl5 : Int32) (h : ql_H) (H : Heap) (locs : List Loc) (ls : Array Slot), ql_S D h0 s H locs h → lv_has ls 9 [(0, .ref a0), (1, va_rf rl1), (2, va_rf rl2), (3, va_rf rl3), (4, va_rf rl4), (5, .int xl5)] → qw_L_law_2302 D.2 L9 xs9 a0 Q X k28 rl1 rl2 rl3 rl4 xl5 h → W p l e ({ frames := 2048, cells := 603072, slots := 7190633, locals := 94400 } : Room) s m ([.ref a0] : List Value).toArray below meth c H locs (1032 + (513 - (n + 1)) * 21) (15200 + (513 - (n + 1)) * 5126) (vx_MQ below (ql_Q D h0 (ql_rI Q)) (ql_X D h0 X) ([.ref a0] : List Value).toArray s 603072 7190633 (ql_A h0)) (F0 m 2302 ls []) := by
  intro n hn9 k28 hk28 rl1 rl2 rl3 rl4 xl5 h H locs ls S hl w
  unfold qw_L_law_2302 at w
  refine ql_aload_n (r := rl1) C dL_law_2302 rfl (lv_at hl 1 rfl) ?_
  refine ql_VI (As := []) (rest := []) C S htab hlocks hl qy_X11_amendmentTotal qi_X11_amendmentTotal qs_X11_amendmentTotal gw_682 (ci := 12) rfl w (fun b w => qm_X11_amendmentTotal l hl9 D _ b _ _ w) rfl ⟨Nat.le_of_ble_eq_true rfl, Nat.le_of_ble_eq_true rfl⟩ ⟨rfl, rfl⟩ (by exact Nat.le_of_ble_eq_true rfl) (fun b e9 => by cases e9; rfl) dL_law_2303 ⟨(by show _ ≤ (603072 : Nat); omega), (by show _ ≤ (7190633 : Nat); omega)⟩ ⟨(by show _ ≤ (603072 : Nat); omega), (by show _ ≤ (7190633 : Nat); omega)⟩ (fun x207 h H locs S w => ?_)
  refine W.cs (cells' := (1032 + (513 - (n + 1)) * 21)) (slots' := (15200 + (513 - (n + 1)) * 5126)) (by omega) (by omega) ?_
  refine ql_aload_n (r := rl2) C dL_law_2306 rfl (lv_at hl 2 rfl) ?_
  refine ql_VI (As := []) (rest := [.int x207]) C S htab hlocks hl qy_X12_amendmentTotal qi_X12_amendmentTotal qs_X12_amendmentTotal gw_2011 (ci := 13) rfl w (fun b w => qm_X12_amendmentTotal l hl9 D _ b _ _ w) rfl ⟨Nat.le_of_ble_eq_true rfl, Nat.le_of_ble_eq_true rfl⟩ ⟨rfl, rfl⟩ (by exact Nat.le_of_ble_eq_true rfl) (fun b e9 => by cases e9; rfl) dL_law_2307 ⟨(by show _ ≤ (603072 : Nat); omega), (by show _ ≤ (7190633 : Nat); omega)⟩ ⟨(by show _ ≤ (603072 : Nat); omega), (by show _ ≤ (7190633 : Nat); omega)⟩ (fun x209 h H locs S w => ?_)
  refine W.cs (cells' := (1032 + (513 - (n + 1)) * 21)) (slots' := (15200 + (513 - (n + 1)) * 5126)) (by omega) (by omega) ?_
  refine lv_icmp_eq (tgt := 2957) C.1.1 C.1.2.1 dL_law_2310 (by decide) (fun c9 => ?_) (fun c9 => ?_)
  · replace w := ql_if w c9
    refine W.widen (k := (1053 + (513 - (n + 1)) * 21)) (n := (20326 + (513 - (n + 1)) * 5126)) (by omega) (by omega) ?_
    exact (qm_L_law_2957 l hl9 D h0 L9 xs9 a0 Q X p e s m below meth c C hr hlocks htab hX) n hn9 k28 hk28 rl1 rl2 rl3 rl4 xl5 _ _ _ _ S (lv_sub hl [0, 1, 2, 3, 4, 5] rfl) w
  · replace w := ql_ifn w c9
    refine lv_iconst (v := (0 : Int32)) C.1.1 C.1.2.1 dL_law_2313 (by decide) ?_
    exact ql_zret C S hr hlocks dL_law_2314 ⟨(by show _ ≤ (603072 : Nat); omega), (by show _ ≤ (7190633 : Nat); omega)⟩ w
set_option maxHeartbeats 4000000 in
set_option maxRecDepth 100000 in
theorem qm_L_law_2315 (l : Launch) (hl9 : l.stackTraces = false) (D : ql_D) (h0 : ql_H) (L9 : Nat) (xs9 : Nat → Int32) (a0 : Nat) (Q : Int32 → ql_H → Prop) (X : String → ql_H → Prop) (p : Program) (e : Env) (s : State) (m : MethodId) (below : List Frame) (meth : Method) (c : Code) (C : ql_C D h0 p m c cL_law 9 s [.ref a0].toArray "ClauseLedgerLaw") (hr : meth.sig.returnType = some .boolean) (hlocks : meth.locks = false) (htab : ∀ x ∈ c.exceptionTable.toList, False) (hX : va_X a0 L9 xs9 s s.heap ∧ a0 < s.heap.size ∧ ¬ ql_A h0 a0) : ∀ n : Nat, n + 1 ≤ 513 → ∀ (k28 : Option Nat → Option Nat → Option Nat → Option Nat → Int32 → ql_H → Prop) (hk28 : ∀ (rl1 : Option Nat) (rl2 : Option Nat) (rl3 : Option Nat) (rl4 : Option Nat) (xl5 : Int32) (h : ql_H) (H : Heap) (locs : List Loc) (ls : Array Slot), ql_S D h0 s H locs h → lv_has ls 9 [(0, .ref a0), (1, va_rf rl1), (2, va_rf rl2), (3, va_rf rl3), (4, va_rf rl4), (5, .int xl5)] → k28 rl1 rl2 rl3 rl4 xl5 h → W p l e ({ frames := 2048, cells := 603072, slots := 7190633, locals := 94400 } : Room) s m ([.ref a0] : List Value).toArray below meth c H locs (1032 + (513 - n) * 21) (15200 + (513 - n) * 5126) (vx_MQ below (ql_Q D h0 (ql_rI Q)) (ql_X D h0 X) ([.ref a0] : List Value).toArray s 603072 7190633 (ql_A h0)) (F0 m 28 ls [])) , ∀ (rl1 : Option Nat) (rl2 : Option Nat) (rl3 : Option Nat) (rl4 : Option Nat) (xl5 : Int32) (h : ql_H) (H : Heap) (locs : List Loc) (ls : Array Slot), ql_S D h0 s H locs h → lv_has ls 9 [(0, .ref a0), (1, va_rf rl1), (2, va_rf rl2), (3, va_rf rl3), (4, va_rf rl4), (5, .int xl5)] → qw_L_law_2315 D.2 L9 xs9 a0 Q X k28 rl1 rl2 rl3 rl4 xl5 h → W p l e ({ frames := 2048, cells := 603072, slots := 7190633, locals := 94400 } : Room) s m ([.ref a0] : List Value).toArray below meth c H locs (1032 + (513 - (n + 1)) * 21) (15200 + (513 - (n + 1)) * 5126) (vx_MQ below (ql_Q D h0 (ql_rI Q)) (ql_X D h0 X) ([.ref a0] : List Value).toArray s 603072 7190633 (ql_A h0)) (F0 m 2315 ls []) := by
  intro n hn9 k28 hk28 rl1 rl2 rl3 rl4 xl5 h H locs ls S hl w
  unfold qw_L_law_2315 at w
  refine ql_aload_n (r := rl1) C dL_law_2315 rfl (lv_at hl 1 rfl) ?_
  refine ql_VI (As := []) (rest := []) C S htab hlocks hl qy_X11_repealedTotal qi_X11_repealedTotal qs_X11_repealedTotal gw_686 (ci := 12) rfl w (fun b w => qm_X11_repealedTotal l hl9 D _ b _ _ w) rfl ⟨Nat.le_of_ble_eq_true rfl, Nat.le_of_ble_eq_true rfl⟩ ⟨rfl, rfl⟩ (by exact Nat.le_of_ble_eq_true rfl) (fun b e9 => by cases e9; rfl) dL_law_2316 ⟨(by show _ ≤ (603072 : Nat); omega), (by show _ ≤ (7190633 : Nat); omega)⟩ ⟨(by show _ ≤ (603072 : Nat); omega), (by show _ ≤ (7190633 : Nat); omega)⟩ (fun x211 h H locs S w => ?_)
  refine W.cs (cells' := (1032 + (513 - (n + 1)) * 21)) (slots' := (15200 + (513 - (n + 1)) * 5126)) (by omega) (by omega) ?_
  refine ql_aload_n (r := rl2) C dL_law_2319 rfl (lv_at hl 2 rfl) ?_
  refine ql_VI (As := []) (rest := [.int x211]) C S htab hlocks hl qy_X12_repealedTotal qi_X12_repealedTotal qs_X12_repealedTotal gw_2015 (ci := 13) rfl w (fun b w => qm_X12_repealedTotal l hl9 D _ b _ _ w) rfl ⟨Nat.le_of_ble_eq_true rfl, Nat.le_of_ble_eq_true rfl⟩ ⟨rfl, rfl⟩ (by exact Nat.le_of_ble_eq_true rfl) (fun b e9 => by cases e9; rfl) dL_law_2320 ⟨(by show _ ≤ (603072 : Nat); omega), (by show _ ≤ (7190633 : Nat); omega)⟩ ⟨(by show _ ≤ (603072 : Nat); omega), (by show _ ≤ (7190633 : Nat); omega)⟩ (fun x213 h H locs S w => ?_)
  refine W.cs (cells' := (1032 + (513 - (n + 1)) * 21)) (slots' := (15200 + (513 - (n + 1)) * 5126)) (by omega) (by omega) ?_
  refine lv_icmp_eq (tgt := 2957) C.1.1 C.1.2.1 dL_law_2323 (by decide) (fun c9 => ?_) (fun c9 => ?_)
  · replace w := ql_if w c9
    refine W.widen (k := (1053 + (513 - (n + 1)) * 21)) (n := (20326 + (513 - (n + 1)) * 5126)) (by omega) (by omega) ?_
    exact (qm_L_law_2957 l hl9 D h0 L9 xs9 a0 Q X p e s m below meth c C hr hlocks htab hX) n hn9 k28 hk28 rl1 rl2 rl3 rl4 xl5 _ _ _ _ S (lv_sub hl [0, 1, 2, 3, 4, 5] rfl) w
  · replace w := ql_ifn w c9
    refine lv_iconst (v := (0 : Int32)) C.1.1 C.1.2.1 dL_law_2326 (by decide) ?_
    exact ql_zret C S hr hlocks dL_law_2327 ⟨(by show _ ≤ (603072 : Nat); omega), (by show _ ≤ (7190633 : Nat); omega)⟩ w
set_option maxHeartbeats 4000000 in
set_option maxRecDepth 100000 in
theorem qm_L_law_2328 (l : Launch) (hl9 : l.stackTraces = false) (D : ql_D) (h0 : ql_H) (L9 : Nat) (xs9 : Nat → Int32) (a0 : Nat) (Q : Int32 → ql_H → Prop) (X : String → ql_H → Prop) (p : Program) (e : Env) (s : State) (m : MethodId) (below : List Frame) (meth : Method) (c : Code) (C : ql_C D h0 p m c cL_law 9 s [.ref a0].toArray "ClauseLedgerLaw") (hr : meth.sig.returnType = some .boolean) (hlocks : meth.locks = false) (htab : ∀ x ∈ c.exceptionTable.toList, False) (hX : va_X a0 L9 xs9 s s.heap ∧ a0 < s.heap.size ∧ ¬ ql_A h0 a0) : ∀ n : Nat, n + 1 ≤ 513 → ∀ (k28 : Option Nat → Option Nat → Option Nat → Option Nat → Int32 → ql_H → Prop) (hk28 : ∀ (rl1 : Option Nat) (rl2 : Option Nat) (rl3 : Option Nat) (rl4 : Option Nat) (xl5 : Int32) (h : ql_H) (H : Heap) (locs : List Loc) (ls : Array Slot), ql_S D h0 s H locs h → lv_has ls 9 [(0, .ref a0), (1, va_rf rl1), (2, va_rf rl2), (3, va_rf rl3), (4, va_rf rl4), (5, .int xl5)] → k28 rl1 rl2 rl3 rl4 xl5 h → W p l e ({ frames := 2048, cells := 603072, slots := 7190633, locals := 94400 } : Room) s m ([.ref a0] : List Value).toArray below meth c H locs (1032 + (513 - n) * 21) (15200 + (513 - n) * 5126) (vx_MQ below (ql_Q D h0 (ql_rI Q)) (ql_X D h0 X) ([.ref a0] : List Value).toArray s 603072 7190633 (ql_A h0)) (F0 m 28 ls [])) , ∀ (rl1 : Option Nat) (rl2 : Option Nat) (rl3 : Option Nat) (rl4 : Option Nat) (xl5 : Int32) (h : ql_H) (H : Heap) (locs : List Loc) (ls : Array Slot), ql_S D h0 s H locs h → lv_has ls 9 [(0, .ref a0), (1, va_rf rl1), (2, va_rf rl2), (3, va_rf rl3), (4, va_rf rl4), (5, .int xl5)] → qw_L_law_2328 D.2 L9 xs9 a0 Q X k28 rl1 rl2 rl3 rl4 xl5 h → W p l e ({ frames := 2048, cells := 603072, slots := 7190633, locals := 94400 } : Room) s m ([.ref a0] : List Value).toArray below meth c H locs (1032 + (513 - (n + 1)) * 21) (15200 + (513 - (n + 1)) * 5126) (vx_MQ below (ql_Q D h0 (ql_rI Q)) (ql_X D h0 X) ([.ref a0] : List Value).toArray s 603072 7190633 (ql_A h0)) (F0 m 2328 ls []) := by
  intro n hn9 k28 hk28 rl1 rl2 rl3 rl4 xl5 h H locs ls S hl w
  unfold qw_L_law_2328 at w
  refine ql_aload_n (r := rl1) C dL_law_2328 rfl (lv_at hl 1 rfl) ?_
  refine ql_VI (As := []) (rest := []) C S htab hlocks hl qy_X11_consolidatedTotal qi_X11_consolidatedTotal qs_X11_consolidatedTotal gw_690 (ci := 12) rfl w (fun b w => qm_X11_consolidatedTotal l hl9 D _ b _ _ w) rfl ⟨Nat.le_of_ble_eq_true rfl, Nat.le_of_ble_eq_true rfl⟩ ⟨rfl, rfl⟩ (by exact Nat.le_of_ble_eq_true rfl) (fun b e9 => by cases e9; rfl) dL_law_2329 ⟨(by show _ ≤ (603072 : Nat); omega), (by show _ ≤ (7190633 : Nat); omega)⟩ ⟨(by show _ ≤ (603072 : Nat); omega), (by show _ ≤ (7190633 : Nat); omega)⟩ (fun x215 h H locs S w => ?_)
  refine W.cs (cells' := (1032 + (513 - (n + 1)) * 21)) (slots' := (15200 + (513 - (n + 1)) * 5126)) (by omega) (by omega) ?_
  refine ql_aload_n (r := rl2) C dL_law_2332 rfl (lv_at hl 2 rfl) ?_
  refine ql_VI (As := []) (rest := [.int x215]) C S htab hlocks hl qy_X12_consolidatedTotal qi_X12_consolidatedTotal qs_X12_consolidatedTotal gw_2019 (ci := 13) rfl w (fun b w => qm_X12_consolidatedTotal l hl9 D _ b _ _ w) rfl ⟨Nat.le_of_ble_eq_true rfl, Nat.le_of_ble_eq_true rfl⟩ ⟨rfl, rfl⟩ (by exact Nat.le_of_ble_eq_true rfl) (fun b e9 => by cases e9; rfl) dL_law_2333 ⟨(by show _ ≤ (603072 : Nat); omega), (by show _ ≤ (7190633 : Nat); omega)⟩ ⟨(by show _ ≤ (603072 : Nat); omega), (by show _ ≤ (7190633 : Nat); omega)⟩ (fun x217 h H locs S w => ?_)
  refine W.cs (cells' := (1032 + (513 - (n + 1)) * 21)) (slots' := (15200 + (513 - (n + 1)) * 5126)) (by omega) (by omega) ?_
  refine lv_icmp_eq (tgt := 2957) C.1.1 C.1.2.1 dL_law_2336 (by decide) (fun c9 => ?_) (fun c9 => ?_)
  · replace w := ql_if w c9
    refine W.widen (k := (1053 + (513 - (n + 1)) * 21)) (n := (20326 + (513 - (n + 1)) * 5126)) (by omega) (by omega) ?_
    exact (qm_L_law_2957 l hl9 D h0 L9 xs9 a0 Q X p e s m below meth c C hr hlocks htab hX) n hn9 k28 hk28 rl1 rl2 rl3 rl4 xl5 _ _ _ _ S (lv_sub hl [0, 1, 2, 3, 4, 5] rfl) w
  · replace w := ql_ifn w c9
    refine lv_iconst (v := (0 : Int32)) C.1.1 C.1.2.1 dL_law_2339 (by decide) ?_
    exact ql_zret C S hr hlocks dL_law_2340 ⟨(by show _ ≤ (603072 : Nat); omega), (by show _ ≤ (7190633 : Nat); omega)⟩ w
set_option maxHeartbeats 4000000 in
set_option maxRecDepth 100000 in
theorem qm_L_law_2341 (l : Launch) (hl9 : l.stackTraces = false) (D : ql_D) (h0 : ql_H) (L9 : Nat) (xs9 : Nat → Int32) (a0 : Nat) (Q : Int32 → ql_H → Prop) (X : String → ql_H → Prop) (p : Program) (e : Env) (s : State) (m : MethodId) (below : List Frame) (meth : Method) (c : Code) (C : ql_C D h0 p m c cL_law 9 s [.ref a0].toArray "ClauseLedgerLaw") (hr : meth.sig.returnType = some .boolean) (hlocks : meth.locks = false) (htab : ∀ x ∈ c.exceptionTable.toList, False) (hX : va_X a0 L9 xs9 s s.heap ∧ a0 < s.heap.size ∧ ¬ ql_A h0 a0) : ∀ n : Nat, n + 1 ≤ 513 → ∀ (k28 : Option Nat → Option Nat → Option Nat → Option Nat → Int32 → ql_H → Prop) (hk28 : ∀ (rl1 : Option Nat) (rl2 : Option Nat) (rl3 : Option Nat) (rl4 : Option Nat) (xl5 : Int32) (h : ql_H) (H : Heap) (locs : List Loc) (ls : Array Slot), ql_S D h0 s H locs h → lv_has ls 9 [(0, .ref a0), (1, va_rf rl1), (2, va_rf rl2), (3, va_rf rl3), (4, va_rf rl4), (5, .int xl5)] → k28 rl1 rl2 rl3 rl4 xl5 h → W p l e ({ frames := 2048, cells := 603072, slots := 7190633, locals := 94400 } : Room) s m ([.ref a0] : List Value).toArray below meth c H locs (1032 + (513 - n) * 21) (15200 + (513 - n) * 5126) (vx_MQ below (ql_Q D h0 (ql_rI Q)) (ql_X D h0 X) ([.ref a0] : List Value).toArray s 603072 7190633 (ql_A h0)) (F0 m 28 ls [])) , ∀ (rl1 : Option Nat) (rl2 : Option Nat) (rl3 : Option Nat) (rl4 : Option Nat) (xl5 : Int32) (h : ql_H) (H : Heap) (locs : List Loc) (ls : Array Slot), ql_S D h0 s H locs h → lv_has ls 9 [(0, .ref a0), (1, va_rf rl1), (2, va_rf rl2), (3, va_rf rl3), (4, va_rf rl4), (5, .int xl5)] → qw_L_law_2341 D.2 L9 xs9 a0 Q X k28 rl1 rl2 rl3 rl4 xl5 h → W p l e ({ frames := 2048, cells := 603072, slots := 7190633, locals := 94400 } : Room) s m ([.ref a0] : List Value).toArray below meth c H locs (1032 + (513 - (n + 1)) * 21) (15200 + (513 - (n + 1)) * 5126) (vx_MQ below (ql_Q D h0 (ql_rI Q)) (ql_X D h0 X) ([.ref a0] : List Value).toArray s 603072 7190633 (ql_A h0)) (F0 m 2341 ls []) := by
  intro n hn9 k28 hk28 rl1 rl2 rl3 rl4 xl5 h H locs ls S hl w
  unfold qw_L_law_2341 at w
  refine ql_aload_n (r := rl1) C dL_law_2341 rfl (lv_at hl 1 rfl) ?_
  refine ql_VI (As := []) (rest := []) C S htab hlocks hl qy_X11_editionCount qi_X11_editionCount qs_X11_editionCount gw_694 (ci := 12) rfl w (fun b w => qm_X11_editionCount l hl9 D _ b _ _ w) rfl ⟨Nat.le_of_ble_eq_true rfl, Nat.le_of_ble_eq_true rfl⟩ ⟨rfl, rfl⟩ (by exact Nat.le_of_ble_eq_true rfl) (fun b e9 => by cases e9; rfl) dL_law_2342 ⟨(by show _ ≤ (603072 : Nat); omega), (by show _ ≤ (7190633 : Nat); omega)⟩ ⟨(by show _ ≤ (603072 : Nat); omega), (by show _ ≤ (7190633 : Nat); omega)⟩ (fun x219 h H locs S w => ?_)
  refine W.cs (cells' := (1032 + (513 - (n + 1)) * 21)) (slots' := (15200 + (513 - (n + 1)) * 5126)) (by omega) (by omega) ?_
  refine ql_aload_n (r := rl2) C dL_law_2345 rfl (lv_at hl 2 rfl) ?_
  refine ql_VI (As := []) (rest := [.int x219]) C S htab hlocks hl qy_X12_editionCount qi_X12_editionCount qs_X12_editionCount gw_2023 (ci := 13) rfl w (fun b w => qm_X12_editionCount l hl9 D _ b _ _ w) rfl ⟨Nat.le_of_ble_eq_true rfl, Nat.le_of_ble_eq_true rfl⟩ ⟨rfl, rfl⟩ (by exact Nat.le_of_ble_eq_true rfl) (fun b e9 => by cases e9; rfl) dL_law_2346 ⟨(by show _ ≤ (603072 : Nat); omega), (by show _ ≤ (7190633 : Nat); omega)⟩ ⟨(by show _ ≤ (603072 : Nat); omega), (by show _ ≤ (7190633 : Nat); omega)⟩ (fun x221 h H locs S w => ?_)
  refine W.cs (cells' := (1032 + (513 - (n + 1)) * 21)) (slots' := (15200 + (513 - (n + 1)) * 5126)) (by omega) (by omega) ?_
  refine lv_icmp_eq (tgt := 2957) C.1.1 C.1.2.1 dL_law_2349 (by decide) (fun c9 => ?_) (fun c9 => ?_)
  · replace w := ql_if w c9
    refine W.widen (k := (1053 + (513 - (n + 1)) * 21)) (n := (20326 + (513 - (n + 1)) * 5126)) (by omega) (by omega) ?_
    exact (qm_L_law_2957 l hl9 D h0 L9 xs9 a0 Q X p e s m below meth c C hr hlocks htab hX) n hn9 k28 hk28 rl1 rl2 rl3 rl4 xl5 _ _ _ _ S (lv_sub hl [0, 1, 2, 3, 4, 5] rfl) w
  · replace w := ql_ifn w c9
    refine lv_iconst (v := (0 : Int32)) C.1.1 C.1.2.1 dL_law_2352 (by decide) ?_
    exact ql_zret C S hr hlocks dL_law_2353 ⟨(by show _ ≤ (603072 : Nat); omega), (by show _ ≤ (7190633 : Nat); omega)⟩ w
set_option maxHeartbeats 4000000 in
set_option maxRecDepth 100000 in
theorem qm_L_law_2407 (l : Launch) (hl9 : l.stackTraces = false) (D : ql_D) (h0 : ql_H) (L9 : Nat) (xs9 : Nat → Int32) (a0 : Nat) (Q : Int32 → ql_H → Prop) (X : String → ql_H → Prop) (p : Program) (e : Env) (s : State) (m : MethodId) (below : List Frame) (meth : Method) (c : Code) (C : ql_C D h0 p m c cL_law 9 s [.ref a0].toArray "ClauseLedgerLaw") (hr : meth.sig.returnType = some .boolean) (hlocks : meth.locks = false) (htab : ∀ x ∈ c.exceptionTable.toList, False) (hX : va_X a0 L9 xs9 s s.heap ∧ a0 < s.heap.size ∧ ¬ ql_A h0 a0) : ∀ n : Nat, n + 1 ≤ 513 → ∀ (k28 : Option Nat → Option Nat → Option Nat → Option Nat → Int32 → ql_H → Prop) (hk28 : ∀ (rl1 : Option Nat) (rl2 : Option Nat) (rl3 : Option Nat) (rl4 : Option Nat) (xl5 : Int32) (h : ql_H) (H : Heap) (locs : List Loc) (ls : Array Slot), ql_S D h0 s H locs h → lv_has ls 9 [(0, .ref a0), (1, va_rf rl1), (2, va_rf rl2), (3, va_rf rl3), (4, va_rf rl4), (5, .int xl5)] → k28 rl1 rl2 rl3 rl4 xl5 h → W p l e ({ frames := 2048, cells := 603072, slots := 7190633, locals := 94400 } : Room) s m ([.ref a0] : List Value).toArray below meth c H locs (1032 + (513 - n) * 21) (15200 + (513 - n) * 5126) (vx_MQ below (ql_Q D h0 (ql_rI Q)) (ql_X D h0 X) ([.ref a0] : List Value).toArray s 603072 7190633 (ql_A h0)) (F0 m 28 ls [])) , ∀ (rl1 : Option Nat) (rl2 : Option Nat) (rl3 : Option Nat) (rl4 : Option Nat) (xl5 : Int32) (h : ql_H) (H : Heap) (locs : List Loc) (ls : Array Slot), ql_S D h0 s H locs h → lv_has ls 9 [(0, .ref a0), (1, va_rf rl1), (2, va_rf rl2), (3, va_rf rl3), (4, va_rf rl4), (5, .int xl5)] → qw_L_law_2407 D.2 L9 xs9 a0 Q X k28 rl1 rl2 rl3 rl4 xl5 h → W p l e ({ frames := 2048, cells := 603072, slots := 7190633, locals := 94400 } : Room) s m ([.ref a0] : List Value).toArray below meth c H locs (1033 + (513 - (n + 1)) * 21) (15206 + (513 - (n + 1)) * 5126) (vx_MQ below (ql_Q D h0 (ql_rI Q)) (ql_X D h0 X) ([.ref a0] : List Value).toArray s 603072 7190633 (ql_A h0)) (F0 m 2407 ls []) := by
  intro n hn9 k28 hk28 rl1 rl2 rl3 rl4 xl5 h H locs ls S hl w
  unfold qw_L_law_2407 at w
  refine lv_goto (tgt := 2957) C.1.1 C.1.2.1 dL_law_2407 (by decide) ?_
  refine W.widen (k := (1053 + (513 - (n + 1)) * 21)) (n := (20326 + (513 - (n + 1)) * 5126)) (by omega) (by omega) ?_
  exact (qm_L_law_2957 l hl9 D h0 L9 xs9 a0 Q X p e s m below meth c C hr hlocks htab hX) n hn9 k28 hk28 rl1 rl2 rl3 rl4 xl5 _ _ _ _ S (lv_sub hl [0, 1, 2, 3, 4, 5] rfl) w
set_option maxHeartbeats 4000000 in
set_option maxRecDepth 100000 in
theorem qm_L_law_2354 (l : Launch) (hl9 : l.stackTraces = false) (D : ql_D) (h0 : ql_H) (L9 : Nat) (xs9 : Nat → Int32) (a0 : Nat) (Q : Int32 → ql_H → Prop) (X : String → ql_H → Prop) (p : Program) (e : Env) (s : State) (m : MethodId) (below : List Frame) (meth : Method) (c : Code) (C : ql_C D h0 p m c cL_law 9 s [.ref a0].toArray "ClauseLedgerLaw") (hr : meth.sig.returnType = some .boolean) (hlocks : meth.locks = false) (htab : ∀ x ∈ c.exceptionTable.toList, False) (hX : va_X a0 L9 xs9 s s.heap ∧ a0 < s.heap.size ∧ ¬ ql_A h0 a0) : ∀ n : Nat, n + 1 ≤ 513 → ∀ (k28 : Option Nat → Option Nat → Option Nat → Option Nat → Int32 → ql_H → Prop) (hk28 : ∀ (rl1 : Option Nat) (rl2 : Option Nat) (rl3 : Option Nat) (rl4 : Option Nat) (xl5 : Int32) (h : ql_H) (H : Heap) (locs : List Loc) (ls : Array Slot), ql_S D h0 s H locs h → lv_has ls 9 [(0, .ref a0), (1, va_rf rl1), (2, va_rf rl2), (3, va_rf rl3), (4, va_rf rl4), (5, .int xl5)] → k28 rl1 rl2 rl3 rl4 xl5 h → W p l e ({ frames := 2048, cells := 603072, slots := 7190633, locals := 94400 } : Room) s m ([.ref a0] : List Value).toArray below meth c H locs (1032 + (513 - n) * 21) (15200 + (513 - n) * 5126) (vx_MQ below (ql_Q D h0 (ql_rI Q)) (ql_X D h0 X) ([.ref a0] : List Value).toArray s 603072 7190633 (ql_A h0)) (F0 m 28 ls [])) , ∀ (rl1 : Option Nat) (rl2 : Option Nat) (rl3 : Option Nat) (rl4 : Option Nat) (xl5 : Int32) (h : ql_H) (H : Heap) (locs : List Loc) (ls : Array Slot), ql_S D h0 s H locs h → lv_has ls 9 [(0, .ref a0), (1, va_rf rl1), (2, va_rf rl2), (3, va_rf rl3), (4, va_rf rl4), (5, .int xl5)] → qw_L_law_2354 D.2 L9 xs9 a0 Q X k28 rl1 rl2 rl3 rl4 xl5 h → W p l e ({ frames := 2048, cells := 603072, slots := 7190633, locals := 94400 } : Room) s m ([.ref a0] : List Value).toArray below meth c H locs (1032 + (513 - (n + 1)) * 21) (15200 + (513 - (n + 1)) * 5126) (vx_MQ below (ql_Q D h0 (ql_rI Q)) (ql_X D h0 X) ([.ref a0] : List Value).toArray s 603072 7190633 (ql_A h0)) (F0 m 2354 ls []) := by
  intro n hn9 k28 hk28 rl1 rl2 rl3 rl4 xl5 h H locs ls S hl w
  unfold qw_L_law_2354 at w
  refine ql_aload_n (r := rl1) C dL_law_2354 rfl (lv_at hl 1 rfl) ?_
  refine ql_aload_n (r := (some a0)) C dL_law_2355 rfl (lv_at hl 0 rfl) ?_
  refine lv_iload C.1.1 C.1.2.1 dL_law_2356 (lv_at hl 5 rfl) ?_
  refine lv_iconst (v := (1 : Int32)) C.1.1 C.1.2.1 dL_law_2358 (by decide) ?_
  refine lv_iadd C.1.1 C.1.2.1 dL_law_2359 ?_
  refine ql_sld C S hX w.1 dL_law_2360 ?_
  replace w := w.2
  refine ql_aload_n (r := rl3) C dL_law_2361 rfl (lv_at hl 3 rfl) ?_
  refine ql_SHI (As := [va_rf rl1, .int (xs9 (xl5 + (1 : Int32)).toNatClampNeg), va_rf rl3]) (rest := []) C S hl qyh_L_editionDay gw_1151 (qm_L_editionDay l hl9 D _ rl1 (xs9 (xl5 + (1 : Int32)).toNatClampNeg) rl3 _ _ w) rfl ⟨Nat.le_of_ble_eq_true rfl, Nat.le_of_ble_eq_true rfl⟩ ⟨rfl, rfl⟩ (by exact Nat.le_of_ble_eq_true rfl) rfl dL_law_2362 ⟨(by show _ ≤ (603072 : Nat); omega), (by show _ ≤ (7190633 : Nat); omega)⟩ (fun x223 h H locs S w => ?_)
  refine W.cs (cells' := (1033 + (513 - (n + 1)) * 21)) (slots' := (15206 + (513 - (n + 1)) * 5126)) (by omega) (by omega) ?_
  refine lv_istore (lv' := [(6, .int x223), (0, .ref a0), (1, va_rf rl1), (2, va_rf rl2), (3, va_rf rl3), (4, va_rf rl4), (5, .int xl5)]) C.1.1 C.1.2.1 dL_law_2365 hl (by decide) rfl (fun ls hl => ?_)
  refine ql_aload_n (r := rl2) C dL_law_2367 rfl (lv_at hl 3 rfl) ?_
  refine ql_aload_n (r := (some a0)) C dL_law_2368 rfl (lv_at hl 1 rfl) ?_
  refine lv_iload C.1.1 C.1.2.1 dL_law_2369 (lv_at hl 6 rfl) ?_
  refine lv_iconst (v := (1 : Int32)) C.1.1 C.1.2.1 dL_law_2371 (by decide) ?_
  refine lv_iadd C.1.1 C.1.2.1 dL_law_2372 ?_
  refine ql_sld C S hX w.1 dL_law_2373 ?_
  replace w := w.2
  refine ql_VI (As := [.int (xs9 (xl5 + (1 : Int32)).toNatClampNeg)]) (rest := []) C S htab hlocks hl qy_X12_editionDay qi_X12_editionDay qs_X12_editionDay gw_2027 (ci := 13) rfl w (fun b w => qm_X12_editionDay l hl9 D _ b (xs9 (xl5 + (1 : Int32)).toNatClampNeg) _ _ w) rfl ⟨Nat.le_of_ble_eq_true rfl, Nat.le_of_ble_eq_true rfl⟩ ⟨rfl, rfl⟩ (by exact Nat.le_of_ble_eq_true rfl) (fun b e9 => by cases e9; rfl) dL_law_2374 ⟨(by show _ ≤ (603072 : Nat); omega), (by show _ ≤ (7190633 : Nat); omega)⟩ ⟨(by show _ ≤ (603072 : Nat); omega), (by show _ ≤ (7190633 : Nat); omega)⟩ (fun x224 h H locs S w => ?_)
  refine W.cs (cells' := (1033 + (513 - (n + 1)) * 21)) (slots' := (15206 + (513 - (n + 1)) * 5126)) (by omega) (by omega) ?_
  refine lv_istore (lv' := [(7, .int x224), (6, .int x223), (0, .ref a0), (1, va_rf rl1), (2, va_rf rl2), (3, va_rf rl3), (4, va_rf rl4), (5, .int xl5)]) C.1.1 C.1.2.1 dL_law_2377 hl (by decide) rfl (fun ls hl => ?_)
  refine ql_aload_n (r := rl2) C dL_law_2379 rfl (lv_at hl 4 rfl) ?_
  refine ql_VI (As := []) (rest := []) C S htab hlocks hl qy_X12_thrown qi_X12_thrown qs_X12_thrown gw_1727 (ci := 13) rfl w (fun b w => qm_X12_thrown l hl9 D _ b _ _ w) rfl ⟨Nat.le_of_ble_eq_true rfl, Nat.le_of_ble_eq_true rfl⟩ ⟨rfl, rfl⟩ (by exact Nat.le_of_ble_eq_true rfl) (fun b e9 => by cases e9; rfl) dL_law_2380 ⟨(by show _ ≤ (603072 : Nat); omega), (by show _ ≤ (7190633 : Nat); omega)⟩ ⟨(by show _ ≤ (603072 : Nat); omega), (by show _ ≤ (7190633 : Nat); omega)⟩ (fun x226 h H locs S w => ?_)
  refine W.cs (cells' := (1033 + (513 - (n + 1)) * 21)) (slots' := (15206 + (513 - (n + 1)) * 5126)) (by omega) (by omega) ?_
  refine lv_iload C.1.1 C.1.2.1 dL_law_2383 (lv_at hl 1 rfl) ?_
  refine lv_icmp_eq (tgt := 2390) C.1.1 C.1.2.1 dL_law_2385 (by decide) (fun c9 => ?_) (fun c9 => ?_)
  · replace w := ql_if w c9
    refine lv_iload C.1.1 C.1.2.1 dL_law_2390 (lv_at hl 1 rfl) ?_
    refine lv_if_ne (tgt := 2407) C.1.1 C.1.2.1 dL_law_2392 (by decide) (fun c9 => ?_) (fun c9 => ?_)
    · replace w := ql_ifn w c9
      exact (qm_L_law_2407 l hl9 D h0 L9 xs9 a0 Q X p e s m below meth c C hr hlocks htab hX) n hn9 k28 hk28 rl1 rl2 rl3 rl4 xl5 _ _ _ _ S (lv_sub hl [2, 3, 4, 5, 6, 7] rfl) w
    · replace w := ql_if w c9
      refine ql_aload_n (r := rl3) C dL_law_2395 rfl (lv_at hl 5 rfl) ?_
      refine lv_iconst (v := (0 : Int32)) C.1.1 C.1.2.1 dL_law_2396 (by decide) ?_
      refine ql_lald C S dL_law_2397 w (fun j228 w => ?_)
      refine lv_iload C.1.1 C.1.2.1 dL_law_2398 (lv_at hl 0 rfl) ?_
      refine lv_i2l C.1.1 C.1.2.1 dL_law_2400 rfl ?_
      refine W.lcmp C.1.1 C.1.2.1 dL_law_2401 ?_
      refine lv_if_eq (tgt := 2407) C.1.1 C.1.2.1 dL_law_2402 (by decide) (fun c9 => ?_) (fun c9 => ?_)
      · replace w := ql_if w c9
        exact (qm_L_law_2407 l hl9 D h0 L9 xs9 a0 Q X p e s m below meth c C hr hlocks htab hX) n hn9 k28 hk28 rl1 rl2 rl3 rl4 xl5 _ _ _ _ S (lv_sub hl [2, 3, 4, 5, 6, 7] rfl) w
      · replace w := ql_ifn w c9
        refine lv_iconst (v := (0 : Int32)) C.1.1 C.1.2.1 dL_law_2405 (by decide) ?_
        exact ql_zret C S hr hlocks dL_law_2406 ⟨(by show _ ≤ (603072 : Nat); omega), (by show _ ≤ (7190633 : Nat); omega)⟩ w
  · replace w := ql_ifn w c9
    refine lv_iconst (v := (0 : Int32)) C.1.1 C.1.2.1 dL_law_2388 (by decide) ?_
    exact ql_zret C S hr hlocks dL_law_2389 ⟨(by show _ ≤ (603072 : Nat); omega), (by show _ ≤ (7190633 : Nat); omega)⟩ w
set_option maxHeartbeats 4000000 in
set_option maxRecDepth 100000 in
theorem qm_L_law_2472 (l : Launch) (hl9 : l.stackTraces = false) (D : ql_D) (h0 : ql_H) (L9 : Nat) (xs9 : Nat → Int32) (a0 : Nat) (Q : Int32 → ql_H → Prop) (X : String → ql_H → Prop) (p : Program) (e : Env) (s : State) (m : MethodId) (below : List Frame) (meth : Method) (c : Code) (C : ql_C D h0 p m c cL_law 9 s [.ref a0].toArray "ClauseLedgerLaw") (hr : meth.sig.returnType = some .boolean) (hlocks : meth.locks = false) (htab : ∀ x ∈ c.exceptionTable.toList, False) (hX : va_X a0 L9 xs9 s s.heap ∧ a0 < s.heap.size ∧ ¬ ql_A h0 a0) : ∀ n : Nat, n + 1 ≤ 513 → ∀ (k28 : Option Nat → Option Nat → Option Nat → Option Nat → Int32 → ql_H → Prop) (hk28 : ∀ (rl1 : Option Nat) (rl2 : Option Nat) (rl3 : Option Nat) (rl4 : Option Nat) (xl5 : Int32) (h : ql_H) (H : Heap) (locs : List Loc) (ls : Array Slot), ql_S D h0 s H locs h → lv_has ls 9 [(0, .ref a0), (1, va_rf rl1), (2, va_rf rl2), (3, va_rf rl3), (4, va_rf rl4), (5, .int xl5)] → k28 rl1 rl2 rl3 rl4 xl5 h → W p l e ({ frames := 2048, cells := 603072, slots := 7190633, locals := 94400 } : Room) s m ([.ref a0] : List Value).toArray below meth c H locs (1032 + (513 - n) * 21) (15200 + (513 - n) * 5126) (vx_MQ below (ql_Q D h0 (ql_rI Q)) (ql_X D h0 X) ([.ref a0] : List Value).toArray s 603072 7190633 (ql_A h0)) (F0 m 28 ls [])) , ∀ (rl1 : Option Nat) (rl2 : Option Nat) (rl3 : Option Nat) (rl4 : Option Nat) (xl5 : Int32) (h : ql_H) (H : Heap) (locs : List Loc) (ls : Array Slot), ql_S D h0 s H locs h → lv_has ls 9 [(0, .ref a0), (1, va_rf rl1), (2, va_rf rl2), (3, va_rf rl3), (4, va_rf rl4), (5, .int xl5)] → qw_L_law_2472 D.2 L9 xs9 a0 Q X k28 rl1 rl2 rl3 rl4 xl5 h → W p l e ({ frames := 2048, cells := 603072, slots := 7190633, locals := 94400 } : Room) s m ([.ref a0] : List Value).toArray below meth c H locs (1033 + (513 - (n + 1)) * 21) (15206 + (513 - (n + 1)) * 5126) (vx_MQ below (ql_Q D h0 (ql_rI Q)) (ql_X D h0 X) ([.ref a0] : List Value).toArray s 603072 7190633 (ql_A h0)) (F0 m 2472 ls []) := by
  intro n hn9 k28 hk28 rl1 rl2 rl3 rl4 xl5 h H locs ls S hl w
  unfold qw_L_law_2472 at w
  refine lv_goto (tgt := 2957) C.1.1 C.1.2.1 dL_law_2472 (by decide) ?_
  refine W.widen (k := (1053 + (513 - (n + 1)) * 21)) (n := (20326 + (513 - (n + 1)) * 5126)) (by omega) (by omega) ?_
  exact (qm_L_law_2957 l hl9 D h0 L9 xs9 a0 Q X p e s m below meth c C hr hlocks htab hX) n hn9 k28 hk28 rl1 rl2 rl3 rl4 xl5 _ _ _ _ S (lv_sub hl [0, 1, 2, 3, 4, 5] rfl) w
set_option maxHeartbeats 4000000 in
set_option maxRecDepth 100000 in
theorem qm_L_law_2410 (l : Launch) (hl9 : l.stackTraces = false) (D : ql_D) (h0 : ql_H) (L9 : Nat) (xs9 : Nat → Int32) (a0 : Nat) (Q : Int32 → ql_H → Prop) (X : String → ql_H → Prop) (p : Program) (e : Env) (s : State) (m : MethodId) (below : List Frame) (meth : Method) (c : Code) (C : ql_C D h0 p m c cL_law 9 s [.ref a0].toArray "ClauseLedgerLaw") (hr : meth.sig.returnType = some .boolean) (hlocks : meth.locks = false) (htab : ∀ x ∈ c.exceptionTable.toList, False) (hX : va_X a0 L9 xs9 s s.heap ∧ a0 < s.heap.size ∧ ¬ ql_A h0 a0) : ∀ n : Nat, n + 1 ≤ 513 → ∀ (k28 : Option Nat → Option Nat → Option Nat → Option Nat → Int32 → ql_H → Prop) (hk28 : ∀ (rl1 : Option Nat) (rl2 : Option Nat) (rl3 : Option Nat) (rl4 : Option Nat) (xl5 : Int32) (h : ql_H) (H : Heap) (locs : List Loc) (ls : Array Slot), ql_S D h0 s H locs h → lv_has ls 9 [(0, .ref a0), (1, va_rf rl1), (2, va_rf rl2), (3, va_rf rl3), (4, va_rf rl4), (5, .int xl5)] → k28 rl1 rl2 rl3 rl4 xl5 h → W p l e ({ frames := 2048, cells := 603072, slots := 7190633, locals := 94400 } : Room) s m ([.ref a0] : List Value).toArray below meth c H locs (1032 + (513 - n) * 21) (15200 + (513 - n) * 5126) (vx_MQ below (ql_Q D h0 (ql_rI Q)) (ql_X D h0 X) ([.ref a0] : List Value).toArray s 603072 7190633 (ql_A h0)) (F0 m 28 ls [])) , ∀ (rl1 : Option Nat) (rl2 : Option Nat) (rl3 : Option Nat) (rl4 : Option Nat) (xl5 : Int32) (h : ql_H) (H : Heap) (locs : List Loc) (ls : Array Slot), ql_S D h0 s H locs h → lv_has ls 9 [(0, .ref a0), (1, va_rf rl1), (2, va_rf rl2), (3, va_rf rl3), (4, va_rf rl4), (5, .int xl5)] → qw_L_law_2410 D.2 L9 xs9 a0 Q X k28 rl1 rl2 rl3 rl4 xl5 h → W p l e ({ frames := 2048, cells := 603072, slots := 7190633, locals := 94400 } : Room) s m ([.ref a0] : List Value).toArray below meth c H locs (1032 + (513 - (n + 1)) * 21) (15200 + (513 - (n + 1)) * 5126) (vx_MQ below (ql_Q D h0 (ql_rI Q)) (ql_X D h0 X) ([.ref a0] : List Value).toArray s 603072 7190633 (ql_A h0)) (F0 m 2410 ls []) := by
  intro n hn9 k28 hk28 rl1 rl2 rl3 rl4 xl5 h H locs ls S hl w
  unfold qw_L_law_2410 at w
  refine ql_aload_n (r := rl1) C dL_law_2410 rfl (lv_at hl 1 rfl) ?_
  refine ql_aload (r := rl4) C dL_law_2411 (lv_at hl 4 rfl) ?_
  refine ql_SHI (As := [va_rf rl1, va_rf rl4]) (rest := []) C S hl qyh_L_meanLength gw_1162 (qm_L_meanLength l hl9 D _ rl1 rl4 _ _ w) rfl ⟨Nat.le_of_ble_eq_true rfl, Nat.le_of_ble_eq_true rfl⟩ ⟨rfl, rfl⟩ (by exact Nat.le_of_ble_eq_true rfl) rfl dL_law_2413 ⟨(by show _ ≤ (603072 : Nat); omega), (by show _ ≤ (7190633 : Nat); omega)⟩ (fun x229 h H locs S w => ?_)
  refine W.cs (cells' := (1033 + (513 - (n + 1)) * 21)) (slots' := (15206 + (513 - (n + 1)) * 5126)) (by omega) (by omega) ?_
  refine lv_istore (lv' := [(6, .int x229), (0, .ref a0), (1, va_rf rl1), (2, va_rf rl2), (3, va_rf rl3), (4, va_rf rl4), (5, .int xl5)]) C.1.1 C.1.2.1 dL_law_2416 hl (by decide) rfl (fun ls hl => ?_)
  refine ql_aload_n (r := rl2) C dL_law_2418 rfl (lv_at hl 3 rfl) ?_
  refine ql_VD (As := []) (rest := []) C S htab hlocks hl qy_X12_meanLength qi_X12_meanLength qs_X12_meanLength gw_2031 (ci := 13) rfl w (fun b w => qm_X12_meanLength l hl9 D _ b _ _ w) rfl ⟨Nat.le_of_ble_eq_true rfl, Nat.le_of_ble_eq_true rfl⟩ ⟨rfl, rfl⟩ (by exact Nat.le_of_ble_eq_true rfl) (fun b e9 => by cases e9; rfl) dL_law_2419 ⟨(by show _ ≤ (603072 : Nat); omega), (by show _ ≤ (7190633 : Nat); omega)⟩ ⟨(by show _ ≤ (603072 : Nat); omega), (by show _ ≤ (7190633 : Nat); omega)⟩ (fun d230 h H locs S w => ?_)
  refine W.cs (cells' := (1033 + (513 - (n + 1)) * 21)) (slots' := (15206 + (513 - (n + 1)) * 5126)) (by omega) (by omega) ?_
  refine lv_dstore (lv' := [(7, .double d230), (6, .int x229), (0, .ref a0), (1, va_rf rl1), (2, va_rf rl2), (3, va_rf rl3), (4, va_rf rl4), (5, .int xl5)]) C.1.1 C.1.2.1 dL_law_2422 hl (by decide) rfl (fun ls hl => ?_)
  refine ql_aload_n (r := rl2) C dL_law_2424 rfl (lv_at hl 4 rfl) ?_
  refine ql_VI (As := []) (rest := []) C S htab hlocks hl qy_X12_thrown qi_X12_thrown qs_X12_thrown gw_1727 (ci := 13) rfl w (fun b w => qm_X12_thrown l hl9 D _ b _ _ w) rfl ⟨Nat.le_of_ble_eq_true rfl, Nat.le_of_ble_eq_true rfl⟩ ⟨rfl, rfl⟩ (by exact Nat.le_of_ble_eq_true rfl) (fun b e9 => by cases e9; rfl) dL_law_2425 ⟨(by show _ ≤ (603072 : Nat); omega), (by show _ ≤ (7190633 : Nat); omega)⟩ ⟨(by show _ ≤ (603072 : Nat); omega), (by show _ ≤ (7190633 : Nat); omega)⟩ (fun x232 h H locs S w => ?_)
  refine W.cs (cells' := (1033 + (513 - (n + 1)) * 21)) (slots' := (15206 + (513 - (n + 1)) * 5126)) (by omega) (by omega) ?_
  refine lv_iload C.1.1 C.1.2.1 dL_law_2428 (lv_at hl 1 rfl) ?_
  refine lv_icmp_eq (tgt := 2435) C.1.1 C.1.2.1 dL_law_2430 (by decide) (fun c9 => ?_) (fun c9 => ?_)
  · replace w := ql_if w c9
    refine lv_iload C.1.1 C.1.2.1 dL_law_2435 (lv_at hl 1 rfl) ?_
    refine lv_if_ne (tgt := 2472) C.1.1 C.1.2.1 dL_law_2437 (by decide) (fun c9 => ?_) (fun c9 => ?_)
    · replace w := ql_ifn w c9
      exact (qm_L_law_2472 l hl9 D h0 L9 xs9 a0 Q X p e s m below meth c C hr hlocks htab hX) n hn9 k28 hk28 rl1 rl2 rl3 rl4 xl5 _ _ _ _ S (lv_sub hl [2, 3, 4, 5, 6, 7] rfl) w
    · replace w := ql_if w c9
      refine ql_aload (r := rl4) C dL_law_2440 (lv_at hl 6 rfl) ?_
      refine lv_iconst (v := (0 : Int32)) C.1.1 C.1.2.1 dL_law_2442 (by decide) ?_
      refine ql_dald C S dL_law_2443 w (fun d234 w => ?_)
      refine lv_dload C.1.1 C.1.2.1 dL_law_2444 (lv_at hl 0 rfl) ?_
      refine lv_dcmp C.1.1 C.1.2.1 dL_law_2446 ?_
      refine lv_if_eq (tgt := 2472) C.1.1 C.1.2.1 dL_law_2447 (by decide) (fun c9 => ?_) (fun c9 => ?_)
      · replace w := ql_if w c9
        exact (qm_L_law_2472 l hl9 D h0 L9 xs9 a0 Q X p e s m below meth c C hr hlocks htab hX) n hn9 k28 hk28 rl1 rl2 rl3 rl4 xl5 _ _ _ _ S (lv_sub hl [2, 3, 4, 5, 6, 7] rfl) w
      · replace w := ql_ifn w c9
        refine ql_aload (r := rl4) C dL_law_2450 (lv_at hl 6 rfl) ?_
        refine lv_iconst (v := (0 : Int32)) C.1.1 C.1.2.1 dL_law_2452 (by decide) ?_
        refine ql_dald C S dL_law_2453 w (fun d235 w => ?_)
        refine ql_aload (r := rl4) C dL_law_2454 (lv_at hl 6 rfl) ?_
        refine lv_iconst (v := (0 : Int32)) C.1.1 C.1.2.1 dL_law_2456 (by decide) ?_
        refine ql_dald C S dL_law_2457 w (fun d236 w => ?_)
        refine lv_dcmp C.1.1 C.1.2.1 dL_law_2458 ?_
        refine lv_if_eq (tgt := 2470) C.1.1 C.1.2.1 dL_law_2459 (by decide) (fun c9 => ?_) (fun c9 => ?_)
        · replace w := ql_if w c9
          refine lv_iconst (v := (0 : Int32)) C.1.1 C.1.2.1 dL_law_2470 (by decide) ?_
          exact ql_zret C S hr hlocks dL_law_2471 ⟨(by show _ ≤ (603072 : Nat); omega), (by show _ ≤ (7190633 : Nat); omega)⟩ w
        · replace w := ql_ifn w c9
          refine lv_dload C.1.1 C.1.2.1 dL_law_2462 (lv_at hl 0 rfl) ?_
          refine lv_dload C.1.1 C.1.2.1 dL_law_2464 (lv_at hl 0 rfl) ?_
          refine lv_dcmp C.1.1 C.1.2.1 dL_law_2466 ?_
          refine lv_if_ne (tgt := 2472) C.1.1 C.1.2.1 dL_law_2467 (by decide) (fun c9 => ?_) (fun c9 => ?_)
          · replace w := ql_ifn w c9
            exact (qm_L_law_2472 l hl9 D h0 L9 xs9 a0 Q X p e s m below meth c C hr hlocks htab hX) n hn9 k28 hk28 rl1 rl2 rl3 rl4 xl5 _ _ _ _ S (lv_sub hl [2, 3, 4, 5, 6, 7] rfl) w
          · replace w := ql_if w c9
            refine lv_iconst (v := (0 : Int32)) C.1.1 C.1.2.1 dL_law_2470 (by decide) ?_
            exact ql_zret C S hr hlocks dL_law_2471 ⟨(by show _ ≤ (603072 : Nat); omega), (by show _ ≤ (7190633 : Nat); omega)⟩ w
  · replace w := ql_ifn w c9
    refine lv_iconst (v := (0 : Int32)) C.1.1 C.1.2.1 dL_law_2433 (by decide) ?_
    exact ql_zret C S hr hlocks dL_law_2434 ⟨(by show _ ≤ (603072 : Nat); omega), (by show _ ≤ (7190633 : Nat); omega)⟩ w
set_option maxHeartbeats 4000000 in
set_option maxRecDepth 100000 in
theorem qm_L_law_2538 (l : Launch) (hl9 : l.stackTraces = false) (D : ql_D) (h0 : ql_H) (L9 : Nat) (xs9 : Nat → Int32) (a0 : Nat) (Q : Int32 → ql_H → Prop) (X : String → ql_H → Prop) (p : Program) (e : Env) (s : State) (m : MethodId) (below : List Frame) (meth : Method) (c : Code) (C : ql_C D h0 p m c cL_law 9 s [.ref a0].toArray "ClauseLedgerLaw") (hr : meth.sig.returnType = some .boolean) (hlocks : meth.locks = false) (htab : ∀ x ∈ c.exceptionTable.toList, False) (hX : va_X a0 L9 xs9 s s.heap ∧ a0 < s.heap.size ∧ ¬ ql_A h0 a0) : ∀ n : Nat, n + 1 ≤ 513 → ∀ (k28 : Option Nat → Option Nat → Option Nat → Option Nat → Int32 → ql_H → Prop) (hk28 : ∀ (rl1 : Option Nat) (rl2 : Option Nat) (rl3 : Option Nat) (rl4 : Option Nat) (xl5 : Int32) (h : ql_H) (H : Heap) (locs : List Loc) (ls : Array Slot), ql_S D h0 s H locs h → lv_has ls 9 [(0, .ref a0), (1, va_rf rl1), (2, va_rf rl2), (3, va_rf rl3), (4, va_rf rl4), (5, .int xl5)] → k28 rl1 rl2 rl3 rl4 xl5 h → W p l e ({ frames := 2048, cells := 603072, slots := 7190633, locals := 94400 } : Room) s m ([.ref a0] : List Value).toArray below meth c H locs (1032 + (513 - n) * 21) (15200 + (513 - n) * 5126) (vx_MQ below (ql_Q D h0 (ql_rI Q)) (ql_X D h0 X) ([.ref a0] : List Value).toArray s 603072 7190633 (ql_A h0)) (F0 m 28 ls [])) , ∀ (rl1 : Option Nat) (rl2 : Option Nat) (rl3 : Option Nat) (rl4 : Option Nat) (xl5 : Int32) (h : ql_H) (H : Heap) (locs : List Loc) (ls : Array Slot), ql_S D h0 s H locs h → lv_has ls 9 [(0, .ref a0), (1, va_rf rl1), (2, va_rf rl2), (3, va_rf rl3), (4, va_rf rl4), (5, .int xl5)] → qw_L_law_2538 D.2 L9 xs9 a0 Q X k28 rl1 rl2 rl3 rl4 xl5 h → W p l e ({ frames := 2048, cells := 603072, slots := 7190633, locals := 94400 } : Room) s m ([.ref a0] : List Value).toArray below meth c H locs (1033 + (513 - (n + 1)) * 21) (15206 + (513 - (n + 1)) * 5126) (vx_MQ below (ql_Q D h0 (ql_rI Q)) (ql_X D h0 X) ([.ref a0] : List Value).toArray s 603072 7190633 (ql_A h0)) (F0 m 2538 ls []) := by
  intro n hn9 k28 hk28 rl1 rl2 rl3 rl4 xl5 h H locs ls S hl w
  unfold qw_L_law_2538 at w
  refine lv_goto (tgt := 2957) C.1.1 C.1.2.1 dL_law_2538 (by decide) ?_
  refine W.widen (k := (1053 + (513 - (n + 1)) * 21)) (n := (20326 + (513 - (n + 1)) * 5126)) (by omega) (by omega) ?_
  exact (qm_L_law_2957 l hl9 D h0 L9 xs9 a0 Q X p e s m below meth c C hr hlocks htab hX) n hn9 k28 hk28 rl1 rl2 rl3 rl4 xl5 _ _ _ _ S (lv_sub hl [0, 1, 2, 3, 4, 5] rfl) w
set_option maxHeartbeats 4000000 in
set_option maxRecDepth 100000 in
theorem qm_L_law_2475 (l : Launch) (hl9 : l.stackTraces = false) (D : ql_D) (h0 : ql_H) (L9 : Nat) (xs9 : Nat → Int32) (a0 : Nat) (Q : Int32 → ql_H → Prop) (X : String → ql_H → Prop) (p : Program) (e : Env) (s : State) (m : MethodId) (below : List Frame) (meth : Method) (c : Code) (C : ql_C D h0 p m c cL_law 9 s [.ref a0].toArray "ClauseLedgerLaw") (hr : meth.sig.returnType = some .boolean) (hlocks : meth.locks = false) (htab : ∀ x ∈ c.exceptionTable.toList, False) (hX : va_X a0 L9 xs9 s s.heap ∧ a0 < s.heap.size ∧ ¬ ql_A h0 a0) : ∀ n : Nat, n + 1 ≤ 513 → ∀ (k28 : Option Nat → Option Nat → Option Nat → Option Nat → Int32 → ql_H → Prop) (hk28 : ∀ (rl1 : Option Nat) (rl2 : Option Nat) (rl3 : Option Nat) (rl4 : Option Nat) (xl5 : Int32) (h : ql_H) (H : Heap) (locs : List Loc) (ls : Array Slot), ql_S D h0 s H locs h → lv_has ls 9 [(0, .ref a0), (1, va_rf rl1), (2, va_rf rl2), (3, va_rf rl3), (4, va_rf rl4), (5, .int xl5)] → k28 rl1 rl2 rl3 rl4 xl5 h → W p l e ({ frames := 2048, cells := 603072, slots := 7190633, locals := 94400 } : Room) s m ([.ref a0] : List Value).toArray below meth c H locs (1032 + (513 - n) * 21) (15200 + (513 - n) * 5126) (vx_MQ below (ql_Q D h0 (ql_rI Q)) (ql_X D h0 X) ([.ref a0] : List Value).toArray s 603072 7190633 (ql_A h0)) (F0 m 28 ls [])) , ∀ (rl1 : Option Nat) (rl2 : Option Nat) (rl3 : Option Nat) (rl4 : Option Nat) (xl5 : Int32) (h : ql_H) (H : Heap) (locs : List Loc) (ls : Array Slot), ql_S D h0 s H locs h → lv_has ls 9 [(0, .ref a0), (1, va_rf rl1), (2, va_rf rl2), (3, va_rf rl3), (4, va_rf rl4), (5, .int xl5)] → qw_L_law_2475 D.2 L9 xs9 a0 Q X k28 rl1 rl2 rl3 rl4 xl5 h → W p l e ({ frames := 2048, cells := 603072, slots := 7190633, locals := 94400 } : Room) s m ([.ref a0] : List Value).toArray below meth c H locs (1032 + (513 - (n + 1)) * 21) (15200 + (513 - (n + 1)) * 5126) (vx_MQ below (ql_Q D h0 (ql_rI Q)) (ql_X D h0 X) ([.ref a0] : List Value).toArray s 603072 7190633 (ql_A h0)) (F0 m 2475 ls []) := by
  intro n hn9 k28 hk28 rl1 rl2 rl3 rl4 xl5 h H locs ls S hl w
  unfold qw_L_law_2475 at w
  refine ql_aload_n (r := rl1) C dL_law_2475 rfl (lv_at hl 1 rfl) ?_
  refine ql_aload (r := rl4) C dL_law_2476 (lv_at hl 4 rfl) ?_
  refine ql_SHI (As := [va_rf rl1, va_rf rl4]) (rest := []) C S hl qyh_L_inForceShare gw_1192 (qm_L_inForceShare l hl9 D _ rl1 rl4 _ _ w) rfl ⟨Nat.le_of_ble_eq_true rfl, Nat.le_of_ble_eq_true rfl⟩ ⟨rfl, rfl⟩ (by exact Nat.le_of_ble_eq_true rfl) rfl dL_law_2478 ⟨(by show _ ≤ (603072 : Nat); omega), (by show _ ≤ (7190633 : Nat); omega)⟩ (fun x237 h H locs S w => ?_)
  refine W.cs (cells' := (1033 + (513 - (n + 1)) * 21)) (slots' := (15206 + (513 - (n + 1)) * 5126)) (by omega) (by omega) ?_
  refine lv_istore (lv' := [(6, .int x237), (0, .ref a0), (1, va_rf rl1), (2, va_rf rl2), (3, va_rf rl3), (4, va_rf rl4), (5, .int xl5)]) C.1.1 C.1.2.1 dL_law_2481 hl (by decide) rfl (fun ls hl => ?_)
  refine ql_aload_n (r := rl2) C dL_law_2483 rfl (lv_at hl 3 rfl) ?_
  refine ql_VF (As := []) (rest := []) C S htab hlocks hl qy_X12_inForceShare qi_X12_inForceShare qs_X12_inForceShare gw_2035 (ci := 13) rfl w (fun b w => qm_X12_inForceShare l hl9 D _ b _ _ w) rfl ⟨Nat.le_of_ble_eq_true rfl, Nat.le_of_ble_eq_true rfl⟩ ⟨rfl, rfl⟩ (by exact Nat.le_of_ble_eq_true rfl) (fun b e9 => by cases e9; rfl) dL_law_2484 ⟨(by show _ ≤ (603072 : Nat); omega), (by show _ ≤ (7190633 : Nat); omega)⟩ ⟨(by show _ ≤ (603072 : Nat); omega), (by show _ ≤ (7190633 : Nat); omega)⟩ (fun f238 h H locs S w => ?_)
  refine W.cs (cells' := (1033 + (513 - (n + 1)) * 21)) (slots' := (15206 + (513 - (n + 1)) * 5126)) (by omega) (by omega) ?_
  refine lv_fstore (lv' := [(7, .float f238), (6, .int x237), (0, .ref a0), (1, va_rf rl1), (2, va_rf rl2), (3, va_rf rl3), (4, va_rf rl4), (5, .int xl5)]) C.1.1 C.1.2.1 dL_law_2487 hl (by decide) rfl (fun ls hl => ?_)
  refine ql_aload_n (r := rl2) C dL_law_2489 rfl (lv_at hl 4 rfl) ?_
  refine ql_VI (As := []) (rest := []) C S htab hlocks hl qy_X12_thrown qi_X12_thrown qs_X12_thrown gw_1727 (ci := 13) rfl w (fun b w => qm_X12_thrown l hl9 D _ b _ _ w) rfl ⟨Nat.le_of_ble_eq_true rfl, Nat.le_of_ble_eq_true rfl⟩ ⟨rfl, rfl⟩ (by exact Nat.le_of_ble_eq_true rfl) (fun b e9 => by cases e9; rfl) dL_law_2490 ⟨(by show _ ≤ (603072 : Nat); omega), (by show _ ≤ (7190633 : Nat); omega)⟩ ⟨(by show _ ≤ (603072 : Nat); omega), (by show _ ≤ (7190633 : Nat); omega)⟩ (fun x240 h H locs S w => ?_)
  refine W.cs (cells' := (1033 + (513 - (n + 1)) * 21)) (slots' := (15206 + (513 - (n + 1)) * 5126)) (by omega) (by omega) ?_
  refine lv_iload C.1.1 C.1.2.1 dL_law_2493 (lv_at hl 1 rfl) ?_
  refine lv_icmp_eq (tgt := 2500) C.1.1 C.1.2.1 dL_law_2495 (by decide) (fun c9 => ?_) (fun c9 => ?_)
  · replace w := ql_if w c9
    refine lv_iload C.1.1 C.1.2.1 dL_law_2500 (lv_at hl 1 rfl) ?_
    refine lv_if_ne (tgt := 2538) C.1.1 C.1.2.1 dL_law_2502 (by decide) (fun c9 => ?_) (fun c9 => ?_)
    · replace w := ql_ifn w c9
      exact (qm_L_law_2538 l hl9 D h0 L9 xs9 a0 Q X p e s m below meth c C hr hlocks htab hX) n hn9 k28 hk28 rl1 rl2 rl3 rl4 xl5 _ _ _ _ S (lv_sub hl [2, 3, 4, 5, 6, 7] rfl) w
    · replace w := ql_if w c9
      refine ql_aload (r := rl4) C dL_law_2505 (lv_at hl 6 rfl) ?_
      refine lv_iconst (v := (0 : Int32)) C.1.1 C.1.2.1 dL_law_2507 (by decide) ?_
      refine ql_dald C S dL_law_2508 w (fun d242 w => ?_)
      refine lv_fload C.1.1 C.1.2.1 dL_law_2509 (lv_at hl 0 rfl) ?_
      refine lv_f2d C.1.1 C.1.2.1 dL_law_2511 w.1 ?_
      replace w := w.2
      refine lv_dcmp C.1.1 C.1.2.1 dL_law_2512 ?_
      refine lv_if_eq (tgt := 2538) C.1.1 C.1.2.1 dL_law_2513 (by decide) (fun c9 => ?_) (fun c9 => ?_)
      · replace w := ql_if w c9
        exact (qm_L_law_2538 l hl9 D h0 L9 xs9 a0 Q X p e s m below meth c C hr hlocks htab hX) n hn9 k28 hk28 rl1 rl2 rl3 rl4 xl5 _ _ _ _ S (lv_sub hl [2, 3, 4, 5, 6, 7] rfl) w
      · replace w := ql_ifn w c9
        refine ql_aload (r := rl4) C dL_law_2516 (lv_at hl 6 rfl) ?_
        refine lv_iconst (v := (0 : Int32)) C.1.1 C.1.2.1 dL_law_2518 (by decide) ?_
        refine ql_dald C S dL_law_2519 w (fun d243 w => ?_)
        refine ql_aload (r := rl4) C dL_law_2520 (lv_at hl 6 rfl) ?_
        refine lv_iconst (v := (0 : Int32)) C.1.1 C.1.2.1 dL_law_2522 (by decide) ?_
        refine ql_dald C S dL_law_2523 w (fun d244 w => ?_)
        refine lv_dcmp C.1.1 C.1.2.1 dL_law_2524 ?_
        refine lv_if_eq (tgt := 2536) C.1.1 C.1.2.1 dL_law_2525 (by decide) (fun c9 => ?_) (fun c9 => ?_)
        · replace w := ql_if w c9
          refine lv_iconst (v := (0 : Int32)) C.1.1 C.1.2.1 dL_law_2536 (by decide) ?_
          exact ql_zret C S hr hlocks dL_law_2537 ⟨(by show _ ≤ (603072 : Nat); omega), (by show _ ≤ (7190633 : Nat); omega)⟩ w
        · replace w := ql_ifn w c9
          refine lv_fload C.1.1 C.1.2.1 dL_law_2528 (lv_at hl 0 rfl) ?_
          refine lv_fload C.1.1 C.1.2.1 dL_law_2530 (lv_at hl 0 rfl) ?_
          refine lv_fcmp C.1.1 C.1.2.1 dL_law_2532 ?_
          refine lv_if_ne (tgt := 2538) C.1.1 C.1.2.1 dL_law_2533 (by decide) (fun c9 => ?_) (fun c9 => ?_)
          · replace w := ql_ifn w c9
            exact (qm_L_law_2538 l hl9 D h0 L9 xs9 a0 Q X p e s m below meth c C hr hlocks htab hX) n hn9 k28 hk28 rl1 rl2 rl3 rl4 xl5 _ _ _ _ S (lv_sub hl [2, 3, 4, 5, 6, 7] rfl) w
          · replace w := ql_if w c9
            refine lv_iconst (v := (0 : Int32)) C.1.1 C.1.2.1 dL_law_2536 (by decide) ?_
            exact ql_zret C S hr hlocks dL_law_2537 ⟨(by show _ ≤ (603072 : Nat); omega), (by show _ ≤ (7190633 : Nat); omega)⟩ w
  · replace w := ql_ifn w c9
    refine lv_iconst (v := (0 : Int32)) C.1.1 C.1.2.1 dL_law_2498 (by decide) ?_
    exact ql_zret C S hr hlocks dL_law_2499 ⟨(by show _ ≤ (603072 : Nat); omega), (by show _ ≤ (7190633 : Nat); omega)⟩ w
set_option maxHeartbeats 4000000 in
set_option maxRecDepth 100000 in
theorem qm_L_law_2541 (l : Launch) (hl9 : l.stackTraces = false) (D : ql_D) (h0 : ql_H) (L9 : Nat) (xs9 : Nat → Int32) (a0 : Nat) (Q : Int32 → ql_H → Prop) (X : String → ql_H → Prop) (p : Program) (e : Env) (s : State) (m : MethodId) (below : List Frame) (meth : Method) (c : Code) (C : ql_C D h0 p m c cL_law 9 s [.ref a0].toArray "ClauseLedgerLaw") (hr : meth.sig.returnType = some .boolean) (hlocks : meth.locks = false) (htab : ∀ x ∈ c.exceptionTable.toList, False) (hX : va_X a0 L9 xs9 s s.heap ∧ a0 < s.heap.size ∧ ¬ ql_A h0 a0) : ∀ n : Nat, n + 1 ≤ 513 → ∀ (k28 : Option Nat → Option Nat → Option Nat → Option Nat → Int32 → ql_H → Prop) (hk28 : ∀ (rl1 : Option Nat) (rl2 : Option Nat) (rl3 : Option Nat) (rl4 : Option Nat) (xl5 : Int32) (h : ql_H) (H : Heap) (locs : List Loc) (ls : Array Slot), ql_S D h0 s H locs h → lv_has ls 9 [(0, .ref a0), (1, va_rf rl1), (2, va_rf rl2), (3, va_rf rl3), (4, va_rf rl4), (5, .int xl5)] → k28 rl1 rl2 rl3 rl4 xl5 h → W p l e ({ frames := 2048, cells := 603072, slots := 7190633, locals := 94400 } : Room) s m ([.ref a0] : List Value).toArray below meth c H locs (1032 + (513 - n) * 21) (15200 + (513 - n) * 5126) (vx_MQ below (ql_Q D h0 (ql_rI Q)) (ql_X D h0 X) ([.ref a0] : List Value).toArray s 603072 7190633 (ql_A h0)) (F0 m 28 ls [])) , ∀ (rl1 : Option Nat) (rl2 : Option Nat) (rl3 : Option Nat) (rl4 : Option Nat) (xl5 : Int32) (h : ql_H) (H : Heap) (locs : List Loc) (ls : Array Slot), ql_S D h0 s H locs h → lv_has ls 9 [(0, .ref a0), (1, va_rf rl1), (2, va_rf rl2), (3, va_rf rl3), (4, va_rf rl4), (5, .int xl5)] → qw_L_law_2541 D.2 L9 xs9 a0 Q X k28 rl1 rl2 rl3 rl4 xl5 h → W p l e ({ frames := 2048, cells := 603072, slots := 7190633, locals := 94400 } : Room) s m ([.ref a0] : List Value).toArray below meth c H locs (1032 + (513 - (n + 1)) * 21) (15200 + (513 - (n + 1)) * 5126) (vx_MQ below (ql_Q D h0 (ql_rI Q)) (ql_X D h0 X) ([.ref a0] : List Value).toArray s 603072 7190633 (ql_A h0)) (F0 m 2541 ls []) := by
  intro n hn9 k28 hk28 rl1 rl2 rl3 rl4 xl5 h H locs ls S hl w
  unfold qw_L_law_2541 at w
  refine ql_aload_n (r := rl1) C dL_law_2541 rfl (lv_at hl 1 rfl) ?_
  refine ql_VI (As := []) (rest := []) C S htab hlocks hl qy_X11_isConsistent qi_X11_isConsistent qs_X11_isConsistent gw_698 (ci := 12) rfl w (fun b w => qm_X11_isConsistent l hl9 D _ b _ _ w) rfl ⟨Nat.le_of_ble_eq_true rfl, Nat.le_of_ble_eq_true rfl⟩ ⟨rfl, rfl⟩ (by exact Nat.le_of_ble_eq_true rfl) (fun b e9 => by cases e9; rfl) dL_law_2542 ⟨(by show _ ≤ (603072 : Nat); omega), (by show _ ≤ (7190633 : Nat); omega)⟩ ⟨(by show _ ≤ (603072 : Nat); omega), (by show _ ≤ (7190633 : Nat); omega)⟩ (fun x245 h H locs S w => ?_)
  refine W.cs (cells' := (1032 + (513 - (n + 1)) * 21)) (slots' := (15200 + (513 - (n + 1)) * 5126)) (by omega) (by omega) ?_
  refine ql_aload_n (r := rl2) C dL_law_2545 rfl (lv_at hl 2 rfl) ?_
  refine ql_VI (As := []) (rest := [.int x245]) C S htab hlocks hl qy_X12_isConsistent qi_X12_isConsistent qs_X12_isConsistent gw_2039 (ci := 13) rfl w (fun b w => qm_X12_isConsistent l hl9 D _ b _ _ w) rfl ⟨Nat.le_of_ble_eq_true rfl, Nat.le_of_ble_eq_true rfl⟩ ⟨rfl, rfl⟩ (by exact Nat.le_of_ble_eq_true rfl) (fun b e9 => by cases e9; rfl) dL_law_2546 ⟨(by show _ ≤ (603072 : Nat); omega), (by show _ ≤ (7190633 : Nat); omega)⟩ ⟨(by show _ ≤ (603072 : Nat); omega), (by show _ ≤ (7190633 : Nat); omega)⟩ (fun x247 h H locs S w => ?_)
  refine W.cs (cells' := (1032 + (513 - (n + 1)) * 21)) (slots' := (15200 + (513 - (n + 1)) * 5126)) (by omega) (by omega) ?_
  refine lv_icmp_eq (tgt := 2957) C.1.1 C.1.2.1 dL_law_2549 (by decide) (fun c9 => ?_) (fun c9 => ?_)
  · replace w := ql_if w c9
    refine W.widen (k := (1053 + (513 - (n + 1)) * 21)) (n := (20326 + (513 - (n + 1)) * 5126)) (by omega) (by omega) ?_
    exact (qm_L_law_2957 l hl9 D h0 L9 xs9 a0 Q X p e s m below meth c C hr hlocks htab hX) n hn9 k28 hk28 rl1 rl2 rl3 rl4 xl5 _ _ _ _ S (lv_sub hl [0, 1, 2, 3, 4, 5] rfl) w
  · replace w := ql_ifn w c9
    refine lv_iconst (v := (0 : Int32)) C.1.1 C.1.2.1 dL_law_2552 (by decide) ?_
    exact ql_zret C S hr hlocks dL_law_2553 ⟨(by show _ ≤ (603072 : Nat); omega), (by show _ ≤ (7190633 : Nat); omega)⟩ w
set_option maxHeartbeats 4000000 in
set_option maxRecDepth 100000 in
theorem qm_L_law_2607 (l : Launch) (hl9 : l.stackTraces = false) (D : ql_D) (h0 : ql_H) (L9 : Nat) (xs9 : Nat → Int32) (a0 : Nat) (Q : Int32 → ql_H → Prop) (X : String → ql_H → Prop) (p : Program) (e : Env) (s : State) (m : MethodId) (below : List Frame) (meth : Method) (c : Code) (C : ql_C D h0 p m c cL_law 9 s [.ref a0].toArray "ClauseLedgerLaw") (hr : meth.sig.returnType = some .boolean) (hlocks : meth.locks = false) (htab : ∀ x ∈ c.exceptionTable.toList, False) (hX : va_X a0 L9 xs9 s s.heap ∧ a0 < s.heap.size ∧ ¬ ql_A h0 a0) : ∀ n : Nat, n + 1 ≤ 513 → ∀ (k28 : Option Nat → Option Nat → Option Nat → Option Nat → Int32 → ql_H → Prop) (hk28 : ∀ (rl1 : Option Nat) (rl2 : Option Nat) (rl3 : Option Nat) (rl4 : Option Nat) (xl5 : Int32) (h : ql_H) (H : Heap) (locs : List Loc) (ls : Array Slot), ql_S D h0 s H locs h → lv_has ls 9 [(0, .ref a0), (1, va_rf rl1), (2, va_rf rl2), (3, va_rf rl3), (4, va_rf rl4), (5, .int xl5)] → k28 rl1 rl2 rl3 rl4 xl5 h → W p l e ({ frames := 2048, cells := 603072, slots := 7190633, locals := 94400 } : Room) s m ([.ref a0] : List Value).toArray below meth c H locs (1032 + (513 - n) * 21) (15200 + (513 - n) * 5126) (vx_MQ below (ql_Q D h0 (ql_rI Q)) (ql_X D h0 X) ([.ref a0] : List Value).toArray s 603072 7190633 (ql_A h0)) (F0 m 28 ls [])) , ∀ (rl1 : Option Nat) (rl2 : Option Nat) (rl3 : Option Nat) (rl4 : Option Nat) (xl5 : Int32) (h : ql_H) (H : Heap) (locs : List Loc) (ls : Array Slot), ql_S D h0 s H locs h → lv_has ls 9 [(0, .ref a0), (1, va_rf rl1), (2, va_rf rl2), (3, va_rf rl3), (4, va_rf rl4), (5, .int xl5)] → qw_L_law_2607 D.2 L9 xs9 a0 Q X k28 rl1 rl2 rl3 rl4 xl5 h → W p l e ({ frames := 2048, cells := 603072, slots := 7190633, locals := 94400 } : Room) s m ([.ref a0] : List Value).toArray below meth c H locs (1053 + (513 - (n + 1)) * 21) (20326 + (513 - (n + 1)) * 5126) (vx_MQ below (ql_Q D h0 (ql_rI Q)) (ql_X D h0 X) ([.ref a0] : List Value).toArray s 603072 7190633 (ql_A h0)) (F0 m 2607 ls []) := by
  intro n hn9 k28 hk28 rl1 rl2 rl3 rl4 xl5 h H locs ls S hl w
  unfold qw_L_law_2607 at w
  refine lv_goto (tgt := 2957) C.1.1 C.1.2.1 dL_law_2607 (by decide) ?_
  exact (qm_L_law_2957 l hl9 D h0 L9 xs9 a0 Q X p e s m below meth c C hr hlocks htab hX) n hn9 k28 hk28 rl1 rl2 rl3 rl4 xl5 _ _ _ _ S (lv_sub hl [0, 1, 2, 3, 4, 5] rfl) w
set_option maxHeartbeats 4000000 in
set_option maxRecDepth 100000 in
theorem qm_L_law_2554 (l : Launch) (hl9 : l.stackTraces = false) (D : ql_D) (h0 : ql_H) (L9 : Nat) (xs9 : Nat → Int32) (a0 : Nat) (Q : Int32 → ql_H → Prop) (X : String → ql_H → Prop) (p : Program) (e : Env) (s : State) (m : MethodId) (below : List Frame) (meth : Method) (c : Code) (C : ql_C D h0 p m c cL_law 9 s [.ref a0].toArray "ClauseLedgerLaw") (hr : meth.sig.returnType = some .boolean) (hlocks : meth.locks = false) (htab : ∀ x ∈ c.exceptionTable.toList, False) (hX : va_X a0 L9 xs9 s s.heap ∧ a0 < s.heap.size ∧ ¬ ql_A h0 a0) : ∀ n : Nat, n + 1 ≤ 513 → ∀ (k28 : Option Nat → Option Nat → Option Nat → Option Nat → Int32 → ql_H → Prop) (hk28 : ∀ (rl1 : Option Nat) (rl2 : Option Nat) (rl3 : Option Nat) (rl4 : Option Nat) (xl5 : Int32) (h : ql_H) (H : Heap) (locs : List Loc) (ls : Array Slot), ql_S D h0 s H locs h → lv_has ls 9 [(0, .ref a0), (1, va_rf rl1), (2, va_rf rl2), (3, va_rf rl3), (4, va_rf rl4), (5, .int xl5)] → k28 rl1 rl2 rl3 rl4 xl5 h → W p l e ({ frames := 2048, cells := 603072, slots := 7190633, locals := 94400 } : Room) s m ([.ref a0] : List Value).toArray below meth c H locs (1032 + (513 - n) * 21) (15200 + (513 - n) * 5126) (vx_MQ below (ql_Q D h0 (ql_rI Q)) (ql_X D h0 X) ([.ref a0] : List Value).toArray s 603072 7190633 (ql_A h0)) (F0 m 28 ls [])) , ∀ (rl1 : Option Nat) (rl2 : Option Nat) (rl3 : Option Nat) (rl4 : Option Nat) (xl5 : Int32) (h : ql_H) (H : Heap) (locs : List Loc) (ls : Array Slot), ql_S D h0 s H locs h → lv_has ls 9 [(0, .ref a0), (1, va_rf rl1), (2, va_rf rl2), (3, va_rf rl3), (4, va_rf rl4), (5, .int xl5)] → qw_L_law_2554 D.2 L9 xs9 a0 Q X k28 rl1 rl2 rl3 rl4 xl5 h → W p l e ({ frames := 2048, cells := 603072, slots := 7190633, locals := 94400 } : Room) s m ([.ref a0] : List Value).toArray below meth c H locs (1032 + (513 - (n + 1)) * 21) (15200 + (513 - (n + 1)) * 5126) (vx_MQ below (ql_Q D h0 (ql_rI Q)) (ql_X D h0 X) ([.ref a0] : List Value).toArray s 603072 7190633 (ql_A h0)) (F0 m 2554 ls []) := by
  intro n hn9 k28 hk28 rl1 rl2 rl3 rl4 xl5 h H locs ls S hl w
  unfold qw_L_law_2554 at w
  refine ql_aload_n (r := rl1) C dL_law_2554 rfl (lv_at hl 1 rfl) ?_
  refine ql_aload_n (r := (some a0)) C dL_law_2555 rfl (lv_at hl 0 rfl) ?_
  refine lv_iload C.1.1 C.1.2.1 dL_law_2556 (lv_at hl 5 rfl) ?_
  refine lv_iconst (v := (1 : Int32)) C.1.1 C.1.2.1 dL_law_2558 (by decide) ?_
  refine lv_iadd C.1.1 C.1.2.1 dL_law_2559 ?_
  refine ql_sld C S hX w.1 dL_law_2560 ?_
  replace w := w.2
  refine ql_aload_n (r := rl3) C dL_law_2561 rfl (lv_at hl 3 rfl) ?_
  refine ql_SHI (As := [va_rf rl1, .int (xs9 (xl5 + (1 : Int32)).toNatClampNeg), va_rf rl3]) (rest := []) C S hl qyh_L_renderClause gw_1199 (qm_L_renderClause l hl9 D _ rl1 (xs9 (xl5 + (1 : Int32)).toNatClampNeg) rl3 _ _ w) rfl ⟨Nat.le_of_ble_eq_true rfl, Nat.le_of_ble_eq_true rfl⟩ ⟨rfl, rfl⟩ (by exact Nat.le_of_ble_eq_true rfl) rfl dL_law_2562 ⟨(by show _ ≤ (603072 : Nat); omega), (by show _ ≤ (7190633 : Nat); omega)⟩ (fun x249 h H locs S w => ?_)
  refine W.widen (k := (1053 + (513 - (n + 1)) * 21)) (n := (20326 + (513 - (n + 1)) * 5126)) (by omega) (by omega) ?_
  refine lv_istore (lv' := [(6, .int x249), (0, .ref a0), (1, va_rf rl1), (2, va_rf rl2), (3, va_rf rl3), (4, va_rf rl4), (5, .int xl5)]) C.1.1 C.1.2.1 dL_law_2565 hl (by decide) rfl (fun ls hl => ?_)
  refine ql_aload_n (r := rl2) C dL_law_2567 rfl (lv_at hl 3 rfl) ?_
  refine ql_aload_n (r := (some a0)) C dL_law_2568 rfl (lv_at hl 1 rfl) ?_
  refine lv_iload C.1.1 C.1.2.1 dL_law_2569 (lv_at hl 6 rfl) ?_
  refine lv_iconst (v := (1 : Int32)) C.1.1 C.1.2.1 dL_law_2571 (by decide) ?_
  refine lv_iadd C.1.1 C.1.2.1 dL_law_2572 ?_
  refine ql_sld C S hX w.1 dL_law_2573 ?_
  replace w := w.2
  refine ql_VI (As := [.int (xs9 (xl5 + (1 : Int32)).toNatClampNeg)]) (rest := []) C S htab hlocks hl qy_X12_renderClause qi_X12_renderClause qs_X12_renderClause gw_2043 (ci := 13) rfl w (fun b w => qm_X12_renderClause l hl9 D _ b (xs9 (xl5 + (1 : Int32)).toNatClampNeg) _ _ w) rfl ⟨Nat.le_of_ble_eq_true rfl, Nat.le_of_ble_eq_true rfl⟩ ⟨rfl, rfl⟩ (by exact Nat.le_of_ble_eq_true rfl) (fun b e9 => by cases e9; rfl) dL_law_2574 ⟨(by show _ ≤ (603072 : Nat); omega), (by show _ ≤ (7190633 : Nat); omega)⟩ ⟨(by show _ ≤ (603072 : Nat); omega), (by show _ ≤ (7190633 : Nat); omega)⟩ (fun x250 h H locs S w => ?_)
  refine W.widen (k := (1053 + (513 - (n + 1)) * 21)) (n := (20326 + (513 - (n + 1)) * 5126)) (by omega) (by omega) ?_
  refine lv_istore (lv' := [(7, .int x250), (6, .int x249), (0, .ref a0), (1, va_rf rl1), (2, va_rf rl2), (3, va_rf rl3), (4, va_rf rl4), (5, .int xl5)]) C.1.1 C.1.2.1 dL_law_2577 hl (by decide) rfl (fun ls hl => ?_)
  refine ql_aload_n (r := rl2) C dL_law_2579 rfl (lv_at hl 4 rfl) ?_
  refine ql_VI (As := []) (rest := []) C S htab hlocks hl qy_X12_thrown qi_X12_thrown qs_X12_thrown gw_1727 (ci := 13) rfl w (fun b w => qm_X12_thrown l hl9 D _ b _ _ w) rfl ⟨Nat.le_of_ble_eq_true rfl, Nat.le_of_ble_eq_true rfl⟩ ⟨rfl, rfl⟩ (by exact Nat.le_of_ble_eq_true rfl) (fun b e9 => by cases e9; rfl) dL_law_2580 ⟨(by show _ ≤ (603072 : Nat); omega), (by show _ ≤ (7190633 : Nat); omega)⟩ ⟨(by show _ ≤ (603072 : Nat); omega), (by show _ ≤ (7190633 : Nat); omega)⟩ (fun x252 h H locs S w => ?_)
  refine W.widen (k := (1053 + (513 - (n + 1)) * 21)) (n := (20326 + (513 - (n + 1)) * 5126)) (by omega) (by omega) ?_
  refine lv_iload C.1.1 C.1.2.1 dL_law_2583 (lv_at hl 1 rfl) ?_
  refine lv_icmp_eq (tgt := 2590) C.1.1 C.1.2.1 dL_law_2585 (by decide) (fun c9 => ?_) (fun c9 => ?_)
  · replace w := ql_if w c9
    refine lv_iload C.1.1 C.1.2.1 dL_law_2590 (lv_at hl 1 rfl) ?_
    refine lv_if_ne (tgt := 2607) C.1.1 C.1.2.1 dL_law_2592 (by decide) (fun c9 => ?_) (fun c9 => ?_)
    · replace w := ql_ifn w c9
      exact (qm_L_law_2607 l hl9 D h0 L9 xs9 a0 Q X p e s m below meth c C hr hlocks htab hX) n hn9 k28 hk28 rl1 rl2 rl3 rl4 xl5 _ _ _ _ S (lv_sub hl [2, 3, 4, 5, 6, 7] rfl) w
    · replace w := ql_if w c9
      refine ql_aload_n (r := rl3) C dL_law_2595 rfl (lv_at hl 5 rfl) ?_
      refine lv_iconst (v := (0 : Int32)) C.1.1 C.1.2.1 dL_law_2596 (by decide) ?_
      refine ql_lald C S dL_law_2597 w (fun j254 w => ?_)
      refine lv_iload C.1.1 C.1.2.1 dL_law_2598 (lv_at hl 0 rfl) ?_
      refine lv_i2l C.1.1 C.1.2.1 dL_law_2600 rfl ?_
      refine W.lcmp C.1.1 C.1.2.1 dL_law_2601 ?_
      refine lv_if_eq (tgt := 2607) C.1.1 C.1.2.1 dL_law_2602 (by decide) (fun c9 => ?_) (fun c9 => ?_)
      · replace w := ql_if w c9
        exact (qm_L_law_2607 l hl9 D h0 L9 xs9 a0 Q X p e s m below meth c C hr hlocks htab hX) n hn9 k28 hk28 rl1 rl2 rl3 rl4 xl5 _ _ _ _ S (lv_sub hl [2, 3, 4, 5, 6, 7] rfl) w
      · replace w := ql_ifn w c9
        refine lv_iconst (v := (0 : Int32)) C.1.1 C.1.2.1 dL_law_2605 (by decide) ?_
        exact ql_zret C S hr hlocks dL_law_2606 ⟨(by show _ ≤ (603072 : Nat); omega), (by show _ ≤ (7190633 : Nat); omega)⟩ w
  · replace w := ql_ifn w c9
    refine lv_iconst (v := (0 : Int32)) C.1.1 C.1.2.1 dL_law_2588 (by decide) ?_
    exact ql_zret C S hr hlocks dL_law_2589 ⟨(by show _ ≤ (603072 : Nat); omega), (by show _ ≤ (7190633 : Nat); omega)⟩ w
set_option maxHeartbeats 4000000 in
set_option maxRecDepth 100000 in
theorem qm_L_law_2663 (l : Launch) (hl9 : l.stackTraces = false) (D : ql_D) (h0 : ql_H) (L9 : Nat) (xs9 : Nat → Int32) (a0 : Nat) (Q : Int32 → ql_H → Prop) (X : String → ql_H → Prop) (p : Program) (e : Env) (s : State) (m : MethodId) (below : List Frame) (meth : Method) (c : Code) (C : ql_C D h0 p m c cL_law 9 s [.ref a0].toArray "ClauseLedgerLaw") (hr : meth.sig.returnType = some .boolean) (hlocks : meth.locks = false) (htab : ∀ x ∈ c.exceptionTable.toList, False) (hX : va_X a0 L9 xs9 s s.heap ∧ a0 < s.heap.size ∧ ¬ ql_A h0 a0) : ∀ n : Nat, n + 1 ≤ 513 → ∀ (k28 : Option Nat → Option Nat → Option Nat → Option Nat → Int32 → ql_H → Prop) (hk28 : ∀ (rl1 : Option Nat) (rl2 : Option Nat) (rl3 : Option Nat) (rl4 : Option Nat) (xl5 : Int32) (h : ql_H) (H : Heap) (locs : List Loc) (ls : Array Slot), ql_S D h0 s H locs h → lv_has ls 9 [(0, .ref a0), (1, va_rf rl1), (2, va_rf rl2), (3, va_rf rl3), (4, va_rf rl4), (5, .int xl5)] → k28 rl1 rl2 rl3 rl4 xl5 h → W p l e ({ frames := 2048, cells := 603072, slots := 7190633, locals := 94400 } : Room) s m ([.ref a0] : List Value).toArray below meth c H locs (1032 + (513 - n) * 21) (15200 + (513 - n) * 5126) (vx_MQ below (ql_Q D h0 (ql_rI Q)) (ql_X D h0 X) ([.ref a0] : List Value).toArray s 603072 7190633 (ql_A h0)) (F0 m 28 ls [])) , ∀ (rl1 : Option Nat) (rl2 : Option Nat) (rl3 : Option Nat) (rl4 : Option Nat) (xl5 : Int32) (h : ql_H) (H : Heap) (locs : List Loc) (ls : Array Slot), ql_S D h0 s H locs h → lv_has ls 9 [(0, .ref a0), (1, va_rf rl1), (2, va_rf rl2), (3, va_rf rl3), (4, va_rf rl4), (5, .int xl5)] → qw_L_law_2663 D.2 L9 xs9 a0 Q X k28 rl1 rl2 rl3 rl4 xl5 h → W p l e ({ frames := 2048, cells := 603072, slots := 7190633, locals := 94400 } : Room) s m ([.ref a0] : List Value).toArray below meth c H locs (1033 + (513 - (n + 1)) * 21) (15206 + (513 - (n + 1)) * 5126) (vx_MQ below (ql_Q D h0 (ql_rI Q)) (ql_X D h0 X) ([.ref a0] : List Value).toArray s 603072 7190633 (ql_A h0)) (F0 m 2663 ls []) := by
  intro n hn9 k28 hk28 rl1 rl2 rl3 rl4 xl5 h H locs ls S hl w
  unfold qw_L_law_2663 at w
  refine lv_goto (tgt := 2957) C.1.1 C.1.2.1 dL_law_2663 (by decide) ?_
  refine W.widen (k := (1053 + (513 - (n + 1)) * 21)) (n := (20326 + (513 - (n + 1)) * 5126)) (by omega) (by omega) ?_
  exact (qm_L_law_2957 l hl9 D h0 L9 xs9 a0 Q X p e s m below meth c C hr hlocks htab hX) n hn9 k28 hk28 rl1 rl2 rl3 rl4 xl5 _ _ _ _ S (lv_sub hl [0, 1, 2, 3, 4, 5] rfl) w
set_option maxHeartbeats 4000000 in
set_option maxRecDepth 100000 in
theorem qm_L_law_2610 (l : Launch) (hl9 : l.stackTraces = false) (D : ql_D) (h0 : ql_H) (L9 : Nat) (xs9 : Nat → Int32) (a0 : Nat) (Q : Int32 → ql_H → Prop) (X : String → ql_H → Prop) (p : Program) (e : Env) (s : State) (m : MethodId) (below : List Frame) (meth : Method) (c : Code) (C : ql_C D h0 p m c cL_law 9 s [.ref a0].toArray "ClauseLedgerLaw") (hr : meth.sig.returnType = some .boolean) (hlocks : meth.locks = false) (htab : ∀ x ∈ c.exceptionTable.toList, False) (hX : va_X a0 L9 xs9 s s.heap ∧ a0 < s.heap.size ∧ ¬ ql_A h0 a0) : ∀ n : Nat, n + 1 ≤ 513 → ∀ (k28 : Option Nat → Option Nat → Option Nat → Option Nat → Int32 → ql_H → Prop) (hk28 : ∀ (rl1 : Option Nat) (rl2 : Option Nat) (rl3 : Option Nat) (rl4 : Option Nat) (xl5 : Int32) (h : ql_H) (H : Heap) (locs : List Loc) (ls : Array Slot), ql_S D h0 s H locs h → lv_has ls 9 [(0, .ref a0), (1, va_rf rl1), (2, va_rf rl2), (3, va_rf rl3), (4, va_rf rl4), (5, .int xl5)] → k28 rl1 rl2 rl3 rl4 xl5 h → W p l e ({ frames := 2048, cells := 603072, slots := 7190633, locals := 94400 } : Room) s m ([.ref a0] : List Value).toArray below meth c H locs (1032 + (513 - n) * 21) (15200 + (513 - n) * 5126) (vx_MQ below (ql_Q D h0 (ql_rI Q)) (ql_X D h0 X) ([.ref a0] : List Value).toArray s 603072 7190633 (ql_A h0)) (F0 m 28 ls [])) , ∀ (rl1 : Option Nat) (rl2 : Option Nat) (rl3 : Option Nat) (rl4 : Option Nat) (xl5 : Int32) (h : ql_H) (H : Heap) (locs : List Loc) (ls : Array Slot), ql_S D h0 s H locs h → lv_has ls 9 [(0, .ref a0), (1, va_rf rl1), (2, va_rf rl2), (3, va_rf rl3), (4, va_rf rl4), (5, .int xl5)] → qw_L_law_2610 D.2 L9 xs9 a0 Q X k28 rl1 rl2 rl3 rl4 xl5 h → W p l e ({ frames := 2048, cells := 603072, slots := 7190633, locals := 94400 } : Room) s m ([.ref a0] : List Value).toArray below meth c H locs (1032 + (513 - (n + 1)) * 21) (15200 + (513 - (n + 1)) * 5126) (vx_MQ below (ql_Q D h0 (ql_rI Q)) (ql_X D h0 X) ([.ref a0] : List Value).toArray s 603072 7190633 (ql_A h0)) (F0 m 2610 ls []) := by
  intro n hn9 k28 hk28 rl1 rl2 rl3 rl4 xl5 h H locs ls S hl w
  unfold qw_L_law_2610 at w
  refine ql_aload_n (r := rl1) C dL_law_2610 rfl (lv_at hl 1 rfl) ?_
  refine ql_aload_n (r := (some a0)) C dL_law_2611 rfl (lv_at hl 0 rfl) ?_
  refine lv_iload C.1.1 C.1.2.1 dL_law_2612 (lv_at hl 5 rfl) ?_
  refine lv_iconst (v := (1 : Int32)) C.1.1 C.1.2.1 dL_law_2614 (by decide) ?_
  refine lv_iadd C.1.1 C.1.2.1 dL_law_2615 ?_
  refine ql_sld C S hX w.1 dL_law_2616 ?_
  replace w := w.2
  refine ql_aload_n (r := rl3) C dL_law_2617 rfl (lv_at hl 3 rfl) ?_
  refine ql_SHI (As := [va_rf rl1, .int (xs9 (xl5 + (1 : Int32)).toNatClampNeg), va_rf rl3]) (rest := []) C S hl qyh_L_outputAt gw_1490 (qm_L_outputAt l hl9 D _ rl1 (xs9 (xl5 + (1 : Int32)).toNatClampNeg) rl3 _ _ w) rfl ⟨Nat.le_of_ble_eq_true rfl, Nat.le_of_ble_eq_true rfl⟩ ⟨rfl, rfl⟩ (by exact Nat.le_of_ble_eq_true rfl) rfl dL_law_2618 ⟨(by show _ ≤ (603072 : Nat); omega), (by show _ ≤ (7190633 : Nat); omega)⟩ (fun x255 h H locs S w => ?_)
  refine W.cs (cells' := (1033 + (513 - (n + 1)) * 21)) (slots' := (15206 + (513 - (n + 1)) * 5126)) (by omega) (by omega) ?_
  refine lv_istore (lv' := [(6, .int x255), (0, .ref a0), (1, va_rf rl1), (2, va_rf rl2), (3, va_rf rl3), (4, va_rf rl4), (5, .int xl5)]) C.1.1 C.1.2.1 dL_law_2621 hl (by decide) rfl (fun ls hl => ?_)
  refine ql_aload_n (r := rl2) C dL_law_2623 rfl (lv_at hl 3 rfl) ?_
  refine ql_aload_n (r := (some a0)) C dL_law_2624 rfl (lv_at hl 1 rfl) ?_
  refine lv_iload C.1.1 C.1.2.1 dL_law_2625 (lv_at hl 6 rfl) ?_
  refine lv_iconst (v := (1 : Int32)) C.1.1 C.1.2.1 dL_law_2627 (by decide) ?_
  refine lv_iadd C.1.1 C.1.2.1 dL_law_2628 ?_
  refine ql_sld C S hX w.1 dL_law_2629 ?_
  replace w := w.2
  refine ql_VI (As := [.int (xs9 (xl5 + (1 : Int32)).toNatClampNeg)]) (rest := []) C S htab hlocks hl qy_X12_outputAt qi_X12_outputAt qs_X12_outputAt gw_2055 (ci := 13) rfl w (fun b w => qm_X12_outputAt l hl9 D _ b (xs9 (xl5 + (1 : Int32)).toNatClampNeg) _ _ w) rfl ⟨Nat.le_of_ble_eq_true rfl, Nat.le_of_ble_eq_true rfl⟩ ⟨rfl, rfl⟩ (by exact Nat.le_of_ble_eq_true rfl) (fun b e9 => by cases e9; rfl) dL_law_2630 ⟨(by show _ ≤ (603072 : Nat); omega), (by show _ ≤ (7190633 : Nat); omega)⟩ ⟨(by show _ ≤ (603072 : Nat); omega), (by show _ ≤ (7190633 : Nat); omega)⟩ (fun x256 h H locs S w => ?_)
  refine W.cs (cells' := (1033 + (513 - (n + 1)) * 21)) (slots' := (15206 + (513 - (n + 1)) * 5126)) (by omega) (by omega) ?_
  refine lv_istore (lv' := [(7, .int x256), (6, .int x255), (0, .ref a0), (1, va_rf rl1), (2, va_rf rl2), (3, va_rf rl3), (4, va_rf rl4), (5, .int xl5)]) C.1.1 C.1.2.1 dL_law_2633 hl (by decide) rfl (fun ls hl => ?_)
  refine ql_aload_n (r := rl2) C dL_law_2635 rfl (lv_at hl 4 rfl) ?_
  refine ql_VI (As := []) (rest := []) C S htab hlocks hl qy_X12_thrown qi_X12_thrown qs_X12_thrown gw_1727 (ci := 13) rfl w (fun b w => qm_X12_thrown l hl9 D _ b _ _ w) rfl ⟨Nat.le_of_ble_eq_true rfl, Nat.le_of_ble_eq_true rfl⟩ ⟨rfl, rfl⟩ (by exact Nat.le_of_ble_eq_true rfl) (fun b e9 => by cases e9; rfl) dL_law_2636 ⟨(by show _ ≤ (603072 : Nat); omega), (by show _ ≤ (7190633 : Nat); omega)⟩ ⟨(by show _ ≤ (603072 : Nat); omega), (by show _ ≤ (7190633 : Nat); omega)⟩ (fun x258 h H locs S w => ?_)
  refine W.cs (cells' := (1033 + (513 - (n + 1)) * 21)) (slots' := (15206 + (513 - (n + 1)) * 5126)) (by omega) (by omega) ?_
  refine lv_iload C.1.1 C.1.2.1 dL_law_2639 (lv_at hl 1 rfl) ?_
  refine lv_icmp_eq (tgt := 2646) C.1.1 C.1.2.1 dL_law_2641 (by decide) (fun c9 => ?_) (fun c9 => ?_)
  · replace w := ql_if w c9
    refine lv_iload C.1.1 C.1.2.1 dL_law_2646 (lv_at hl 1 rfl) ?_
    refine lv_if_ne (tgt := 2663) C.1.1 C.1.2.1 dL_law_2648 (by decide) (fun c9 => ?_) (fun c9 => ?_)
    · replace w := ql_ifn w c9
      exact (qm_L_law_2663 l hl9 D h0 L9 xs9 a0 Q X p e s m below meth c C hr hlocks htab hX) n hn9 k28 hk28 rl1 rl2 rl3 rl4 xl5 _ _ _ _ S (lv_sub hl [2, 3, 4, 5, 6, 7] rfl) w
    · replace w := ql_if w c9
      refine ql_aload_n (r := rl3) C dL_law_2651 rfl (lv_at hl 5 rfl) ?_
      refine lv_iconst (v := (0 : Int32)) C.1.1 C.1.2.1 dL_law_2652 (by decide) ?_
      refine ql_lald C S dL_law_2653 w (fun j260 w => ?_)
      refine lv_iload C.1.1 C.1.2.1 dL_law_2654 (lv_at hl 0 rfl) ?_
      refine lv_i2l C.1.1 C.1.2.1 dL_law_2656 rfl ?_
      refine W.lcmp C.1.1 C.1.2.1 dL_law_2657 ?_
      refine lv_if_eq (tgt := 2663) C.1.1 C.1.2.1 dL_law_2658 (by decide) (fun c9 => ?_) (fun c9 => ?_)
      · replace w := ql_if w c9
        exact (qm_L_law_2663 l hl9 D h0 L9 xs9 a0 Q X p e s m below meth c C hr hlocks htab hX) n hn9 k28 hk28 rl1 rl2 rl3 rl4 xl5 _ _ _ _ S (lv_sub hl [2, 3, 4, 5, 6, 7] rfl) w
      · replace w := ql_ifn w c9
        refine lv_iconst (v := (0 : Int32)) C.1.1 C.1.2.1 dL_law_2661 (by decide) ?_
        exact ql_zret C S hr hlocks dL_law_2662 ⟨(by show _ ≤ (603072 : Nat); omega), (by show _ ≤ (7190633 : Nat); omega)⟩ w
  · replace w := ql_ifn w c9
    refine lv_iconst (v := (0 : Int32)) C.1.1 C.1.2.1 dL_law_2644 (by decide) ?_
    exact ql_zret C S hr hlocks dL_law_2645 ⟨(by show _ ≤ (603072 : Nat); omega), (by show _ ≤ (7190633 : Nat); omega)⟩ w
set_option maxHeartbeats 4000000 in
set_option maxRecDepth 100000 in
theorem qm_L_law_2721 (l : Launch) (hl9 : l.stackTraces = false) (D : ql_D) (h0 : ql_H) (L9 : Nat) (xs9 : Nat → Int32) (a0 : Nat) (Q : Int32 → ql_H → Prop) (X : String → ql_H → Prop) (p : Program) (e : Env) (s : State) (m : MethodId) (below : List Frame) (meth : Method) (c : Code) (C : ql_C D h0 p m c cL_law 9 s [.ref a0].toArray "ClauseLedgerLaw") (hr : meth.sig.returnType = some .boolean) (hlocks : meth.locks = false) (htab : ∀ x ∈ c.exceptionTable.toList, False) (hX : va_X a0 L9 xs9 s s.heap ∧ a0 < s.heap.size ∧ ¬ ql_A h0 a0) : ∀ n : Nat, n + 1 ≤ 513 → ∀ (k28 : Option Nat → Option Nat → Option Nat → Option Nat → Int32 → ql_H → Prop) (hk28 : ∀ (rl1 : Option Nat) (rl2 : Option Nat) (rl3 : Option Nat) (rl4 : Option Nat) (xl5 : Int32) (h : ql_H) (H : Heap) (locs : List Loc) (ls : Array Slot), ql_S D h0 s H locs h → lv_has ls 9 [(0, .ref a0), (1, va_rf rl1), (2, va_rf rl2), (3, va_rf rl3), (4, va_rf rl4), (5, .int xl5)] → k28 rl1 rl2 rl3 rl4 xl5 h → W p l e ({ frames := 2048, cells := 603072, slots := 7190633, locals := 94400 } : Room) s m ([.ref a0] : List Value).toArray below meth c H locs (1032 + (513 - n) * 21) (15200 + (513 - n) * 5126) (vx_MQ below (ql_Q D h0 (ql_rI Q)) (ql_X D h0 X) ([.ref a0] : List Value).toArray s 603072 7190633 (ql_A h0)) (F0 m 28 ls [])) , ∀ (rl1 : Option Nat) (rl2 : Option Nat) (rl3 : Option Nat) (rl4 : Option Nat) (xl5 : Int32) (h : ql_H) (H : Heap) (locs : List Loc) (ls : Array Slot), ql_S D h0 s H locs h → lv_has ls 9 [(0, .ref a0), (1, va_rf rl1), (2, va_rf rl2), (3, va_rf rl3), (4, va_rf rl4), (5, .int xl5)] → qw_L_law_2721 D.2 L9 xs9 a0 Q X k28 rl1 rl2 rl3 rl4 xl5 h → W p l e ({ frames := 2048, cells := 603072, slots := 7190633, locals := 94400 } : Room) s m ([.ref a0] : List Value).toArray below meth c H locs (1033 + (513 - (n + 1)) * 21) (15456 + (513 - (n + 1)) * 5126) (vx_MQ below (ql_Q D h0 (ql_rI Q)) (ql_X D h0 X) ([.ref a0] : List Value).toArray s 603072 7190633 (ql_A h0)) (F0 m 2721 ls []) := by
  intro n hn9 k28 hk28 rl1 rl2 rl3 rl4 xl5 h H locs ls S hl w
  unfold qw_L_law_2721 at w
  refine lv_goto (tgt := 2957) C.1.1 C.1.2.1 dL_law_2721 (by decide) ?_
  refine W.widen (k := (1053 + (513 - (n + 1)) * 21)) (n := (20326 + (513 - (n + 1)) * 5126)) (by omega) (by omega) ?_
  exact (qm_L_law_2957 l hl9 D h0 L9 xs9 a0 Q X p e s m below meth c C hr hlocks htab hX) n hn9 k28 hk28 rl1 rl2 rl3 rl4 xl5 _ _ _ _ S (lv_sub hl [0, 1, 2, 3, 4, 5] rfl) w
set_option maxHeartbeats 4000000 in
set_option maxRecDepth 100000 in
theorem qm_L_law_2666 (l : Launch) (hl9 : l.stackTraces = false) (D : ql_D) (h0 : ql_H) (L9 : Nat) (xs9 : Nat → Int32) (a0 : Nat) (Q : Int32 → ql_H → Prop) (X : String → ql_H → Prop) (p : Program) (e : Env) (s : State) (m : MethodId) (below : List Frame) (meth : Method) (c : Code) (C : ql_C D h0 p m c cL_law 9 s [.ref a0].toArray "ClauseLedgerLaw") (hr : meth.sig.returnType = some .boolean) (hlocks : meth.locks = false) (htab : ∀ x ∈ c.exceptionTable.toList, False) (hX : va_X a0 L9 xs9 s s.heap ∧ a0 < s.heap.size ∧ ¬ ql_A h0 a0) : ∀ n : Nat, n + 1 ≤ 513 → ∀ (k28 : Option Nat → Option Nat → Option Nat → Option Nat → Int32 → ql_H → Prop) (hk28 : ∀ (rl1 : Option Nat) (rl2 : Option Nat) (rl3 : Option Nat) (rl4 : Option Nat) (xl5 : Int32) (h : ql_H) (H : Heap) (locs : List Loc) (ls : Array Slot), ql_S D h0 s H locs h → lv_has ls 9 [(0, .ref a0), (1, va_rf rl1), (2, va_rf rl2), (3, va_rf rl3), (4, va_rf rl4), (5, .int xl5)] → k28 rl1 rl2 rl3 rl4 xl5 h → W p l e ({ frames := 2048, cells := 603072, slots := 7190633, locals := 94400 } : Room) s m ([.ref a0] : List Value).toArray below meth c H locs (1032 + (513 - n) * 21) (15200 + (513 - n) * 5126) (vx_MQ below (ql_Q D h0 (ql_rI Q)) (ql_X D h0 X) ([.ref a0] : List Value).toArray s 603072 7190633 (ql_A h0)) (F0 m 28 ls [])) , ∀ (rl1 : Option Nat) (rl2 : Option Nat) (rl3 : Option Nat) (rl4 : Option Nat) (xl5 : Int32) (h : ql_H) (H : Heap) (locs : List Loc) (ls : Array Slot), ql_S D h0 s H locs h → lv_has ls 9 [(0, .ref a0), (1, va_rf rl1), (2, va_rf rl2), (3, va_rf rl3), (4, va_rf rl4), (5, .int xl5)] → qw_L_law_2666 D.2 L9 xs9 a0 Q X k28 rl1 rl2 rl3 rl4 xl5 h → W p l e ({ frames := 2048, cells := 603072, slots := 7190633, locals := 94400 } : Room) s m ([.ref a0] : List Value).toArray below meth c H locs (1032 + (513 - (n + 1)) * 21) (15200 + (513 - (n + 1)) * 5126) (vx_MQ below (ql_Q D h0 (ql_rI Q)) (ql_X D h0 X) ([.ref a0] : List Value).toArray s 603072 7190633 (ql_A h0)) (F0 m 2666 ls []) := by
  intro n hn9 k28 hk28 rl1 rl2 rl3 rl4 xl5 h H locs ls S hl w
  unfold qw_L_law_2666 at w
  refine ql_aload_n (r := rl1) C dL_law_2666 rfl (lv_at hl 1 rfl) ?_
  refine ql_aload_n (r := (some a0)) C dL_law_2667 rfl (lv_at hl 0 rfl) ?_
  refine lv_iload C.1.1 C.1.2.1 dL_law_2668 (lv_at hl 5 rfl) ?_
  refine lv_iconst (v := (1 : Int32)) C.1.1 C.1.2.1 dL_law_2670 (by decide) ?_
  refine lv_iadd C.1.1 C.1.2.1 dL_law_2671 ?_
  refine ql_sld C S hX w.1 dL_law_2672 ?_
  replace w := w.2
  refine lv_i2c C.1.1 C.1.2.1 dL_law_2673 rfl ?_
  refine ql_aload_n (r := rl3) C dL_law_2674 rfl (lv_at hl 3 rfl) ?_
  refine ql_SHI (As := [va_rf rl1, .int ((xs9 (xl5 + (1 : Int32)).toNatClampNeg).toUInt32 % 65536).toInt32, va_rf rl3]) (rest := []) C S hl qyh_L_type gw_1507 (qm_L_type l hl9 D _ rl1 ((xs9 (xl5 + (1 : Int32)).toNatClampNeg).toUInt32 % 65536).toInt32 rl3 _ _ w) rfl ⟨Nat.le_of_ble_eq_true rfl, Nat.le_of_ble_eq_true rfl⟩ ⟨rfl, rfl⟩ (by exact Nat.le_of_ble_eq_true rfl) rfl dL_law_2675 ⟨(by show _ ≤ (603072 : Nat); omega), (by show _ ≤ (7190633 : Nat); omega)⟩ (fun x261 h H locs S w => ?_)
  refine W.cs (cells' := (1033 + (513 - (n + 1)) * 21)) (slots' := (15456 + (513 - (n + 1)) * 5126)) (by omega) (by omega) ?_
  refine lv_istore (lv' := [(6, .int x261), (0, .ref a0), (1, va_rf rl1), (2, va_rf rl2), (3, va_rf rl3), (4, va_rf rl4), (5, .int xl5)]) C.1.1 C.1.2.1 dL_law_2678 hl (by decide) rfl (fun ls hl => ?_)
  refine ql_aload_n (r := rl2) C dL_law_2680 rfl (lv_at hl 3 rfl) ?_
  refine ql_aload_n (r := (some a0)) C dL_law_2681 rfl (lv_at hl 1 rfl) ?_
  refine lv_iload C.1.1 C.1.2.1 dL_law_2682 (lv_at hl 6 rfl) ?_
  refine lv_iconst (v := (1 : Int32)) C.1.1 C.1.2.1 dL_law_2684 (by decide) ?_
  refine lv_iadd C.1.1 C.1.2.1 dL_law_2685 ?_
  refine ql_sld C S hX w.1 dL_law_2686 ?_
  replace w := w.2
  refine lv_i2c C.1.1 C.1.2.1 dL_law_2687 rfl ?_
  refine ql_VI (As := [.int ((xs9 (xl5 + (1 : Int32)).toNatClampNeg).toUInt32 % 65536).toInt32]) (rest := []) C S htab hlocks hl qy_X12_type qi_X12_type qs_X12_type gw_2059 (ci := 13) rfl w (fun b w => qm_X12_type l hl9 D _ b ((xs9 (xl5 + (1 : Int32)).toNatClampNeg).toUInt32 % 65536).toInt32 _ _ w) rfl ⟨Nat.le_of_ble_eq_true rfl, Nat.le_of_ble_eq_true rfl⟩ ⟨rfl, rfl⟩ (by exact Nat.le_of_ble_eq_true rfl) (fun b e9 => by cases e9; rfl) dL_law_2688 ⟨(by show _ ≤ (603072 : Nat); omega), (by show _ ≤ (7190633 : Nat); omega)⟩ ⟨(by show _ ≤ (603072 : Nat); omega), (by show _ ≤ (7190633 : Nat); omega)⟩ (fun x262 h H locs S w => ?_)
  refine W.cs (cells' := (1033 + (513 - (n + 1)) * 21)) (slots' := (15456 + (513 - (n + 1)) * 5126)) (by omega) (by omega) ?_
  refine lv_istore (lv' := [(7, .int x262), (6, .int x261), (0, .ref a0), (1, va_rf rl1), (2, va_rf rl2), (3, va_rf rl3), (4, va_rf rl4), (5, .int xl5)]) C.1.1 C.1.2.1 dL_law_2691 hl (by decide) rfl (fun ls hl => ?_)
  refine ql_aload_n (r := rl2) C dL_law_2693 rfl (lv_at hl 4 rfl) ?_
  refine ql_VI (As := []) (rest := []) C S htab hlocks hl qy_X12_thrown qi_X12_thrown qs_X12_thrown gw_1727 (ci := 13) rfl w (fun b w => qm_X12_thrown l hl9 D _ b _ _ w) rfl ⟨Nat.le_of_ble_eq_true rfl, Nat.le_of_ble_eq_true rfl⟩ ⟨rfl, rfl⟩ (by exact Nat.le_of_ble_eq_true rfl) (fun b e9 => by cases e9; rfl) dL_law_2694 ⟨(by show _ ≤ (603072 : Nat); omega), (by show _ ≤ (7190633 : Nat); omega)⟩ ⟨(by show _ ≤ (603072 : Nat); omega), (by show _ ≤ (7190633 : Nat); omega)⟩ (fun x264 h H locs S w => ?_)
  refine W.cs (cells' := (1033 + (513 - (n + 1)) * 21)) (slots' := (15456 + (513 - (n + 1)) * 5126)) (by omega) (by omega) ?_
  refine lv_iload C.1.1 C.1.2.1 dL_law_2697 (lv_at hl 1 rfl) ?_
  refine lv_icmp_eq (tgt := 2704) C.1.1 C.1.2.1 dL_law_2699 (by decide) (fun c9 => ?_) (fun c9 => ?_)
  · replace w := ql_if w c9
    refine lv_iload C.1.1 C.1.2.1 dL_law_2704 (lv_at hl 1 rfl) ?_
    refine lv_if_ne (tgt := 2721) C.1.1 C.1.2.1 dL_law_2706 (by decide) (fun c9 => ?_) (fun c9 => ?_)
    · replace w := ql_ifn w c9
      exact (qm_L_law_2721 l hl9 D h0 L9 xs9 a0 Q X p e s m below meth c C hr hlocks htab hX) n hn9 k28 hk28 rl1 rl2 rl3 rl4 xl5 _ _ _ _ S (lv_sub hl [2, 3, 4, 5, 6, 7] rfl) w
    · replace w := ql_if w c9
      refine ql_aload_n (r := rl3) C dL_law_2709 rfl (lv_at hl 5 rfl) ?_
      refine lv_iconst (v := (0 : Int32)) C.1.1 C.1.2.1 dL_law_2710 (by decide) ?_
      refine ql_lald C S dL_law_2711 w (fun j266 w => ?_)
      refine lv_iload C.1.1 C.1.2.1 dL_law_2712 (lv_at hl 0 rfl) ?_
      refine lv_i2l C.1.1 C.1.2.1 dL_law_2714 rfl ?_
      refine W.lcmp C.1.1 C.1.2.1 dL_law_2715 ?_
      refine lv_if_eq (tgt := 2721) C.1.1 C.1.2.1 dL_law_2716 (by decide) (fun c9 => ?_) (fun c9 => ?_)
      · replace w := ql_if w c9
        exact (qm_L_law_2721 l hl9 D h0 L9 xs9 a0 Q X p e s m below meth c C hr hlocks htab hX) n hn9 k28 hk28 rl1 rl2 rl3 rl4 xl5 _ _ _ _ S (lv_sub hl [2, 3, 4, 5, 6, 7] rfl) w
      · replace w := ql_ifn w c9
        refine lv_iconst (v := (0 : Int32)) C.1.1 C.1.2.1 dL_law_2719 (by decide) ?_
        exact ql_zret C S hr hlocks dL_law_2720 ⟨(by show _ ≤ (603072 : Nat); omega), (by show _ ≤ (7190633 : Nat); omega)⟩ w
  · replace w := ql_ifn w c9
    refine lv_iconst (v := (0 : Int32)) C.1.1 C.1.2.1 dL_law_2702 (by decide) ?_
    exact ql_zret C S hr hlocks dL_law_2703 ⟨(by show _ ≤ (603072 : Nat); omega), (by show _ ≤ (7190633 : Nat); omega)⟩ w
set_option maxHeartbeats 4000000 in
set_option maxRecDepth 100000 in
theorem qm_L_law_2765 (l : Launch) (hl9 : l.stackTraces = false) (D : ql_D) (h0 : ql_H) (L9 : Nat) (xs9 : Nat → Int32) (a0 : Nat) (Q : Int32 → ql_H → Prop) (X : String → ql_H → Prop) (p : Program) (e : Env) (s : State) (m : MethodId) (below : List Frame) (meth : Method) (c : Code) (C : ql_C D h0 p m c cL_law 9 s [.ref a0].toArray "ClauseLedgerLaw") (hr : meth.sig.returnType = some .boolean) (hlocks : meth.locks = false) (htab : ∀ x ∈ c.exceptionTable.toList, False) (hX : va_X a0 L9 xs9 s s.heap ∧ a0 < s.heap.size ∧ ¬ ql_A h0 a0) : ∀ n : Nat, n + 1 ≤ 513 → ∀ (k28 : Option Nat → Option Nat → Option Nat → Option Nat → Int32 → ql_H → Prop) (hk28 : ∀ (rl1 : Option Nat) (rl2 : Option Nat) (rl3 : Option Nat) (rl4 : Option Nat) (xl5 : Int32) (h : ql_H) (H : Heap) (locs : List Loc) (ls : Array Slot), ql_S D h0 s H locs h → lv_has ls 9 [(0, .ref a0), (1, va_rf rl1), (2, va_rf rl2), (3, va_rf rl3), (4, va_rf rl4), (5, .int xl5)] → k28 rl1 rl2 rl3 rl4 xl5 h → W p l e ({ frames := 2048, cells := 603072, slots := 7190633, locals := 94400 } : Room) s m ([.ref a0] : List Value).toArray below meth c H locs (1032 + (513 - n) * 21) (15200 + (513 - n) * 5126) (vx_MQ below (ql_Q D h0 (ql_rI Q)) (ql_X D h0 X) ([.ref a0] : List Value).toArray s 603072 7190633 (ql_A h0)) (F0 m 28 ls [])) , ∀ (rl1 : Option Nat) (rl2 : Option Nat) (rl3 : Option Nat) (rl4 : Option Nat) (xl5 : Int32) (h : ql_H) (H : Heap) (locs : List Loc) (ls : Array Slot), ql_S D h0 s H locs h → lv_has ls 9 [(0, .ref a0), (1, va_rf rl1), (2, va_rf rl2), (3, va_rf rl3), (4, va_rf rl4), (5, .int xl5)] → qw_L_law_2765 D.2 L9 xs9 a0 Q X k28 rl1 rl2 rl3 rl4 xl5 h → W p l e ({ frames := 2048, cells := 603072, slots := 7190633, locals := 94400 } : Room) s m ([.ref a0] : List Value).toArray below meth c H locs (1034 + (513 - (n + 1)) * 21) (15462 + (513 - (n + 1)) * 5126) (vx_MQ below (ql_Q D h0 (ql_rI Q)) (ql_X D h0 X) ([.ref a0] : List Value).toArray s 603072 7190633 (ql_A h0)) (F0 m 2765 ls []) := by
  intro n hn9 k28 hk28 rl1 rl2 rl3 rl4 xl5 h H locs ls S hl w
  unfold qw_L_law_2765 at w
  refine lv_goto (tgt := 2957) C.1.1 C.1.2.1 dL_law_2765 (by decide) ?_
  refine W.widen (k := (1053 + (513 - (n + 1)) * 21)) (n := (20326 + (513 - (n + 1)) * 5126)) (by omega) (by omega) ?_
  exact (qm_L_law_2957 l hl9 D h0 L9 xs9 a0 Q X p e s m below meth c C hr hlocks htab hX) n hn9 k28 hk28 rl1 rl2 rl3 rl4 xl5 _ _ _ _ S (lv_sub hl [0, 1, 2, 3, 4, 5] rfl) w
set_option maxHeartbeats 4000000 in
set_option maxRecDepth 100000 in
theorem qm_L_law_2724 (l : Launch) (hl9 : l.stackTraces = false) (D : ql_D) (h0 : ql_H) (L9 : Nat) (xs9 : Nat → Int32) (a0 : Nat) (Q : Int32 → ql_H → Prop) (X : String → ql_H → Prop) (p : Program) (e : Env) (s : State) (m : MethodId) (below : List Frame) (meth : Method) (c : Code) (C : ql_C D h0 p m c cL_law 9 s [.ref a0].toArray "ClauseLedgerLaw") (hr : meth.sig.returnType = some .boolean) (hlocks : meth.locks = false) (htab : ∀ x ∈ c.exceptionTable.toList, False) (hX : va_X a0 L9 xs9 s s.heap ∧ a0 < s.heap.size ∧ ¬ ql_A h0 a0) : ∀ n : Nat, n + 1 ≤ 513 → ∀ (k28 : Option Nat → Option Nat → Option Nat → Option Nat → Int32 → ql_H → Prop) (hk28 : ∀ (rl1 : Option Nat) (rl2 : Option Nat) (rl3 : Option Nat) (rl4 : Option Nat) (xl5 : Int32) (h : ql_H) (H : Heap) (locs : List Loc) (ls : Array Slot), ql_S D h0 s H locs h → lv_has ls 9 [(0, .ref a0), (1, va_rf rl1), (2, va_rf rl2), (3, va_rf rl3), (4, va_rf rl4), (5, .int xl5)] → k28 rl1 rl2 rl3 rl4 xl5 h → W p l e ({ frames := 2048, cells := 603072, slots := 7190633, locals := 94400 } : Room) s m ([.ref a0] : List Value).toArray below meth c H locs (1032 + (513 - n) * 21) (15200 + (513 - n) * 5126) (vx_MQ below (ql_Q D h0 (ql_rI Q)) (ql_X D h0 X) ([.ref a0] : List Value).toArray s 603072 7190633 (ql_A h0)) (F0 m 28 ls [])) , ∀ (rl1 : Option Nat) (rl2 : Option Nat) (rl3 : Option Nat) (rl4 : Option Nat) (xl5 : Int32) (h : ql_H) (H : Heap) (locs : List Loc) (ls : Array Slot), ql_S D h0 s H locs h → lv_has ls 9 [(0, .ref a0), (1, va_rf rl1), (2, va_rf rl2), (3, va_rf rl3), (4, va_rf rl4), (5, .int xl5)] → qw_L_law_2724 D.2 L9 xs9 a0 Q X k28 rl1 rl2 rl3 rl4 xl5 h → W p l e ({ frames := 2048, cells := 603072, slots := 7190633, locals := 94400 } : Room) s m ([.ref a0] : List Value).toArray below meth c H locs (1032 + (513 - (n + 1)) * 21) (15200 + (513 - (n + 1)) * 5126) (vx_MQ below (ql_Q D h0 (ql_rI Q)) (ql_X D h0 X) ([.ref a0] : List Value).toArray s 603072 7190633 (ql_A h0)) (F0 m 2724 ls []) := by
  intro n hn9 k28 hk28 rl1 rl2 rl3 rl4 xl5 h H locs ls S hl w
  unfold qw_L_law_2724 at w
  refine ql_aload_n (r := rl1) C dL_law_2724 rfl (lv_at hl 1 rfl) ?_
  refine ql_aload_n (r := rl3) C dL_law_2725 rfl (lv_at hl 3 rfl) ?_
  refine ql_SHI (As := [va_rf rl1, va_rf rl3]) (rest := []) C S hl qyh_L_runScript gw_1524 (qm_L_runScript l hl9 D _ rl1 rl3 _ _ w) rfl ⟨Nat.le_of_ble_eq_true rfl, Nat.le_of_ble_eq_true rfl⟩ ⟨rfl, rfl⟩ (by exact Nat.le_of_ble_eq_true rfl) rfl dL_law_2726 ⟨(by show _ ≤ (603072 : Nat); omega), (by show _ ≤ (7190633 : Nat); omega)⟩ (fun x267 h H locs S w => ?_)
  refine W.cs (cells' := (1034 + (513 - (n + 1)) * 21)) (slots' := (15462 + (513 - (n + 1)) * 5126)) (by omega) (by omega) ?_
  refine lv_istore (lv' := [(6, .int x267), (0, .ref a0), (1, va_rf rl1), (2, va_rf rl2), (3, va_rf rl3), (4, va_rf rl4), (5, .int xl5)]) C.1.1 C.1.2.1 dL_law_2729 hl (by decide) rfl (fun ls hl => ?_)
  refine ql_aload_n (r := rl2) C dL_law_2731 rfl (lv_at hl 3 rfl) ?_
  refine ql_VI (As := []) (rest := []) C S htab hlocks hl qy_X12_runScript qi_X12_runScript qs_X12_runScript gw_2063 (ci := 13) rfl w (fun b w => qm_X12_runScript l hl9 D _ b _ _ w) rfl ⟨Nat.le_of_ble_eq_true rfl, Nat.le_of_ble_eq_true rfl⟩ ⟨rfl, rfl⟩ (by exact Nat.le_of_ble_eq_true rfl) (fun b e9 => by cases e9; rfl) dL_law_2732 ⟨(by show _ ≤ (603072 : Nat); omega), (by show _ ≤ (7190633 : Nat); omega)⟩ ⟨(by show _ ≤ (603072 : Nat); omega), (by show _ ≤ (7190633 : Nat); omega)⟩ (fun x268 h H locs S w => ?_)
  refine W.cs (cells' := (1034 + (513 - (n + 1)) * 21)) (slots' := (15462 + (513 - (n + 1)) * 5126)) (by omega) (by omega) ?_
  refine lv_istore (lv' := [(7, .int x268), (6, .int x267), (0, .ref a0), (1, va_rf rl1), (2, va_rf rl2), (3, va_rf rl3), (4, va_rf rl4), (5, .int xl5)]) C.1.1 C.1.2.1 dL_law_2735 hl (by decide) rfl (fun ls hl => ?_)
  refine ql_aload_n (r := rl2) C dL_law_2737 rfl (lv_at hl 4 rfl) ?_
  refine ql_VI (As := []) (rest := []) C S htab hlocks hl qy_X12_thrown qi_X12_thrown qs_X12_thrown gw_1727 (ci := 13) rfl w (fun b w => qm_X12_thrown l hl9 D _ b _ _ w) rfl ⟨Nat.le_of_ble_eq_true rfl, Nat.le_of_ble_eq_true rfl⟩ ⟨rfl, rfl⟩ (by exact Nat.le_of_ble_eq_true rfl) (fun b e9 => by cases e9; rfl) dL_law_2738 ⟨(by show _ ≤ (603072 : Nat); omega), (by show _ ≤ (7190633 : Nat); omega)⟩ ⟨(by show _ ≤ (603072 : Nat); omega), (by show _ ≤ (7190633 : Nat); omega)⟩ (fun x270 h H locs S w => ?_)
  refine W.cs (cells' := (1034 + (513 - (n + 1)) * 21)) (slots' := (15462 + (513 - (n + 1)) * 5126)) (by omega) (by omega) ?_
  refine lv_iload C.1.1 C.1.2.1 dL_law_2741 (lv_at hl 1 rfl) ?_
  refine lv_icmp_eq (tgt := 2748) C.1.1 C.1.2.1 dL_law_2743 (by decide) (fun c9 => ?_) (fun c9 => ?_)
  · replace w := ql_if w c9
    refine lv_iload C.1.1 C.1.2.1 dL_law_2748 (lv_at hl 1 rfl) ?_
    refine lv_if_ne (tgt := 2765) C.1.1 C.1.2.1 dL_law_2750 (by decide) (fun c9 => ?_) (fun c9 => ?_)
    · replace w := ql_ifn w c9
      exact (qm_L_law_2765 l hl9 D h0 L9 xs9 a0 Q X p e s m below meth c C hr hlocks htab hX) n hn9 k28 hk28 rl1 rl2 rl3 rl4 xl5 _ _ _ _ S (lv_sub hl [2, 3, 4, 5, 6, 7] rfl) w
    · replace w := ql_if w c9
      refine ql_aload_n (r := rl3) C dL_law_2753 rfl (lv_at hl 5 rfl) ?_
      refine lv_iconst (v := (0 : Int32)) C.1.1 C.1.2.1 dL_law_2754 (by decide) ?_
      refine ql_lald C S dL_law_2755 w (fun j272 w => ?_)
      refine lv_iload C.1.1 C.1.2.1 dL_law_2756 (lv_at hl 0 rfl) ?_
      refine lv_i2l C.1.1 C.1.2.1 dL_law_2758 rfl ?_
      refine W.lcmp C.1.1 C.1.2.1 dL_law_2759 ?_
      refine lv_if_eq (tgt := 2765) C.1.1 C.1.2.1 dL_law_2760 (by decide) (fun c9 => ?_) (fun c9 => ?_)
      · replace w := ql_if w c9
        exact (qm_L_law_2765 l hl9 D h0 L9 xs9 a0 Q X p e s m below meth c C hr hlocks htab hX) n hn9 k28 hk28 rl1 rl2 rl3 rl4 xl5 _ _ _ _ S (lv_sub hl [2, 3, 4, 5, 6, 7] rfl) w
      · replace w := ql_ifn w c9
        refine lv_iconst (v := (0 : Int32)) C.1.1 C.1.2.1 dL_law_2763 (by decide) ?_
        exact ql_zret C S hr hlocks dL_law_2764 ⟨(by show _ ≤ (603072 : Nat); omega), (by show _ ≤ (7190633 : Nat); omega)⟩ w
  · replace w := ql_ifn w c9
    refine lv_iconst (v := (0 : Int32)) C.1.1 C.1.2.1 dL_law_2746 (by decide) ?_
    exact ql_zret C S hr hlocks dL_law_2747 ⟨(by show _ ≤ (603072 : Nat); omega), (by show _ ≤ (7190633 : Nat); omega)⟩ w
set_option maxHeartbeats 4000000 in
set_option maxRecDepth 100000 in
theorem qm_L_law_2809 (l : Launch) (hl9 : l.stackTraces = false) (D : ql_D) (h0 : ql_H) (L9 : Nat) (xs9 : Nat → Int32) (a0 : Nat) (Q : Int32 → ql_H → Prop) (X : String → ql_H → Prop) (p : Program) (e : Env) (s : State) (m : MethodId) (below : List Frame) (meth : Method) (c : Code) (C : ql_C D h0 p m c cL_law 9 s [.ref a0].toArray "ClauseLedgerLaw") (hr : meth.sig.returnType = some .boolean) (hlocks : meth.locks = false) (htab : ∀ x ∈ c.exceptionTable.toList, False) (hX : va_X a0 L9 xs9 s s.heap ∧ a0 < s.heap.size ∧ ¬ ql_A h0 a0) : ∀ n : Nat, n + 1 ≤ 513 → ∀ (k28 : Option Nat → Option Nat → Option Nat → Option Nat → Int32 → ql_H → Prop) (hk28 : ∀ (rl1 : Option Nat) (rl2 : Option Nat) (rl3 : Option Nat) (rl4 : Option Nat) (xl5 : Int32) (h : ql_H) (H : Heap) (locs : List Loc) (ls : Array Slot), ql_S D h0 s H locs h → lv_has ls 9 [(0, .ref a0), (1, va_rf rl1), (2, va_rf rl2), (3, va_rf rl3), (4, va_rf rl4), (5, .int xl5)] → k28 rl1 rl2 rl3 rl4 xl5 h → W p l e ({ frames := 2048, cells := 603072, slots := 7190633, locals := 94400 } : Room) s m ([.ref a0] : List Value).toArray below meth c H locs (1032 + (513 - n) * 21) (15200 + (513 - n) * 5126) (vx_MQ below (ql_Q D h0 (ql_rI Q)) (ql_X D h0 X) ([.ref a0] : List Value).toArray s 603072 7190633 (ql_A h0)) (F0 m 28 ls [])) , ∀ (rl1 : Option Nat) (rl2 : Option Nat) (rl3 : Option Nat) (rl4 : Option Nat) (xl5 : Int32) (h : ql_H) (H : Heap) (locs : List Loc) (ls : Array Slot), ql_S D h0 s H locs h → lv_has ls 9 [(0, .ref a0), (1, va_rf rl1), (2, va_rf rl2), (3, va_rf rl3), (4, va_rf rl4), (5, .int xl5)] → qw_L_law_2809 D.2 L9 xs9 a0 Q X k28 rl1 rl2 rl3 rl4 xl5 h → W p l e ({ frames := 2048, cells := 603072, slots := 7190633, locals := 94400 } : Room) s m ([.ref a0] : List Value).toArray below meth c H locs (1033 + (513 - (n + 1)) * 21) (15206 + (513 - (n + 1)) * 5126) (vx_MQ below (ql_Q D h0 (ql_rI Q)) (ql_X D h0 X) ([.ref a0] : List Value).toArray s 603072 7190633 (ql_A h0)) (F0 m 2809 ls []) := by
  intro n hn9 k28 hk28 rl1 rl2 rl3 rl4 xl5 h H locs ls S hl w
  unfold qw_L_law_2809 at w
  refine lv_goto (tgt := 2957) C.1.1 C.1.2.1 dL_law_2809 (by decide) ?_
  refine W.widen (k := (1053 + (513 - (n + 1)) * 21)) (n := (20326 + (513 - (n + 1)) * 5126)) (by omega) (by omega) ?_
  exact (qm_L_law_2957 l hl9 D h0 L9 xs9 a0 Q X p e s m below meth c C hr hlocks htab hX) n hn9 k28 hk28 rl1 rl2 rl3 rl4 xl5 _ _ _ _ S (lv_sub hl [0, 1, 2, 3, 4, 5] rfl) w
set_option maxHeartbeats 4000000 in
set_option maxRecDepth 100000 in
theorem qm_L_law_2768 (l : Launch) (hl9 : l.stackTraces = false) (D : ql_D) (h0 : ql_H) (L9 : Nat) (xs9 : Nat → Int32) (a0 : Nat) (Q : Int32 → ql_H → Prop) (X : String → ql_H → Prop) (p : Program) (e : Env) (s : State) (m : MethodId) (below : List Frame) (meth : Method) (c : Code) (C : ql_C D h0 p m c cL_law 9 s [.ref a0].toArray "ClauseLedgerLaw") (hr : meth.sig.returnType = some .boolean) (hlocks : meth.locks = false) (htab : ∀ x ∈ c.exceptionTable.toList, False) (hX : va_X a0 L9 xs9 s s.heap ∧ a0 < s.heap.size ∧ ¬ ql_A h0 a0) : ∀ n : Nat, n + 1 ≤ 513 → ∀ (k28 : Option Nat → Option Nat → Option Nat → Option Nat → Int32 → ql_H → Prop) (hk28 : ∀ (rl1 : Option Nat) (rl2 : Option Nat) (rl3 : Option Nat) (rl4 : Option Nat) (xl5 : Int32) (h : ql_H) (H : Heap) (locs : List Loc) (ls : Array Slot), ql_S D h0 s H locs h → lv_has ls 9 [(0, .ref a0), (1, va_rf rl1), (2, va_rf rl2), (3, va_rf rl3), (4, va_rf rl4), (5, .int xl5)] → k28 rl1 rl2 rl3 rl4 xl5 h → W p l e ({ frames := 2048, cells := 603072, slots := 7190633, locals := 94400 } : Room) s m ([.ref a0] : List Value).toArray below meth c H locs (1032 + (513 - n) * 21) (15200 + (513 - n) * 5126) (vx_MQ below (ql_Q D h0 (ql_rI Q)) (ql_X D h0 X) ([.ref a0] : List Value).toArray s 603072 7190633 (ql_A h0)) (F0 m 28 ls [])) , ∀ (rl1 : Option Nat) (rl2 : Option Nat) (rl3 : Option Nat) (rl4 : Option Nat) (xl5 : Int32) (h : ql_H) (H : Heap) (locs : List Loc) (ls : Array Slot), ql_S D h0 s H locs h → lv_has ls 9 [(0, .ref a0), (1, va_rf rl1), (2, va_rf rl2), (3, va_rf rl3), (4, va_rf rl4), (5, .int xl5)] → qw_L_law_2768 D.2 L9 xs9 a0 Q X k28 rl1 rl2 rl3 rl4 xl5 h → W p l e ({ frames := 2048, cells := 603072, slots := 7190633, locals := 94400 } : Room) s m ([.ref a0] : List Value).toArray below meth c H locs (1032 + (513 - (n + 1)) * 21) (15200 + (513 - (n + 1)) * 5126) (vx_MQ below (ql_Q D h0 (ql_rI Q)) (ql_X D h0 X) ([.ref a0] : List Value).toArray s 603072 7190633 (ql_A h0)) (F0 m 2768 ls []) := by
  intro n hn9 k28 hk28 rl1 rl2 rl3 rl4 xl5 h H locs ls S hl w
  unfold qw_L_law_2768 at w
  refine ql_aload_n (r := rl1) C dL_law_2768 rfl (lv_at hl 1 rfl) ?_
  refine ql_aload_n (r := rl3) C dL_law_2769 rfl (lv_at hl 3 rfl) ?_
  refine ql_SHI (As := [va_rf rl1, va_rf rl3]) (rest := []) C S hl qyh_L_errorPosition gw_1626 (qm_L_errorPosition l hl9 D _ rl1 rl3 _ _ w) rfl ⟨Nat.le_of_ble_eq_true rfl, Nat.le_of_ble_eq_true rfl⟩ ⟨rfl, rfl⟩ (by exact Nat.le_of_ble_eq_true rfl) rfl dL_law_2770 ⟨(by show _ ≤ (603072 : Nat); omega), (by show _ ≤ (7190633 : Nat); omega)⟩ (fun x273 h H locs S w => ?_)
  refine W.cs (cells' := (1033 + (513 - (n + 1)) * 21)) (slots' := (15206 + (513 - (n + 1)) * 5126)) (by omega) (by omega) ?_
  refine lv_istore (lv' := [(6, .int x273), (0, .ref a0), (1, va_rf rl1), (2, va_rf rl2), (3, va_rf rl3), (4, va_rf rl4), (5, .int xl5)]) C.1.1 C.1.2.1 dL_law_2773 hl (by decide) rfl (fun ls hl => ?_)
  refine ql_aload_n (r := rl2) C dL_law_2775 rfl (lv_at hl 3 rfl) ?_
  refine ql_VI (As := []) (rest := []) C S htab hlocks hl qy_X12_errorPosition qi_X12_errorPosition qs_X12_errorPosition gw_2125 (ci := 13) rfl w (fun b w => qm_X12_errorPosition l hl9 D _ b _ _ w) rfl ⟨Nat.le_of_ble_eq_true rfl, Nat.le_of_ble_eq_true rfl⟩ ⟨rfl, rfl⟩ (by exact Nat.le_of_ble_eq_true rfl) (fun b e9 => by cases e9; rfl) dL_law_2776 ⟨(by show _ ≤ (603072 : Nat); omega), (by show _ ≤ (7190633 : Nat); omega)⟩ ⟨(by show _ ≤ (603072 : Nat); omega), (by show _ ≤ (7190633 : Nat); omega)⟩ (fun x274 h H locs S w => ?_)
  refine W.cs (cells' := (1033 + (513 - (n + 1)) * 21)) (slots' := (15206 + (513 - (n + 1)) * 5126)) (by omega) (by omega) ?_
  refine lv_istore (lv' := [(7, .int x274), (6, .int x273), (0, .ref a0), (1, va_rf rl1), (2, va_rf rl2), (3, va_rf rl3), (4, va_rf rl4), (5, .int xl5)]) C.1.1 C.1.2.1 dL_law_2779 hl (by decide) rfl (fun ls hl => ?_)
  refine ql_aload_n (r := rl2) C dL_law_2781 rfl (lv_at hl 4 rfl) ?_
  refine ql_VI (As := []) (rest := []) C S htab hlocks hl qy_X12_thrown qi_X12_thrown qs_X12_thrown gw_1727 (ci := 13) rfl w (fun b w => qm_X12_thrown l hl9 D _ b _ _ w) rfl ⟨Nat.le_of_ble_eq_true rfl, Nat.le_of_ble_eq_true rfl⟩ ⟨rfl, rfl⟩ (by exact Nat.le_of_ble_eq_true rfl) (fun b e9 => by cases e9; rfl) dL_law_2782 ⟨(by show _ ≤ (603072 : Nat); omega), (by show _ ≤ (7190633 : Nat); omega)⟩ ⟨(by show _ ≤ (603072 : Nat); omega), (by show _ ≤ (7190633 : Nat); omega)⟩ (fun x276 h H locs S w => ?_)
  refine W.cs (cells' := (1033 + (513 - (n + 1)) * 21)) (slots' := (15206 + (513 - (n + 1)) * 5126)) (by omega) (by omega) ?_
  refine lv_iload C.1.1 C.1.2.1 dL_law_2785 (lv_at hl 1 rfl) ?_
  refine lv_icmp_eq (tgt := 2792) C.1.1 C.1.2.1 dL_law_2787 (by decide) (fun c9 => ?_) (fun c9 => ?_)
  · replace w := ql_if w c9
    refine lv_iload C.1.1 C.1.2.1 dL_law_2792 (lv_at hl 1 rfl) ?_
    refine lv_if_ne (tgt := 2809) C.1.1 C.1.2.1 dL_law_2794 (by decide) (fun c9 => ?_) (fun c9 => ?_)
    · replace w := ql_ifn w c9
      exact (qm_L_law_2809 l hl9 D h0 L9 xs9 a0 Q X p e s m below meth c C hr hlocks htab hX) n hn9 k28 hk28 rl1 rl2 rl3 rl4 xl5 _ _ _ _ S (lv_sub hl [2, 3, 4, 5, 6, 7] rfl) w
    · replace w := ql_if w c9
      refine ql_aload_n (r := rl3) C dL_law_2797 rfl (lv_at hl 5 rfl) ?_
      refine lv_iconst (v := (0 : Int32)) C.1.1 C.1.2.1 dL_law_2798 (by decide) ?_
      refine ql_lald C S dL_law_2799 w (fun j278 w => ?_)
      refine lv_iload C.1.1 C.1.2.1 dL_law_2800 (lv_at hl 0 rfl) ?_
      refine lv_i2l C.1.1 C.1.2.1 dL_law_2802 rfl ?_
      refine W.lcmp C.1.1 C.1.2.1 dL_law_2803 ?_
      refine lv_if_eq (tgt := 2809) C.1.1 C.1.2.1 dL_law_2804 (by decide) (fun c9 => ?_) (fun c9 => ?_)
      · replace w := ql_if w c9
        exact (qm_L_law_2809 l hl9 D h0 L9 xs9 a0 Q X p e s m below meth c C hr hlocks htab hX) n hn9 k28 hk28 rl1 rl2 rl3 rl4 xl5 _ _ _ _ S (lv_sub hl [2, 3, 4, 5, 6, 7] rfl) w
      · replace w := ql_ifn w c9
        refine lv_iconst (v := (0 : Int32)) C.1.1 C.1.2.1 dL_law_2807 (by decide) ?_
        exact ql_zret C S hr hlocks dL_law_2808 ⟨(by show _ ≤ (603072 : Nat); omega), (by show _ ≤ (7190633 : Nat); omega)⟩ w
  · replace w := ql_ifn w c9
    refine lv_iconst (v := (0 : Int32)) C.1.1 C.1.2.1 dL_law_2790 (by decide) ?_
    exact ql_zret C S hr hlocks dL_law_2791 ⟨(by show _ ≤ (603072 : Nat); omega), (by show _ ≤ (7190633 : Nat); omega)⟩ w
set_option maxHeartbeats 4000000 in
set_option maxRecDepth 100000 in
theorem qm_L_law_2853 (l : Launch) (hl9 : l.stackTraces = false) (D : ql_D) (h0 : ql_H) (L9 : Nat) (xs9 : Nat → Int32) (a0 : Nat) (Q : Int32 → ql_H → Prop) (X : String → ql_H → Prop) (p : Program) (e : Env) (s : State) (m : MethodId) (below : List Frame) (meth : Method) (c : Code) (C : ql_C D h0 p m c cL_law 9 s [.ref a0].toArray "ClauseLedgerLaw") (hr : meth.sig.returnType = some .boolean) (hlocks : meth.locks = false) (htab : ∀ x ∈ c.exceptionTable.toList, False) (hX : va_X a0 L9 xs9 s s.heap ∧ a0 < s.heap.size ∧ ¬ ql_A h0 a0) : ∀ n : Nat, n + 1 ≤ 513 → ∀ (k28 : Option Nat → Option Nat → Option Nat → Option Nat → Int32 → ql_H → Prop) (hk28 : ∀ (rl1 : Option Nat) (rl2 : Option Nat) (rl3 : Option Nat) (rl4 : Option Nat) (xl5 : Int32) (h : ql_H) (H : Heap) (locs : List Loc) (ls : Array Slot), ql_S D h0 s H locs h → lv_has ls 9 [(0, .ref a0), (1, va_rf rl1), (2, va_rf rl2), (3, va_rf rl3), (4, va_rf rl4), (5, .int xl5)] → k28 rl1 rl2 rl3 rl4 xl5 h → W p l e ({ frames := 2048, cells := 603072, slots := 7190633, locals := 94400 } : Room) s m ([.ref a0] : List Value).toArray below meth c H locs (1032 + (513 - n) * 21) (15200 + (513 - n) * 5126) (vx_MQ below (ql_Q D h0 (ql_rI Q)) (ql_X D h0 X) ([.ref a0] : List Value).toArray s 603072 7190633 (ql_A h0)) (F0 m 28 ls [])) , ∀ (rl1 : Option Nat) (rl2 : Option Nat) (rl3 : Option Nat) (rl4 : Option Nat) (xl5 : Int32) (h : ql_H) (H : Heap) (locs : List Loc) (ls : Array Slot), ql_S D h0 s H locs h → lv_has ls 9 [(0, .ref a0), (1, va_rf rl1), (2, va_rf rl2), (3, va_rf rl3), (4, va_rf rl4), (5, .int xl5)] → qw_L_law_2853 D.2 L9 xs9 a0 Q X k28 rl1 rl2 rl3 rl4 xl5 h → W p l e ({ frames := 2048, cells := 603072, slots := 7190633, locals := 94400 } : Room) s m ([.ref a0] : List Value).toArray below meth c H locs (1033 + (513 - (n + 1)) * 21) (15206 + (513 - (n + 1)) * 5126) (vx_MQ below (ql_Q D h0 (ql_rI Q)) (ql_X D h0 X) ([.ref a0] : List Value).toArray s 603072 7190633 (ql_A h0)) (F0 m 2853 ls []) := by
  intro n hn9 k28 hk28 rl1 rl2 rl3 rl4 xl5 h H locs ls S hl w
  unfold qw_L_law_2853 at w
  refine lv_goto (tgt := 2957) C.1.1 C.1.2.1 dL_law_2853 (by decide) ?_
  refine W.widen (k := (1053 + (513 - (n + 1)) * 21)) (n := (20326 + (513 - (n + 1)) * 5126)) (by omega) (by omega) ?_
  exact (qm_L_law_2957 l hl9 D h0 L9 xs9 a0 Q X p e s m below meth c C hr hlocks htab hX) n hn9 k28 hk28 rl1 rl2 rl3 rl4 xl5 _ _ _ _ S (lv_sub hl [0, 1, 2, 3, 4, 5] rfl) w
set_option maxHeartbeats 4000000 in
set_option maxRecDepth 100000 in
theorem qm_L_law_2812 (l : Launch) (hl9 : l.stackTraces = false) (D : ql_D) (h0 : ql_H) (L9 : Nat) (xs9 : Nat → Int32) (a0 : Nat) (Q : Int32 → ql_H → Prop) (X : String → ql_H → Prop) (p : Program) (e : Env) (s : State) (m : MethodId) (below : List Frame) (meth : Method) (c : Code) (C : ql_C D h0 p m c cL_law 9 s [.ref a0].toArray "ClauseLedgerLaw") (hr : meth.sig.returnType = some .boolean) (hlocks : meth.locks = false) (htab : ∀ x ∈ c.exceptionTable.toList, False) (hX : va_X a0 L9 xs9 s s.heap ∧ a0 < s.heap.size ∧ ¬ ql_A h0 a0) : ∀ n : Nat, n + 1 ≤ 513 → ∀ (k28 : Option Nat → Option Nat → Option Nat → Option Nat → Int32 → ql_H → Prop) (hk28 : ∀ (rl1 : Option Nat) (rl2 : Option Nat) (rl3 : Option Nat) (rl4 : Option Nat) (xl5 : Int32) (h : ql_H) (H : Heap) (locs : List Loc) (ls : Array Slot), ql_S D h0 s H locs h → lv_has ls 9 [(0, .ref a0), (1, va_rf rl1), (2, va_rf rl2), (3, va_rf rl3), (4, va_rf rl4), (5, .int xl5)] → k28 rl1 rl2 rl3 rl4 xl5 h → W p l e ({ frames := 2048, cells := 603072, slots := 7190633, locals := 94400 } : Room) s m ([.ref a0] : List Value).toArray below meth c H locs (1032 + (513 - n) * 21) (15200 + (513 - n) * 5126) (vx_MQ below (ql_Q D h0 (ql_rI Q)) (ql_X D h0 X) ([.ref a0] : List Value).toArray s 603072 7190633 (ql_A h0)) (F0 m 28 ls [])) , ∀ (rl1 : Option Nat) (rl2 : Option Nat) (rl3 : Option Nat) (rl4 : Option Nat) (xl5 : Int32) (h : ql_H) (H : Heap) (locs : List Loc) (ls : Array Slot), ql_S D h0 s H locs h → lv_has ls 9 [(0, .ref a0), (1, va_rf rl1), (2, va_rf rl2), (3, va_rf rl3), (4, va_rf rl4), (5, .int xl5)] → qw_L_law_2812 D.2 L9 xs9 a0 Q X k28 rl1 rl2 rl3 rl4 xl5 h → W p l e ({ frames := 2048, cells := 603072, slots := 7190633, locals := 94400 } : Room) s m ([.ref a0] : List Value).toArray below meth c H locs (1032 + (513 - (n + 1)) * 21) (15200 + (513 - (n + 1)) * 5126) (vx_MQ below (ql_Q D h0 (ql_rI Q)) (ql_X D h0 X) ([.ref a0] : List Value).toArray s 603072 7190633 (ql_A h0)) (F0 m 2812 ls []) := by
  intro n hn9 k28 hk28 rl1 rl2 rl3 rl4 xl5 h H locs ls S hl w
  unfold qw_L_law_2812 at w
  refine ql_aload_n (r := rl1) C dL_law_2812 rfl (lv_at hl 1 rfl) ?_
  refine ql_aload_n (r := rl3) C dL_law_2813 rfl (lv_at hl 3 rfl) ?_
  refine ql_SHI (As := [va_rf rl1, va_rf rl3]) (rest := []) C S hl qyh_L_failedCommand gw_1633 (qm_L_failedCommand l hl9 D _ rl1 rl3 _ _ w) rfl ⟨Nat.le_of_ble_eq_true rfl, Nat.le_of_ble_eq_true rfl⟩ ⟨rfl, rfl⟩ (by exact Nat.le_of_ble_eq_true rfl) rfl dL_law_2814 ⟨(by show _ ≤ (603072 : Nat); omega), (by show _ ≤ (7190633 : Nat); omega)⟩ (fun x279 h H locs S w => ?_)
  refine W.cs (cells' := (1033 + (513 - (n + 1)) * 21)) (slots' := (15206 + (513 - (n + 1)) * 5126)) (by omega) (by omega) ?_
  refine lv_istore (lv' := [(6, .int x279), (0, .ref a0), (1, va_rf rl1), (2, va_rf rl2), (3, va_rf rl3), (4, va_rf rl4), (5, .int xl5)]) C.1.1 C.1.2.1 dL_law_2817 hl (by decide) rfl (fun ls hl => ?_)
  refine ql_aload_n (r := rl2) C dL_law_2819 rfl (lv_at hl 3 rfl) ?_
  refine ql_VI (As := []) (rest := []) C S htab hlocks hl qy_X12_failedCommand qi_X12_failedCommand qs_X12_failedCommand gw_2129 (ci := 13) rfl w (fun b w => qm_X12_failedCommand l hl9 D _ b _ _ w) rfl ⟨Nat.le_of_ble_eq_true rfl, Nat.le_of_ble_eq_true rfl⟩ ⟨rfl, rfl⟩ (by exact Nat.le_of_ble_eq_true rfl) (fun b e9 => by cases e9; rfl) dL_law_2820 ⟨(by show _ ≤ (603072 : Nat); omega), (by show _ ≤ (7190633 : Nat); omega)⟩ ⟨(by show _ ≤ (603072 : Nat); omega), (by show _ ≤ (7190633 : Nat); omega)⟩ (fun x280 h H locs S w => ?_)
  refine W.cs (cells' := (1033 + (513 - (n + 1)) * 21)) (slots' := (15206 + (513 - (n + 1)) * 5126)) (by omega) (by omega) ?_
  refine lv_istore (lv' := [(7, .int x280), (6, .int x279), (0, .ref a0), (1, va_rf rl1), (2, va_rf rl2), (3, va_rf rl3), (4, va_rf rl4), (5, .int xl5)]) C.1.1 C.1.2.1 dL_law_2823 hl (by decide) rfl (fun ls hl => ?_)
  refine ql_aload_n (r := rl2) C dL_law_2825 rfl (lv_at hl 4 rfl) ?_
  refine ql_VI (As := []) (rest := []) C S htab hlocks hl qy_X12_thrown qi_X12_thrown qs_X12_thrown gw_1727 (ci := 13) rfl w (fun b w => qm_X12_thrown l hl9 D _ b _ _ w) rfl ⟨Nat.le_of_ble_eq_true rfl, Nat.le_of_ble_eq_true rfl⟩ ⟨rfl, rfl⟩ (by exact Nat.le_of_ble_eq_true rfl) (fun b e9 => by cases e9; rfl) dL_law_2826 ⟨(by show _ ≤ (603072 : Nat); omega), (by show _ ≤ (7190633 : Nat); omega)⟩ ⟨(by show _ ≤ (603072 : Nat); omega), (by show _ ≤ (7190633 : Nat); omega)⟩ (fun x282 h H locs S w => ?_)
  refine W.cs (cells' := (1033 + (513 - (n + 1)) * 21)) (slots' := (15206 + (513 - (n + 1)) * 5126)) (by omega) (by omega) ?_
  refine lv_iload C.1.1 C.1.2.1 dL_law_2829 (lv_at hl 1 rfl) ?_
  refine lv_icmp_eq (tgt := 2836) C.1.1 C.1.2.1 dL_law_2831 (by decide) (fun c9 => ?_) (fun c9 => ?_)
  · replace w := ql_if w c9
    refine lv_iload C.1.1 C.1.2.1 dL_law_2836 (lv_at hl 1 rfl) ?_
    refine lv_if_ne (tgt := 2853) C.1.1 C.1.2.1 dL_law_2838 (by decide) (fun c9 => ?_) (fun c9 => ?_)
    · replace w := ql_ifn w c9
      exact (qm_L_law_2853 l hl9 D h0 L9 xs9 a0 Q X p e s m below meth c C hr hlocks htab hX) n hn9 k28 hk28 rl1 rl2 rl3 rl4 xl5 _ _ _ _ S (lv_sub hl [2, 3, 4, 5, 6, 7] rfl) w
    · replace w := ql_if w c9
      refine ql_aload_n (r := rl3) C dL_law_2841 rfl (lv_at hl 5 rfl) ?_
      refine lv_iconst (v := (0 : Int32)) C.1.1 C.1.2.1 dL_law_2842 (by decide) ?_
      refine ql_lald C S dL_law_2843 w (fun j284 w => ?_)
      refine lv_iload C.1.1 C.1.2.1 dL_law_2844 (lv_at hl 0 rfl) ?_
      refine lv_i2l C.1.1 C.1.2.1 dL_law_2846 rfl ?_
      refine W.lcmp C.1.1 C.1.2.1 dL_law_2847 ?_
      refine lv_if_eq (tgt := 2853) C.1.1 C.1.2.1 dL_law_2848 (by decide) (fun c9 => ?_) (fun c9 => ?_)
      · replace w := ql_if w c9
        exact (qm_L_law_2853 l hl9 D h0 L9 xs9 a0 Q X p e s m below meth c C hr hlocks htab hX) n hn9 k28 hk28 rl1 rl2 rl3 rl4 xl5 _ _ _ _ S (lv_sub hl [2, 3, 4, 5, 6, 7] rfl) w
      · replace w := ql_ifn w c9
        refine lv_iconst (v := (0 : Int32)) C.1.1 C.1.2.1 dL_law_2851 (by decide) ?_
        exact ql_zret C S hr hlocks dL_law_2852 ⟨(by show _ ≤ (603072 : Nat); omega), (by show _ ≤ (7190633 : Nat); omega)⟩ w
  · replace w := ql_ifn w c9
    refine lv_iconst (v := (0 : Int32)) C.1.1 C.1.2.1 dL_law_2834 (by decide) ?_
    exact ql_zret C S hr hlocks dL_law_2835 ⟨(by show _ ≤ (603072 : Nat); omega), (by show _ ≤ (7190633 : Nat); omega)⟩ w
set_option maxHeartbeats 4000000 in
set_option maxRecDepth 100000 in
theorem qm_L_law_2897 (l : Launch) (hl9 : l.stackTraces = false) (D : ql_D) (h0 : ql_H) (L9 : Nat) (xs9 : Nat → Int32) (a0 : Nat) (Q : Int32 → ql_H → Prop) (X : String → ql_H → Prop) (p : Program) (e : Env) (s : State) (m : MethodId) (below : List Frame) (meth : Method) (c : Code) (C : ql_C D h0 p m c cL_law 9 s [.ref a0].toArray "ClauseLedgerLaw") (hr : meth.sig.returnType = some .boolean) (hlocks : meth.locks = false) (htab : ∀ x ∈ c.exceptionTable.toList, False) (hX : va_X a0 L9 xs9 s s.heap ∧ a0 < s.heap.size ∧ ¬ ql_A h0 a0) : ∀ n : Nat, n + 1 ≤ 513 → ∀ (k28 : Option Nat → Option Nat → Option Nat → Option Nat → Int32 → ql_H → Prop) (hk28 : ∀ (rl1 : Option Nat) (rl2 : Option Nat) (rl3 : Option Nat) (rl4 : Option Nat) (xl5 : Int32) (h : ql_H) (H : Heap) (locs : List Loc) (ls : Array Slot), ql_S D h0 s H locs h → lv_has ls 9 [(0, .ref a0), (1, va_rf rl1), (2, va_rf rl2), (3, va_rf rl3), (4, va_rf rl4), (5, .int xl5)] → k28 rl1 rl2 rl3 rl4 xl5 h → W p l e ({ frames := 2048, cells := 603072, slots := 7190633, locals := 94400 } : Room) s m ([.ref a0] : List Value).toArray below meth c H locs (1032 + (513 - n) * 21) (15200 + (513 - n) * 5126) (vx_MQ below (ql_Q D h0 (ql_rI Q)) (ql_X D h0 X) ([.ref a0] : List Value).toArray s 603072 7190633 (ql_A h0)) (F0 m 28 ls [])) , ∀ (rl1 : Option Nat) (rl2 : Option Nat) (rl3 : Option Nat) (rl4 : Option Nat) (xl5 : Int32) (h : ql_H) (H : Heap) (locs : List Loc) (ls : Array Slot), ql_S D h0 s H locs h → lv_has ls 9 [(0, .ref a0), (1, va_rf rl1), (2, va_rf rl2), (3, va_rf rl3), (4, va_rf rl4), (5, .int xl5)] → qw_L_law_2897 D.2 L9 xs9 a0 Q X k28 rl1 rl2 rl3 rl4 xl5 h → W p l e ({ frames := 2048, cells := 603072, slots := 7190633, locals := 94400 } : Room) s m ([.ref a0] : List Value).toArray below meth c H locs (1033 + (513 - (n + 1)) * 21) (15206 + (513 - (n + 1)) * 5126) (vx_MQ below (ql_Q D h0 (ql_rI Q)) (ql_X D h0 X) ([.ref a0] : List Value).toArray s 603072 7190633 (ql_A h0)) (F0 m 2897 ls []) := by
  intro n hn9 k28 hk28 rl1 rl2 rl3 rl4 xl5 h H locs ls S hl w
  unfold qw_L_law_2897 at w
  refine lv_goto (tgt := 2957) C.1.1 C.1.2.1 dL_law_2897 (by decide) ?_
  refine W.widen (k := (1053 + (513 - (n + 1)) * 21)) (n := (20326 + (513 - (n + 1)) * 5126)) (by omega) (by omega) ?_
  exact (qm_L_law_2957 l hl9 D h0 L9 xs9 a0 Q X p e s m below meth c C hr hlocks htab hX) n hn9 k28 hk28 rl1 rl2 rl3 rl4 xl5 _ _ _ _ S (lv_sub hl [0, 1, 2, 3, 4, 5] rfl) w
set_option maxHeartbeats 4000000 in
set_option maxRecDepth 100000 in
theorem qm_L_law_2856 (l : Launch) (hl9 : l.stackTraces = false) (D : ql_D) (h0 : ql_H) (L9 : Nat) (xs9 : Nat → Int32) (a0 : Nat) (Q : Int32 → ql_H → Prop) (X : String → ql_H → Prop) (p : Program) (e : Env) (s : State) (m : MethodId) (below : List Frame) (meth : Method) (c : Code) (C : ql_C D h0 p m c cL_law 9 s [.ref a0].toArray "ClauseLedgerLaw") (hr : meth.sig.returnType = some .boolean) (hlocks : meth.locks = false) (htab : ∀ x ∈ c.exceptionTable.toList, False) (hX : va_X a0 L9 xs9 s s.heap ∧ a0 < s.heap.size ∧ ¬ ql_A h0 a0) : ∀ n : Nat, n + 1 ≤ 513 → ∀ (k28 : Option Nat → Option Nat → Option Nat → Option Nat → Int32 → ql_H → Prop) (hk28 : ∀ (rl1 : Option Nat) (rl2 : Option Nat) (rl3 : Option Nat) (rl4 : Option Nat) (xl5 : Int32) (h : ql_H) (H : Heap) (locs : List Loc) (ls : Array Slot), ql_S D h0 s H locs h → lv_has ls 9 [(0, .ref a0), (1, va_rf rl1), (2, va_rf rl2), (3, va_rf rl3), (4, va_rf rl4), (5, .int xl5)] → k28 rl1 rl2 rl3 rl4 xl5 h → W p l e ({ frames := 2048, cells := 603072, slots := 7190633, locals := 94400 } : Room) s m ([.ref a0] : List Value).toArray below meth c H locs (1032 + (513 - n) * 21) (15200 + (513 - n) * 5126) (vx_MQ below (ql_Q D h0 (ql_rI Q)) (ql_X D h0 X) ([.ref a0] : List Value).toArray s 603072 7190633 (ql_A h0)) (F0 m 28 ls [])) , ∀ (rl1 : Option Nat) (rl2 : Option Nat) (rl3 : Option Nat) (rl4 : Option Nat) (xl5 : Int32) (h : ql_H) (H : Heap) (locs : List Loc) (ls : Array Slot), ql_S D h0 s H locs h → lv_has ls 9 [(0, .ref a0), (1, va_rf rl1), (2, va_rf rl2), (3, va_rf rl3), (4, va_rf rl4), (5, .int xl5)] → qw_L_law_2856 D.2 L9 xs9 a0 Q X k28 rl1 rl2 rl3 rl4 xl5 h → W p l e ({ frames := 2048, cells := 603072, slots := 7190633, locals := 94400 } : Room) s m ([.ref a0] : List Value).toArray below meth c H locs (1032 + (513 - (n + 1)) * 21) (15200 + (513 - (n + 1)) * 5126) (vx_MQ below (ql_Q D h0 (ql_rI Q)) (ql_X D h0 X) ([.ref a0] : List Value).toArray s 603072 7190633 (ql_A h0)) (F0 m 2856 ls []) := by
  intro n hn9 k28 hk28 rl1 rl2 rl3 rl4 xl5 h H locs ls S hl w
  unfold qw_L_law_2856 at w
  refine ql_aload_n (r := rl1) C dL_law_2856 rfl (lv_at hl 1 rfl) ?_
  refine ql_aload_n (r := rl3) C dL_law_2857 rfl (lv_at hl 3 rfl) ?_
  refine ql_SHI (As := [va_rf rl1, va_rf rl3]) (rest := []) C S hl qyh_L_undo gw_1640 (qm_L_undo l hl9 D _ rl1 rl3 _ _ w) rfl ⟨Nat.le_of_ble_eq_true rfl, Nat.le_of_ble_eq_true rfl⟩ ⟨rfl, rfl⟩ (by exact Nat.le_of_ble_eq_true rfl) rfl dL_law_2858 ⟨(by show _ ≤ (603072 : Nat); omega), (by show _ ≤ (7190633 : Nat); omega)⟩ (fun x285 h H locs S w => ?_)
  refine W.cs (cells' := (1033 + (513 - (n + 1)) * 21)) (slots' := (15206 + (513 - (n + 1)) * 5126)) (by omega) (by omega) ?_
  refine lv_istore (lv' := [(6, .int x285), (0, .ref a0), (1, va_rf rl1), (2, va_rf rl2), (3, va_rf rl3), (4, va_rf rl4), (5, .int xl5)]) C.1.1 C.1.2.1 dL_law_2861 hl (by decide) rfl (fun ls hl => ?_)
  refine ql_aload_n (r := rl2) C dL_law_2863 rfl (lv_at hl 3 rfl) ?_
  refine ql_VI (As := []) (rest := []) C S htab hlocks hl qy_X12_undo qi_X12_undo qs_X12_undo gw_2133 (ci := 13) rfl w (fun b w => qm_X12_undo l hl9 D _ b _ _ w) rfl ⟨Nat.le_of_ble_eq_true rfl, Nat.le_of_ble_eq_true rfl⟩ ⟨rfl, rfl⟩ (by exact Nat.le_of_ble_eq_true rfl) (fun b e9 => by cases e9; rfl) dL_law_2864 ⟨(by show _ ≤ (603072 : Nat); omega), (by show _ ≤ (7190633 : Nat); omega)⟩ ⟨(by show _ ≤ (603072 : Nat); omega), (by show _ ≤ (7190633 : Nat); omega)⟩ (fun x286 h H locs S w => ?_)
  refine W.cs (cells' := (1033 + (513 - (n + 1)) * 21)) (slots' := (15206 + (513 - (n + 1)) * 5126)) (by omega) (by omega) ?_
  refine lv_istore (lv' := [(7, .int x286), (6, .int x285), (0, .ref a0), (1, va_rf rl1), (2, va_rf rl2), (3, va_rf rl3), (4, va_rf rl4), (5, .int xl5)]) C.1.1 C.1.2.1 dL_law_2867 hl (by decide) rfl (fun ls hl => ?_)
  refine ql_aload_n (r := rl2) C dL_law_2869 rfl (lv_at hl 4 rfl) ?_
  refine ql_VI (As := []) (rest := []) C S htab hlocks hl qy_X12_thrown qi_X12_thrown qs_X12_thrown gw_1727 (ci := 13) rfl w (fun b w => qm_X12_thrown l hl9 D _ b _ _ w) rfl ⟨Nat.le_of_ble_eq_true rfl, Nat.le_of_ble_eq_true rfl⟩ ⟨rfl, rfl⟩ (by exact Nat.le_of_ble_eq_true rfl) (fun b e9 => by cases e9; rfl) dL_law_2870 ⟨(by show _ ≤ (603072 : Nat); omega), (by show _ ≤ (7190633 : Nat); omega)⟩ ⟨(by show _ ≤ (603072 : Nat); omega), (by show _ ≤ (7190633 : Nat); omega)⟩ (fun x288 h H locs S w => ?_)
  refine W.cs (cells' := (1033 + (513 - (n + 1)) * 21)) (slots' := (15206 + (513 - (n + 1)) * 5126)) (by omega) (by omega) ?_
  refine lv_iload C.1.1 C.1.2.1 dL_law_2873 (lv_at hl 1 rfl) ?_
  refine lv_icmp_eq (tgt := 2880) C.1.1 C.1.2.1 dL_law_2875 (by decide) (fun c9 => ?_) (fun c9 => ?_)
  · replace w := ql_if w c9
    refine lv_iload C.1.1 C.1.2.1 dL_law_2880 (lv_at hl 1 rfl) ?_
    refine lv_if_ne (tgt := 2897) C.1.1 C.1.2.1 dL_law_2882 (by decide) (fun c9 => ?_) (fun c9 => ?_)
    · replace w := ql_ifn w c9
      exact (qm_L_law_2897 l hl9 D h0 L9 xs9 a0 Q X p e s m below meth c C hr hlocks htab hX) n hn9 k28 hk28 rl1 rl2 rl3 rl4 xl5 _ _ _ _ S (lv_sub hl [2, 3, 4, 5, 6, 7] rfl) w
    · replace w := ql_if w c9
      refine ql_aload_n (r := rl3) C dL_law_2885 rfl (lv_at hl 5 rfl) ?_
      refine lv_iconst (v := (0 : Int32)) C.1.1 C.1.2.1 dL_law_2886 (by decide) ?_
      refine ql_lald C S dL_law_2887 w (fun j290 w => ?_)
      refine lv_iload C.1.1 C.1.2.1 dL_law_2888 (lv_at hl 0 rfl) ?_
      refine lv_i2l C.1.1 C.1.2.1 dL_law_2890 rfl ?_
      refine W.lcmp C.1.1 C.1.2.1 dL_law_2891 ?_
      refine lv_if_eq (tgt := 2897) C.1.1 C.1.2.1 dL_law_2892 (by decide) (fun c9 => ?_) (fun c9 => ?_)
      · replace w := ql_if w c9
        exact (qm_L_law_2897 l hl9 D h0 L9 xs9 a0 Q X p e s m below meth c C hr hlocks htab hX) n hn9 k28 hk28 rl1 rl2 rl3 rl4 xl5 _ _ _ _ S (lv_sub hl [2, 3, 4, 5, 6, 7] rfl) w
      · replace w := ql_ifn w c9
        refine lv_iconst (v := (0 : Int32)) C.1.1 C.1.2.1 dL_law_2895 (by decide) ?_
        exact ql_zret C S hr hlocks dL_law_2896 ⟨(by show _ ≤ (603072 : Nat); omega), (by show _ ≤ (7190633 : Nat); omega)⟩ w
  · replace w := ql_ifn w c9
    refine lv_iconst (v := (0 : Int32)) C.1.1 C.1.2.1 dL_law_2878 (by decide) ?_
    exact ql_zret C S hr hlocks dL_law_2879 ⟨(by show _ ≤ (603072 : Nat); omega), (by show _ ≤ (7190633 : Nat); omega)⟩ w
set_option maxHeartbeats 4000000 in
set_option maxRecDepth 100000 in
theorem qm_L_law_2900 (l : Launch) (hl9 : l.stackTraces = false) (D : ql_D) (h0 : ql_H) (L9 : Nat) (xs9 : Nat → Int32) (a0 : Nat) (Q : Int32 → ql_H → Prop) (X : String → ql_H → Prop) (p : Program) (e : Env) (s : State) (m : MethodId) (below : List Frame) (meth : Method) (c : Code) (C : ql_C D h0 p m c cL_law 9 s [.ref a0].toArray "ClauseLedgerLaw") (hr : meth.sig.returnType = some .boolean) (hlocks : meth.locks = false) (htab : ∀ x ∈ c.exceptionTable.toList, False) (hX : va_X a0 L9 xs9 s s.heap ∧ a0 < s.heap.size ∧ ¬ ql_A h0 a0) : ∀ n : Nat, n + 1 ≤ 513 → ∀ (k28 : Option Nat → Option Nat → Option Nat → Option Nat → Int32 → ql_H → Prop) (hk28 : ∀ (rl1 : Option Nat) (rl2 : Option Nat) (rl3 : Option Nat) (rl4 : Option Nat) (xl5 : Int32) (h : ql_H) (H : Heap) (locs : List Loc) (ls : Array Slot), ql_S D h0 s H locs h → lv_has ls 9 [(0, .ref a0), (1, va_rf rl1), (2, va_rf rl2), (3, va_rf rl3), (4, va_rf rl4), (5, .int xl5)] → k28 rl1 rl2 rl3 rl4 xl5 h → W p l e ({ frames := 2048, cells := 603072, slots := 7190633, locals := 94400 } : Room) s m ([.ref a0] : List Value).toArray below meth c H locs (1032 + (513 - n) * 21) (15200 + (513 - n) * 5126) (vx_MQ below (ql_Q D h0 (ql_rI Q)) (ql_X D h0 X) ([.ref a0] : List Value).toArray s 603072 7190633 (ql_A h0)) (F0 m 28 ls [])) , ∀ (rl1 : Option Nat) (rl2 : Option Nat) (rl3 : Option Nat) (rl4 : Option Nat) (xl5 : Int32) (h : ql_H) (H : Heap) (locs : List Loc) (ls : Array Slot), ql_S D h0 s H locs h → lv_has ls 9 [(0, .ref a0), (1, va_rf rl1), (2, va_rf rl2), (3, va_rf rl3), (4, va_rf rl4), (5, .int xl5)] → qw_L_law_2900 D.2 L9 xs9 a0 Q X k28 rl1 rl2 rl3 rl4 xl5 h → W p l e ({ frames := 2048, cells := 603072, slots := 7190633, locals := 94400 } : Room) s m ([.ref a0] : List Value).toArray below meth c H locs (1032 + (513 - (n + 1)) * 21) (15200 + (513 - (n + 1)) * 5126) (vx_MQ below (ql_Q D h0 (ql_rI Q)) (ql_X D h0 X) ([.ref a0] : List Value).toArray s 603072 7190633 (ql_A h0)) (F0 m 2900 ls []) := by
  intro n hn9 k28 hk28 rl1 rl2 rl3 rl4 xl5 h H locs ls S hl w
  unfold qw_L_law_2900 at w
  refine ql_aload_n (r := rl1) C dL_law_2900 rfl (lv_at hl 1 rfl) ?_
  refine ql_VI (As := []) (rest := []) C S htab hlocks hl qy_X11_save qi_X11_save qs_X11_save gw_764 (ci := 12) rfl w (fun b w => qm_X11_save l hl9 D _ b _ _ w) rfl ⟨Nat.le_of_ble_eq_true rfl, Nat.le_of_ble_eq_true rfl⟩ ⟨rfl, rfl⟩ (by exact Nat.le_of_ble_eq_true rfl) (fun b e9 => by cases e9; rfl) dL_law_2901 ⟨(by show _ ≤ (603072 : Nat); omega), (by show _ ≤ (7190633 : Nat); omega)⟩ ⟨(by show _ ≤ (603072 : Nat); omega), (by show _ ≤ (7190633 : Nat); omega)⟩ (fun x291 h H locs S w => ?_)
  refine W.cs (cells' := (1032 + (513 - (n + 1)) * 21)) (slots' := (15200 + (513 - (n + 1)) * 5126)) (by omega) (by omega) ?_
  refine ql_aload_n (r := rl2) C dL_law_2904 rfl (lv_at hl 2 rfl) ?_
  refine ql_VI (As := []) (rest := [.int x291]) C S htab hlocks hl qy_X12_save qi_X12_save qs_X12_save gw_2137 (ci := 13) rfl w (fun b w => qm_X12_save l hl9 D _ b _ _ w) rfl ⟨Nat.le_of_ble_eq_true rfl, Nat.le_of_ble_eq_true rfl⟩ ⟨rfl, rfl⟩ (by exact Nat.le_of_ble_eq_true rfl) (fun b e9 => by cases e9; rfl) dL_law_2905 ⟨(by show _ ≤ (603072 : Nat); omega), (by show _ ≤ (7190633 : Nat); omega)⟩ ⟨(by show _ ≤ (603072 : Nat); omega), (by show _ ≤ (7190633 : Nat); omega)⟩ (fun x293 h H locs S w => ?_)
  refine W.cs (cells' := (1032 + (513 - (n + 1)) * 21)) (slots' := (15200 + (513 - (n + 1)) * 5126)) (by omega) (by omega) ?_
  refine lv_icmp_eq (tgt := 2957) C.1.1 C.1.2.1 dL_law_2908 (by decide) (fun c9 => ?_) (fun c9 => ?_)
  · replace w := ql_if w c9
    refine W.widen (k := (1053 + (513 - (n + 1)) * 21)) (n := (20326 + (513 - (n + 1)) * 5126)) (by omega) (by omega) ?_
    exact (qm_L_law_2957 l hl9 D h0 L9 xs9 a0 Q X p e s m below meth c C hr hlocks htab hX) n hn9 k28 hk28 rl1 rl2 rl3 rl4 xl5 _ _ _ _ S (lv_sub hl [0, 1, 2, 3, 4, 5] rfl) w
  · replace w := ql_ifn w c9
    refine lv_iconst (v := (0 : Int32)) C.1.1 C.1.2.1 dL_law_2911 (by decide) ?_
    exact ql_zret C S hr hlocks dL_law_2912 ⟨(by show _ ≤ (603072 : Nat); omega), (by show _ ≤ (7190633 : Nat); omega)⟩ w
set_option maxHeartbeats 4000000 in
set_option maxRecDepth 100000 in
theorem qm_L_law_2954 (l : Launch) (hl9 : l.stackTraces = false) (D : ql_D) (h0 : ql_H) (L9 : Nat) (xs9 : Nat → Int32) (a0 : Nat) (Q : Int32 → ql_H → Prop) (X : String → ql_H → Prop) (p : Program) (e : Env) (s : State) (m : MethodId) (below : List Frame) (meth : Method) (c : Code) (C : ql_C D h0 p m c cL_law 9 s [.ref a0].toArray "ClauseLedgerLaw") (hr : meth.sig.returnType = some .boolean) (hlocks : meth.locks = false) (htab : ∀ x ∈ c.exceptionTable.toList, False) (hX : va_X a0 L9 xs9 s s.heap ∧ a0 < s.heap.size ∧ ¬ ql_A h0 a0) : ∀ n : Nat, n + 1 ≤ 513 → ∀ (k28 : Option Nat → Option Nat → Option Nat → Option Nat → Int32 → ql_H → Prop) (hk28 : ∀ (rl1 : Option Nat) (rl2 : Option Nat) (rl3 : Option Nat) (rl4 : Option Nat) (xl5 : Int32) (h : ql_H) (H : Heap) (locs : List Loc) (ls : Array Slot), ql_S D h0 s H locs h → lv_has ls 9 [(0, .ref a0), (1, va_rf rl1), (2, va_rf rl2), (3, va_rf rl3), (4, va_rf rl4), (5, .int xl5)] → k28 rl1 rl2 rl3 rl4 xl5 h → W p l e ({ frames := 2048, cells := 603072, slots := 7190633, locals := 94400 } : Room) s m ([.ref a0] : List Value).toArray below meth c H locs (1032 + (513 - n) * 21) (15200 + (513 - n) * 5126) (vx_MQ below (ql_Q D h0 (ql_rI Q)) (ql_X D h0 X) ([.ref a0] : List Value).toArray s 603072 7190633 (ql_A h0)) (F0 m 28 ls [])) , ∀ (rl1 : Option Nat) (rl2 : Option Nat) (rl3 : Option Nat) (rl4 : Option Nat) (xl5 : Int32) (h : ql_H) (H : Heap) (locs : List Loc) (ls : Array Slot), ql_S D h0 s H locs h → lv_has ls 9 [(0, .ref a0), (1, va_rf rl1), (2, va_rf rl2), (3, va_rf rl3), (4, va_rf rl4), (5, .int xl5)] → qw_L_law_2954 D.2 L9 xs9 a0 Q X k28 rl1 rl2 rl3 rl4 xl5 h → W p l e ({ frames := 2048, cells := 603072, slots := 7190633, locals := 94400 } : Room) s m ([.ref a0] : List Value).toArray below meth c H locs (1033 + (513 - (n + 1)) * 21) (15206 + (513 - (n + 1)) * 5126) (vx_MQ below (ql_Q D h0 (ql_rI Q)) (ql_X D h0 X) ([.ref a0] : List Value).toArray s 603072 7190633 (ql_A h0)) (F0 m 2954 ls []) := by
  intro n hn9 k28 hk28 rl1 rl2 rl3 rl4 xl5 h H locs ls S hl w
  unfold qw_L_law_2954 at w
  refine lv_goto (tgt := 2957) C.1.1 C.1.2.1 dL_law_2954 (by decide) ?_
  refine W.widen (k := (1053 + (513 - (n + 1)) * 21)) (n := (20326 + (513 - (n + 1)) * 5126)) (by omega) (by omega) ?_
  exact (qm_L_law_2957 l hl9 D h0 L9 xs9 a0 Q X p e s m below meth c C hr hlocks htab hX) n hn9 k28 hk28 rl1 rl2 rl3 rl4 xl5 _ _ _ _ S (lv_sub hl [0, 1, 2, 3, 4, 5] rfl) w
set_option maxHeartbeats 4000000 in
set_option maxRecDepth 100000 in
theorem qm_L_law_2913 (l : Launch) (hl9 : l.stackTraces = false) (D : ql_D) (h0 : ql_H) (L9 : Nat) (xs9 : Nat → Int32) (a0 : Nat) (Q : Int32 → ql_H → Prop) (X : String → ql_H → Prop) (p : Program) (e : Env) (s : State) (m : MethodId) (below : List Frame) (meth : Method) (c : Code) (C : ql_C D h0 p m c cL_law 9 s [.ref a0].toArray "ClauseLedgerLaw") (hr : meth.sig.returnType = some .boolean) (hlocks : meth.locks = false) (htab : ∀ x ∈ c.exceptionTable.toList, False) (hX : va_X a0 L9 xs9 s s.heap ∧ a0 < s.heap.size ∧ ¬ ql_A h0 a0) : ∀ n : Nat, n + 1 ≤ 513 → ∀ (k28 : Option Nat → Option Nat → Option Nat → Option Nat → Int32 → ql_H → Prop) (hk28 : ∀ (rl1 : Option Nat) (rl2 : Option Nat) (rl3 : Option Nat) (rl4 : Option Nat) (xl5 : Int32) (h : ql_H) (H : Heap) (locs : List Loc) (ls : Array Slot), ql_S D h0 s H locs h → lv_has ls 9 [(0, .ref a0), (1, va_rf rl1), (2, va_rf rl2), (3, va_rf rl3), (4, va_rf rl4), (5, .int xl5)] → k28 rl1 rl2 rl3 rl4 xl5 h → W p l e ({ frames := 2048, cells := 603072, slots := 7190633, locals := 94400 } : Room) s m ([.ref a0] : List Value).toArray below meth c H locs (1032 + (513 - n) * 21) (15200 + (513 - n) * 5126) (vx_MQ below (ql_Q D h0 (ql_rI Q)) (ql_X D h0 X) ([.ref a0] : List Value).toArray s 603072 7190633 (ql_A h0)) (F0 m 28 ls [])) , ∀ (rl1 : Option Nat) (rl2 : Option Nat) (rl3 : Option Nat) (rl4 : Option Nat) (xl5 : Int32) (h : ql_H) (H : Heap) (locs : List Loc) (ls : Array Slot), ql_S D h0 s H locs h → lv_has ls 9 [(0, .ref a0), (1, va_rf rl1), (2, va_rf rl2), (3, va_rf rl3), (4, va_rf rl4), (5, .int xl5)] → qw_L_law_2913 D.2 L9 xs9 a0 Q X k28 rl1 rl2 rl3 rl4 xl5 h → W p l e ({ frames := 2048, cells := 603072, slots := 7190633, locals := 94400 } : Room) s m ([.ref a0] : List Value).toArray below meth c H locs (1032 + (513 - (n + 1)) * 21) (15200 + (513 - (n + 1)) * 5126) (vx_MQ below (ql_Q D h0 (ql_rI Q)) (ql_X D h0 X) ([.ref a0] : List Value).toArray s 603072 7190633 (ql_A h0)) (F0 m 2913 ls []) := by
  intro n hn9 k28 hk28 rl1 rl2 rl3 rl4 xl5 h H locs ls S hl w
  unfold qw_L_law_2913 at w
  refine ql_aload_n (r := rl1) C dL_law_2913 rfl (lv_at hl 1 rfl) ?_
  refine ql_aload_n (r := rl3) C dL_law_2914 rfl (lv_at hl 3 rfl) ?_
  refine ql_SHI (As := [va_rf rl1, va_rf rl3]) (rest := []) C S hl qyh_L_restore gw_1651 (qm_L_restore l hl9 D _ rl1 rl3 _ _ w) rfl ⟨Nat.le_of_ble_eq_true rfl, Nat.le_of_ble_eq_true rfl⟩ ⟨rfl, rfl⟩ (by exact Nat.le_of_ble_eq_true rfl) rfl dL_law_2915 ⟨(by show _ ≤ (603072 : Nat); omega), (by show _ ≤ (7190633 : Nat); omega)⟩ (fun x295 h H locs S w => ?_)
  refine W.cs (cells' := (1033 + (513 - (n + 1)) * 21)) (slots' := (15206 + (513 - (n + 1)) * 5126)) (by omega) (by omega) ?_
  refine lv_istore (lv' := [(6, .int x295), (0, .ref a0), (1, va_rf rl1), (2, va_rf rl2), (3, va_rf rl3), (4, va_rf rl4), (5, .int xl5)]) C.1.1 C.1.2.1 dL_law_2918 hl (by decide) rfl (fun ls hl => ?_)
  refine ql_aload_n (r := rl2) C dL_law_2920 rfl (lv_at hl 3 rfl) ?_
  refine ql_VI (As := []) (rest := []) C S htab hlocks hl qy_X12_restore qi_X12_restore qs_X12_restore gw_2141 (ci := 13) rfl w (fun b w => qm_X12_restore l hl9 D _ b _ _ w) rfl ⟨Nat.le_of_ble_eq_true rfl, Nat.le_of_ble_eq_true rfl⟩ ⟨rfl, rfl⟩ (by exact Nat.le_of_ble_eq_true rfl) (fun b e9 => by cases e9; rfl) dL_law_2921 ⟨(by show _ ≤ (603072 : Nat); omega), (by show _ ≤ (7190633 : Nat); omega)⟩ ⟨(by show _ ≤ (603072 : Nat); omega), (by show _ ≤ (7190633 : Nat); omega)⟩ (fun x296 h H locs S w => ?_)
  refine W.cs (cells' := (1033 + (513 - (n + 1)) * 21)) (slots' := (15206 + (513 - (n + 1)) * 5126)) (by omega) (by omega) ?_
  refine lv_istore (lv' := [(7, .int x296), (6, .int x295), (0, .ref a0), (1, va_rf rl1), (2, va_rf rl2), (3, va_rf rl3), (4, va_rf rl4), (5, .int xl5)]) C.1.1 C.1.2.1 dL_law_2924 hl (by decide) rfl (fun ls hl => ?_)
  refine ql_aload_n (r := rl2) C dL_law_2926 rfl (lv_at hl 4 rfl) ?_
  refine ql_VI (As := []) (rest := []) C S htab hlocks hl qy_X12_thrown qi_X12_thrown qs_X12_thrown gw_1727 (ci := 13) rfl w (fun b w => qm_X12_thrown l hl9 D _ b _ _ w) rfl ⟨Nat.le_of_ble_eq_true rfl, Nat.le_of_ble_eq_true rfl⟩ ⟨rfl, rfl⟩ (by exact Nat.le_of_ble_eq_true rfl) (fun b e9 => by cases e9; rfl) dL_law_2927 ⟨(by show _ ≤ (603072 : Nat); omega), (by show _ ≤ (7190633 : Nat); omega)⟩ ⟨(by show _ ≤ (603072 : Nat); omega), (by show _ ≤ (7190633 : Nat); omega)⟩ (fun x298 h H locs S w => ?_)
  refine W.cs (cells' := (1033 + (513 - (n + 1)) * 21)) (slots' := (15206 + (513 - (n + 1)) * 5126)) (by omega) (by omega) ?_
  refine lv_iload C.1.1 C.1.2.1 dL_law_2930 (lv_at hl 1 rfl) ?_
  refine lv_icmp_eq (tgt := 2937) C.1.1 C.1.2.1 dL_law_2932 (by decide) (fun c9 => ?_) (fun c9 => ?_)
  · replace w := ql_if w c9
    refine lv_iload C.1.1 C.1.2.1 dL_law_2937 (lv_at hl 1 rfl) ?_
    refine lv_if_ne (tgt := 2954) C.1.1 C.1.2.1 dL_law_2939 (by decide) (fun c9 => ?_) (fun c9 => ?_)
    · replace w := ql_ifn w c9
      exact (qm_L_law_2954 l hl9 D h0 L9 xs9 a0 Q X p e s m below meth c C hr hlocks htab hX) n hn9 k28 hk28 rl1 rl2 rl3 rl4 xl5 _ _ _ _ S (lv_sub hl [2, 3, 4, 5, 6, 7] rfl) w
    · replace w := ql_if w c9
      refine ql_aload_n (r := rl3) C dL_law_2942 rfl (lv_at hl 5 rfl) ?_
      refine lv_iconst (v := (0 : Int32)) C.1.1 C.1.2.1 dL_law_2943 (by decide) ?_
      refine ql_lald C S dL_law_2944 w (fun j300 w => ?_)
      refine lv_iload C.1.1 C.1.2.1 dL_law_2945 (lv_at hl 0 rfl) ?_
      refine lv_i2l C.1.1 C.1.2.1 dL_law_2947 rfl ?_
      refine W.lcmp C.1.1 C.1.2.1 dL_law_2948 ?_
      refine lv_if_eq (tgt := 2954) C.1.1 C.1.2.1 dL_law_2949 (by decide) (fun c9 => ?_) (fun c9 => ?_)
      · replace w := ql_if w c9
        exact (qm_L_law_2954 l hl9 D h0 L9 xs9 a0 Q X p e s m below meth c C hr hlocks htab hX) n hn9 k28 hk28 rl1 rl2 rl3 rl4 xl5 _ _ _ _ S (lv_sub hl [2, 3, 4, 5, 6, 7] rfl) w
      · replace w := ql_ifn w c9
        refine lv_iconst (v := (0 : Int32)) C.1.1 C.1.2.1 dL_law_2952 (by decide) ?_
        exact ql_zret C S hr hlocks dL_law_2953 ⟨(by show _ ≤ (603072 : Nat); omega), (by show _ ≤ (7190633 : Nat); omega)⟩ w
  · replace w := ql_ifn w c9
    refine lv_iconst (v := (0 : Int32)) C.1.1 C.1.2.1 dL_law_2935 (by decide) ?_
    exact ql_zret C S hr hlocks dL_law_2936 ⟨(by show _ ≤ (603072 : Nat); omega), (by show _ ≤ (7190633 : Nat); omega)⟩ w
set_option maxHeartbeats 4000000 in
set_option maxRecDepth 100000 in
theorem qm_L_law_28 (l : Launch) (hl9 : l.stackTraces = false) (D : ql_D) (h0 : ql_H) (L9 : Nat) (xs9 : Nat → Int32) (a0 : Nat) (Q : Int32 → ql_H → Prop) (X : String → ql_H → Prop) (p : Program) (e : Env) (s : State) (m : MethodId) (below : List Frame) (meth : Method) (c : Code) (C : ql_C D h0 p m c cL_law 9 s [.ref a0].toArray "ClauseLedgerLaw") (hr : meth.sig.returnType = some .boolean) (hlocks : meth.locks = false) (htab : ∀ x ∈ c.exceptionTable.toList, False) (hX : va_X a0 L9 xs9 s s.heap ∧ a0 < s.heap.size ∧ ¬ ql_A h0 a0) : ∀ n : Nat, n ≤ 513 → ∀ (rl1 : Option Nat) (rl2 : Option Nat) (rl3 : Option Nat) (rl4 : Option Nat) (xl5 : Int32) (h : ql_H) (H : Heap) (locs : List Loc) (ls : Array Slot), ql_S D h0 s H locs h → lv_has ls 9 [(0, .ref a0), (1, va_rf rl1), (2, va_rf rl2), (3, va_rf rl3), (4, va_rf rl4), (5, .int xl5)] → qw_L_law_28 D.2 L9 xs9 a0 Q X n rl1 rl2 rl3 rl4 xl5 h → W p l e ({ frames := 2048, cells := 603072, slots := 7190633, locals := 94400 } : Room) s m ([.ref a0] : List Value).toArray below meth c H locs (1032 + (513 - n) * 21) (15200 + (513 - n) * 5126) (vx_MQ below (ql_Q D h0 (ql_rI Q)) (ql_X D h0 X) ([.ref a0] : List Value).toArray s 603072 7190633 (ql_A h0)) (F0 m 28 ls []) := by
  intro n
  induction n with
  | zero => intro _ rl1 rl2 rl3 rl4 xl5 h H locs ls S hl w; rw [qw_L_law_28] at w; exact w.elim
  | succ n ih =>
    intro hn9 rl1 rl2 rl3 rl4 xl5 h H locs ls S hl w
    rw [qw_L_law_28] at w
    refine lv_iload C.1.1 C.1.2.1 dL_law_28 (lv_at hl 5 rfl) ?_
    refine ql_aload_n (r := (some a0)) C dL_law_30 rfl (lv_at hl 0 rfl) ?_
    refine ql_xlen C S hX dL_law_31 ?_
    refine lv_iconst (v := (4 : Int32)) C.1.1 C.1.2.1 dL_law_32 (by decide) ?_
    refine lv_isub C.1.1 C.1.2.1 dL_law_33 ?_
    refine lv_icmp_gt (tgt := 2963) C.1.1 C.1.2.1 dL_law_34 (by decide) (fun c9 => ?_) (fun c9 => ?_)
    · replace w := ql_if w c9
      refine lv_iconst (v := (1 : Int32)) C.1.1 C.1.2.1 dL_law_2963 (by decide) ?_
      exact ql_zret C S hr hlocks dL_law_2964 ⟨(by show _ ≤ (603072 : Nat); omega), (by show _ ≤ (7190633 : Nat); omega)⟩ w
    · replace w := ql_ifn w c9
      refine ql_aload_n (r := (some a0)) C dL_law_37 rfl (lv_at hl 0 rfl) ?_
      refine lv_iload C.1.1 C.1.2.1 dL_law_38 (lv_at hl 5 rfl) ?_
      refine ql_sld C S hX w.1 dL_law_40 ?_
      replace w := w.2
      refine lv_bipush (v := (63 : Int32)) C.1.1 C.1.2.1 dL_law_41 (by decide) ?_
      refine lv_iand C.1.1 C.1.2.1 dL_law_43 ?_
      by_cases c9 : ((xs9 xl5.toNatClampNeg) &&& (63 : Int32)) = (0 : Int32)
      · replace w := ql_if w c9
        refine lv_tableIn (tgt := 276) (off := 232) C.1.1 C.1.2.1 dL_law_44 (by rw [c9]; decide) (by rw [c9]; decide) (by rw [c9]; rfl) (by decide) ?_
        exact (qm_L_law_276 l hl9 D h0 L9 xs9 a0 Q X p e s m below meth c C hr hlocks htab hX) n hn9 (qw_L_law_28 D.2 L9 xs9 a0 Q X n) (ih (by omega)) rl1 rl2 rl3 rl4 xl5 _ _ _ _ S (lv_sub hl [0, 1, 2, 3, 4, 5] rfl) w
      replace w := ql_ifn w c9
      have e0 := c9
      clear c9
      by_cases c9 : ((xs9 xl5.toNatClampNeg) &&& (63 : Int32)) = (1 : Int32)
      · replace w := ql_if w c9
        refine lv_tableIn (tgt := 346) (off := 302) C.1.1 C.1.2.1 dL_law_44 (by rw [c9]; decide) (by rw [c9]; decide) (by rw [c9]; rfl) (by decide) ?_
        exact (qm_L_law_346 l hl9 D h0 L9 xs9 a0 Q X p e s m below meth c C hr hlocks htab hX) n hn9 (qw_L_law_28 D.2 L9 xs9 a0 Q X n) (ih (by omega)) rl1 rl2 rl3 rl4 xl5 _ _ _ _ S (lv_sub hl [0, 1, 2, 3, 4, 5] rfl) w
      replace w := ql_ifn w c9
      have e1 := c9
      clear c9
      by_cases c9 : ((xs9 xl5.toNatClampNeg) &&& (63 : Int32)) = (2 : Int32)
      · replace w := ql_if w c9
        refine lv_tableIn (tgt := 428) (off := 384) C.1.1 C.1.2.1 dL_law_44 (by rw [c9]; decide) (by rw [c9]; decide) (by rw [c9]; rfl) (by decide) ?_
        exact (qm_L_law_428 l hl9 D h0 L9 xs9 a0 Q X p e s m below meth c C hr hlocks htab hX) n hn9 (qw_L_law_28 D.2 L9 xs9 a0 Q X n) (ih (by omega)) rl1 rl2 rl3 rl4 xl5 _ _ _ _ S (lv_sub hl [0, 1, 2, 3, 4, 5] rfl) w
      replace w := ql_ifn w c9
      have e2 := c9
      clear c9
      by_cases c9 : ((xs9 xl5.toNatClampNeg) &&& (63 : Int32)) = (3 : Int32)
      · replace w := ql_if w c9
        refine lv_tableIn (tgt := 510) (off := 466) C.1.1 C.1.2.1 dL_law_44 (by rw [c9]; decide) (by rw [c9]; decide) (by rw [c9]; rfl) (by decide) ?_
        exact (qm_L_law_510 l hl9 D h0 L9 xs9 a0 Q X p e s m below meth c C hr hlocks htab hX) n hn9 (qw_L_law_28 D.2 L9 xs9 a0 Q X n) (ih (by omega)) rl1 rl2 rl3 rl4 xl5 _ _ _ _ S (lv_sub hl [0, 1, 2, 3, 4, 5] rfl) w
      replace w := ql_ifn w c9
      have e3 := c9
      clear c9
      by_cases c9 : ((xs9 xl5.toNatClampNeg) &&& (63 : Int32)) = (4 : Int32)
      · replace w := ql_if w c9
        refine lv_tableIn (tgt := 578) (off := 534) C.1.1 C.1.2.1 dL_law_44 (by rw [c9]; decide) (by rw [c9]; decide) (by rw [c9]; rfl) (by decide) ?_
        exact (qm_L_law_578 l hl9 D h0 L9 xs9 a0 Q X p e s m below meth c C hr hlocks htab hX) n hn9 (qw_L_law_28 D.2 L9 xs9 a0 Q X n) (ih (by omega)) rl1 rl2 rl3 rl4 xl5 _ _ _ _ S (lv_sub hl [0, 1, 2, 3, 4, 5] rfl) w
      replace w := ql_ifn w c9
      have e4 := c9
      clear c9
      by_cases c9 : ((xs9 xl5.toNatClampNeg) &&& (63 : Int32)) = (5 : Int32)
      · replace w := ql_if w c9
        refine lv_tableIn (tgt := 646) (off := 602) C.1.1 C.1.2.1 dL_law_44 (by rw [c9]; decide) (by rw [c9]; decide) (by rw [c9]; rfl) (by decide) ?_
        exact (qm_L_law_646 l hl9 D h0 L9 xs9 a0 Q X p e s m below meth c C hr hlocks htab hX) n hn9 (qw_L_law_28 D.2 L9 xs9 a0 Q X n) (ih (by omega)) rl1 rl2 rl3 rl4 xl5 _ _ _ _ S (lv_sub hl [0, 1, 2, 3, 4, 5] rfl) w
      replace w := ql_ifn w c9
      have e5 := c9
      clear c9
      by_cases c9 : ((xs9 xl5.toNatClampNeg) &&& (63 : Int32)) = (6 : Int32)
      · replace w := ql_if w c9
        refine lv_tableIn (tgt := 714) (off := 670) C.1.1 C.1.2.1 dL_law_44 (by rw [c9]; decide) (by rw [c9]; decide) (by rw [c9]; rfl) (by decide) ?_
        exact (qm_L_law_714 l hl9 D h0 L9 xs9 a0 Q X p e s m below meth c C hr hlocks htab hX) n hn9 (qw_L_law_28 D.2 L9 xs9 a0 Q X n) (ih (by omega)) rl1 rl2 rl3 rl4 xl5 _ _ _ _ S (lv_sub hl [0, 1, 2, 3, 4, 5] rfl) w
      replace w := ql_ifn w c9
      have e6 := c9
      clear c9
      by_cases c9 : ((xs9 xl5.toNatClampNeg) &&& (63 : Int32)) = (7 : Int32)
      · replace w := ql_if w c9
        refine lv_tableIn (tgt := 782) (off := 738) C.1.1 C.1.2.1 dL_law_44 (by rw [c9]; decide) (by rw [c9]; decide) (by rw [c9]; rfl) (by decide) ?_
        exact (qm_L_law_782 l hl9 D h0 L9 xs9 a0 Q X p e s m below meth c C hr hlocks htab hX) n hn9 (qw_L_law_28 D.2 L9 xs9 a0 Q X n) (ih (by omega)) rl1 rl2 rl3 rl4 xl5 _ _ _ _ S (lv_sub hl [0, 1, 2, 3, 4, 5] rfl) w
      replace w := ql_ifn w c9
      have e7 := c9
      clear c9
      by_cases c9 : ((xs9 xl5.toNatClampNeg) &&& (63 : Int32)) = (8 : Int32)
      · replace w := ql_if w c9
        refine lv_tableIn (tgt := 838) (off := 794) C.1.1 C.1.2.1 dL_law_44 (by rw [c9]; decide) (by rw [c9]; decide) (by rw [c9]; rfl) (by decide) ?_
        exact (qm_L_law_838 l hl9 D h0 L9 xs9 a0 Q X p e s m below meth c C hr hlocks htab hX) n hn9 (qw_L_law_28 D.2 L9 xs9 a0 Q X n) (ih (by omega)) rl1 rl2 rl3 rl4 xl5 _ _ _ _ S (lv_sub hl [0, 1, 2, 3, 4, 5] rfl) w
      replace w := ql_ifn w c9
      have e8 := c9
      clear c9
      by_cases c9 : ((xs9 xl5.toNatClampNeg) &&& (63 : Int32)) = (9 : Int32)
      · replace w := ql_if w c9
        refine lv_tableIn (tgt := 851) (off := 807) C.1.1 C.1.2.1 dL_law_44 (by rw [c9]; decide) (by rw [c9]; decide) (by rw [c9]; rfl) (by decide) ?_
        exact (qm_L_law_851 l hl9 D h0 L9 xs9 a0 Q X p e s m below meth c C hr hlocks htab hX) n hn9 (qw_L_law_28 D.2 L9 xs9 a0 Q X n) (ih (by omega)) rl1 rl2 rl3 rl4 xl5 _ _ _ _ S (lv_sub hl [0, 1, 2, 3, 4, 5] rfl) w
      replace w := ql_ifn w c9
      have e9 := c9
      clear c9
      by_cases c9 : ((xs9 xl5.toNatClampNeg) &&& (63 : Int32)) = (10 : Int32)
      · replace w := ql_if w c9
        refine lv_tableIn (tgt := 907) (off := 863) C.1.1 C.1.2.1 dL_law_44 (by rw [c9]; decide) (by rw [c9]; decide) (by rw [c9]; rfl) (by decide) ?_
        exact (qm_L_law_907 l hl9 D h0 L9 xs9 a0 Q X p e s m below meth c C hr hlocks htab hX) n hn9 (qw_L_law_28 D.2 L9 xs9 a0 Q X n) (ih (by omega)) rl1 rl2 rl3 rl4 xl5 _ _ _ _ S (lv_sub hl [0, 1, 2, 3, 4, 5] rfl) w
      replace w := ql_ifn w c9
      have e10 := c9
      clear c9
      by_cases c9 : ((xs9 xl5.toNatClampNeg) &&& (63 : Int32)) = (11 : Int32)
      · replace w := ql_if w c9
        refine lv_tableIn (tgt := 920) (off := 876) C.1.1 C.1.2.1 dL_law_44 (by rw [c9]; decide) (by rw [c9]; decide) (by rw [c9]; rfl) (by decide) ?_
        exact (qm_L_law_920 l hl9 D h0 L9 xs9 a0 Q X p e s m below meth c C hr hlocks htab hX) n hn9 (qw_L_law_28 D.2 L9 xs9 a0 Q X n) (ih (by omega)) rl1 rl2 rl3 rl4 xl5 _ _ _ _ S (lv_sub hl [0, 1, 2, 3, 4, 5] rfl) w
      replace w := ql_ifn w c9
      have e11 := c9
      clear c9
      by_cases c9 : ((xs9 xl5.toNatClampNeg) &&& (63 : Int32)) = (12 : Int32)
      · replace w := ql_if w c9
        refine lv_tableIn (tgt := 933) (off := 889) C.1.1 C.1.2.1 dL_law_44 (by rw [c9]; decide) (by rw [c9]; decide) (by rw [c9]; rfl) (by decide) ?_
        exact (qm_L_law_933 l hl9 D h0 L9 xs9 a0 Q X p e s m below meth c C hr hlocks htab hX) n hn9 (qw_L_law_28 D.2 L9 xs9 a0 Q X n) (ih (by omega)) rl1 rl2 rl3 rl4 xl5 _ _ _ _ S (lv_sub hl [0, 1, 2, 3, 4, 5] rfl) w
      replace w := ql_ifn w c9
      have e12 := c9
      clear c9
      by_cases c9 : ((xs9 xl5.toNatClampNeg) &&& (63 : Int32)) = (13 : Int32)
      · replace w := ql_if w c9
        refine lv_tableIn (tgt := 989) (off := 945) C.1.1 C.1.2.1 dL_law_44 (by rw [c9]; decide) (by rw [c9]; decide) (by rw [c9]; rfl) (by decide) ?_
        exact (qm_L_law_989 l hl9 D h0 L9 xs9 a0 Q X p e s m below meth c C hr hlocks htab hX) n hn9 (qw_L_law_28 D.2 L9 xs9 a0 Q X n) (ih (by omega)) rl1 rl2 rl3 rl4 xl5 _ _ _ _ S (lv_sub hl [0, 1, 2, 3, 4, 5] rfl) w
      replace w := ql_ifn w c9
      have e13 := c9
      clear c9
      by_cases c9 : ((xs9 xl5.toNatClampNeg) &&& (63 : Int32)) = (14 : Int32)
      · replace w := ql_if w c9
        refine lv_tableIn (tgt := 1045) (off := 1001) C.1.1 C.1.2.1 dL_law_44 (by rw [c9]; decide) (by rw [c9]; decide) (by rw [c9]; rfl) (by decide) ?_
        exact (qm_L_law_1045 l hl9 D h0 L9 xs9 a0 Q X p e s m below meth c C hr hlocks htab hX) n hn9 (qw_L_law_28 D.2 L9 xs9 a0 Q X n) (ih (by omega)) rl1 rl2 rl3 rl4 xl5 _ _ _ _ S (lv_sub hl [0, 1, 2, 3, 4, 5] rfl) w
      replace w := ql_ifn w c9
      have e14 := c9
      clear c9
      by_cases c9 : ((xs9 xl5.toNatClampNeg) &&& (63 : Int32)) = (15 : Int32)
      · replace w := ql_if w c9
        refine lv_tableIn (tgt := 1101) (off := 1057) C.1.1 C.1.2.1 dL_law_44 (by rw [c9]; decide) (by rw [c9]; decide) (by rw [c9]; rfl) (by decide) ?_
        exact (qm_L_law_1101 l hl9 D h0 L9 xs9 a0 Q X p e s m below meth c C hr hlocks htab hX) n hn9 (qw_L_law_28 D.2 L9 xs9 a0 Q X n) (ih (by omega)) rl1 rl2 rl3 rl4 xl5 _ _ _ _ S (lv_sub hl [0, 1, 2, 3, 4, 5] rfl) w
      replace w := ql_ifn w c9
      have e15 := c9
      clear c9
      by_cases c9 : ((xs9 xl5.toNatClampNeg) &&& (63 : Int32)) = (16 : Int32)
      · replace w := ql_if w c9
        refine lv_tableIn (tgt := 1157) (off := 1113) C.1.1 C.1.2.1 dL_law_44 (by rw [c9]; decide) (by rw [c9]; decide) (by rw [c9]; rfl) (by decide) ?_
        exact (qm_L_law_1157 l hl9 D h0 L9 xs9 a0 Q X p e s m below meth c C hr hlocks htab hX) n hn9 (qw_L_law_28 D.2 L9 xs9 a0 Q X n) (ih (by omega)) rl1 rl2 rl3 rl4 xl5 _ _ _ _ S (lv_sub hl [0, 1, 2, 3, 4, 5] rfl) w
      replace w := ql_ifn w c9
      have e16 := c9
      clear c9
      by_cases c9 : ((xs9 xl5.toNatClampNeg) &&& (63 : Int32)) = (17 : Int32)
      · replace w := ql_if w c9
        refine lv_tableIn (tgt := 1213) (off := 1169) C.1.1 C.1.2.1 dL_law_44 (by rw [c9]; decide) (by rw [c9]; decide) (by rw [c9]; rfl) (by decide) ?_
        exact (qm_L_law_1213 l hl9 D h0 L9 xs9 a0 Q X p e s m below meth c C hr hlocks htab hX) n hn9 (qw_L_law_28 D.2 L9 xs9 a0 Q X n) (ih (by omega)) rl1 rl2 rl3 rl4 xl5 _ _ _ _ S (lv_sub hl [0, 1, 2, 3, 4, 5] rfl) w
      replace w := ql_ifn w c9
      have e17 := c9
      clear c9
      by_cases c9 : ((xs9 xl5.toNatClampNeg) &&& (63 : Int32)) = (18 : Int32)
      · replace w := ql_if w c9
        refine lv_tableIn (tgt := 1288) (off := 1244) C.1.1 C.1.2.1 dL_law_44 (by rw [c9]; decide) (by rw [c9]; decide) (by rw [c9]; rfl) (by decide) ?_
        exact (qm_L_law_1288 l hl9 D h0 L9 xs9 a0 Q X p e s m below meth c C hr hlocks htab hX) n hn9 (qw_L_law_28 D.2 L9 xs9 a0 Q X n) (ih (by omega)) rl1 rl2 rl3 rl4 xl5 _ _ _ _ S (lv_sub hl [0, 1, 2, 3, 4, 5] rfl) w
      replace w := ql_ifn w c9
      have e18 := c9
      clear c9
      by_cases c9 : ((xs9 xl5.toNatClampNeg) &&& (63 : Int32)) = (19 : Int32)
      · replace w := ql_if w c9
        refine lv_tableIn (tgt := 1351) (off := 1307) C.1.1 C.1.2.1 dL_law_44 (by rw [c9]; decide) (by rw [c9]; decide) (by rw [c9]; rfl) (by decide) ?_
        exact (qm_L_law_1351 l hl9 D h0 L9 xs9 a0 Q X p e s m below meth c C hr hlocks htab hX) n hn9 (qw_L_law_28 D.2 L9 xs9 a0 Q X n) (ih (by omega)) rl1 rl2 rl3 rl4 xl5 _ _ _ _ S (lv_sub hl [0, 1, 2, 3, 4, 5] rfl) w
      replace w := ql_ifn w c9
      have e19 := c9
      clear c9
      by_cases c9 : ((xs9 xl5.toNatClampNeg) &&& (63 : Int32)) = (20 : Int32)
      · replace w := ql_if w c9
        refine lv_tableIn (tgt := 1376) (off := 1332) C.1.1 C.1.2.1 dL_law_44 (by rw [c9]; decide) (by rw [c9]; decide) (by rw [c9]; rfl) (by decide) ?_
        exact (qm_L_law_1376 l hl9 D h0 L9 xs9 a0 Q X p e s m below meth c C hr hlocks htab hX) n hn9 (qw_L_law_28 D.2 L9 xs9 a0 Q X n) (ih (by omega)) rl1 rl2 rl3 rl4 xl5 _ _ _ _ S (lv_sub hl [0, 1, 2, 3, 4, 5] rfl) w
      replace w := ql_ifn w c9
      have e20 := c9
      clear c9
      by_cases c9 : ((xs9 xl5.toNatClampNeg) &&& (63 : Int32)) = (21 : Int32)
      · replace w := ql_if w c9
        refine lv_tableIn (tgt := 1432) (off := 1388) C.1.1 C.1.2.1 dL_law_44 (by rw [c9]; decide) (by rw [c9]; decide) (by rw [c9]; rfl) (by decide) ?_
        exact (qm_L_law_1432 l hl9 D h0 L9 xs9 a0 Q X p e s m below meth c C hr hlocks htab hX) n hn9 (qw_L_law_28 D.2 L9 xs9 a0 Q X n) (ih (by omega)) rl1 rl2 rl3 rl4 xl5 _ _ _ _ S (lv_sub hl [0, 1, 2, 3, 4, 5] rfl) w
      replace w := ql_ifn w c9
      have e21 := c9
      clear c9
      by_cases c9 : ((xs9 xl5.toNatClampNeg) &&& (63 : Int32)) = (22 : Int32)
      · replace w := ql_if w c9
        refine lv_tableIn (tgt := 1488) (off := 1444) C.1.1 C.1.2.1 dL_law_44 (by rw [c9]; decide) (by rw [c9]; decide) (by rw [c9]; rfl) (by decide) ?_
        exact (qm_L_law_1488 l hl9 D h0 L9 xs9 a0 Q X p e s m below meth c C hr hlocks htab hX) n hn9 (qw_L_law_28 D.2 L9 xs9 a0 Q X n) (ih (by omega)) rl1 rl2 rl3 rl4 xl5 _ _ _ _ S (lv_sub hl [0, 1, 2, 3, 4, 5] rfl) w
      replace w := ql_ifn w c9
      have e22 := c9
      clear c9
      by_cases c9 : ((xs9 xl5.toNatClampNeg) &&& (63 : Int32)) = (23 : Int32)
      · replace w := ql_if w c9
        refine lv_tableIn (tgt := 1556) (off := 1512) C.1.1 C.1.2.1 dL_law_44 (by rw [c9]; decide) (by rw [c9]; decide) (by rw [c9]; rfl) (by decide) ?_
        exact (qm_L_law_1556 l hl9 D h0 L9 xs9 a0 Q X p e s m below meth c C hr hlocks htab hX) n hn9 (qw_L_law_28 D.2 L9 xs9 a0 Q X n) (ih (by omega)) rl1 rl2 rl3 rl4 xl5 _ _ _ _ S (lv_sub hl [0, 1, 2, 3, 4, 5] rfl) w
      replace w := ql_ifn w c9
      have e23 := c9
      clear c9
      by_cases c9 : ((xs9 xl5.toNatClampNeg) &&& (63 : Int32)) = (24 : Int32)
      · replace w := ql_if w c9
        refine lv_tableIn (tgt := 1612) (off := 1568) C.1.1 C.1.2.1 dL_law_44 (by rw [c9]; decide) (by rw [c9]; decide) (by rw [c9]; rfl) (by decide) ?_
        exact (qm_L_law_1612 l hl9 D h0 L9 xs9 a0 Q X p e s m below meth c C hr hlocks htab hX) n hn9 (qw_L_law_28 D.2 L9 xs9 a0 Q X n) (ih (by omega)) rl1 rl2 rl3 rl4 xl5 _ _ _ _ S (lv_sub hl [0, 1, 2, 3, 4, 5] rfl) w
      replace w := ql_ifn w c9
      have e24 := c9
      clear c9
      by_cases c9 : ((xs9 xl5.toNatClampNeg) &&& (63 : Int32)) = (25 : Int32)
      · replace w := ql_if w c9
        refine lv_tableIn (tgt := 1680) (off := 1636) C.1.1 C.1.2.1 dL_law_44 (by rw [c9]; decide) (by rw [c9]; decide) (by rw [c9]; rfl) (by decide) ?_
        exact (qm_L_law_1680 l hl9 D h0 L9 xs9 a0 Q X p e s m below meth c C hr hlocks htab hX) n hn9 (qw_L_law_28 D.2 L9 xs9 a0 Q X n) (ih (by omega)) rl1 rl2 rl3 rl4 xl5 _ _ _ _ S (lv_sub hl [0, 1, 2, 3, 4, 5] rfl) w
      replace w := ql_ifn w c9
      have e25 := c9
      clear c9
      by_cases c9 : ((xs9 xl5.toNatClampNeg) &&& (63 : Int32)) = (26 : Int32)
      · replace w := ql_if w c9
        refine lv_tableIn (tgt := 1760) (off := 1716) C.1.1 C.1.2.1 dL_law_44 (by rw [c9]; decide) (by rw [c9]; decide) (by rw [c9]; rfl) (by decide) ?_
        exact (qm_L_law_1760 l hl9 D h0 L9 xs9 a0 Q X p e s m below meth c C hr hlocks htab hX) n hn9 (qw_L_law_28 D.2 L9 xs9 a0 Q X n) (ih (by omega)) rl1 rl2 rl3 rl4 xl5 _ _ _ _ S (lv_sub hl [0, 1, 2, 3, 4, 5] rfl) w
      replace w := ql_ifn w c9
      have e26 := c9
      clear c9
      by_cases c9 : ((xs9 xl5.toNatClampNeg) &&& (63 : Int32)) = (27 : Int32)
      · replace w := ql_if w c9
        refine lv_tableIn (tgt := 1840) (off := 1796) C.1.1 C.1.2.1 dL_law_44 (by rw [c9]; decide) (by rw [c9]; decide) (by rw [c9]; rfl) (by decide) ?_
        exact (qm_L_law_1840 l hl9 D h0 L9 xs9 a0 Q X p e s m below meth c C hr hlocks htab hX) n hn9 (qw_L_law_28 D.2 L9 xs9 a0 Q X n) (ih (by omega)) rl1 rl2 rl3 rl4 xl5 _ _ _ _ S (lv_sub hl [0, 1, 2, 3, 4, 5] rfl) w
      replace w := ql_ifn w c9
      have e27 := c9
      clear c9
      by_cases c9 : ((xs9 xl5.toNatClampNeg) &&& (63 : Int32)) = (28 : Int32)
      · replace w := ql_if w c9
        refine lv_tableIn (tgt := 1920) (off := 1876) C.1.1 C.1.2.1 dL_law_44 (by rw [c9]; decide) (by rw [c9]; decide) (by rw [c9]; rfl) (by decide) ?_
        exact (qm_L_law_1920 l hl9 D h0 L9 xs9 a0 Q X p e s m below meth c C hr hlocks htab hX) n hn9 (qw_L_law_28 D.2 L9 xs9 a0 Q X n) (ih (by omega)) rl1 rl2 rl3 rl4 xl5 _ _ _ _ S (lv_sub hl [0, 1, 2, 3, 4, 5] rfl) w
      replace w := ql_ifn w c9
      have e28 := c9
      clear c9
      by_cases c9 : ((xs9 xl5.toNatClampNeg) &&& (63 : Int32)) = (29 : Int32)
      · replace w := ql_if w c9
        refine lv_tableIn (tgt := 1933) (off := 1889) C.1.1 C.1.2.1 dL_law_44 (by rw [c9]; decide) (by rw [c9]; decide) (by rw [c9]; rfl) (by decide) ?_
        exact (qm_L_law_1933 l hl9 D h0 L9 xs9 a0 Q X p e s m below meth c C hr hlocks htab hX) n hn9 (qw_L_law_28 D.2 L9 xs9 a0 Q X n) (ih (by omega)) rl1 rl2 rl3 rl4 xl5 _ _ _ _ S (lv_sub hl [0, 1, 2, 3, 4, 5] rfl) w
      replace w := ql_ifn w c9
      have e29 := c9
      clear c9
      by_cases c9 : ((xs9 xl5.toNatClampNeg) &&& (63 : Int32)) = (30 : Int32)
      · replace w := ql_if w c9
        refine lv_tableIn (tgt := 1946) (off := 1902) C.1.1 C.1.2.1 dL_law_44 (by rw [c9]; decide) (by rw [c9]; decide) (by rw [c9]; rfl) (by decide) ?_
        exact (qm_L_law_1946 l hl9 D h0 L9 xs9 a0 Q X p e s m below meth c C hr hlocks htab hX) n hn9 (qw_L_law_28 D.2 L9 xs9 a0 Q X n) (ih (by omega)) rl1 rl2 rl3 rl4 xl5 _ _ _ _ S (lv_sub hl [0, 1, 2, 3, 4, 5] rfl) w
      replace w := ql_ifn w c9
      have e30 := c9
      clear c9
      by_cases c9 : ((xs9 xl5.toNatClampNeg) &&& (63 : Int32)) = (31 : Int32)
      · replace w := ql_if w c9
        refine lv_tableIn (tgt := 2002) (off := 1958) C.1.1 C.1.2.1 dL_law_44 (by rw [c9]; decide) (by rw [c9]; decide) (by rw [c9]; rfl) (by decide) ?_
        exact (qm_L_law_2002 l hl9 D h0 L9 xs9 a0 Q X p e s m below meth c C hr hlocks htab hX) n hn9 (qw_L_law_28 D.2 L9 xs9 a0 Q X n) (ih (by omega)) rl1 rl2 rl3 rl4 xl5 _ _ _ _ S (lv_sub hl [0, 1, 2, 3, 4, 5] rfl) w
      replace w := ql_ifn w c9
      have e31 := c9
      clear c9
      by_cases c9 : ((xs9 xl5.toNatClampNeg) &&& (63 : Int32)) = (32 : Int32)
      · replace w := ql_if w c9
        refine lv_tableIn (tgt := 2070) (off := 2026) C.1.1 C.1.2.1 dL_law_44 (by rw [c9]; decide) (by rw [c9]; decide) (by rw [c9]; rfl) (by decide) ?_
        exact (qm_L_law_2070 l hl9 D h0 L9 xs9 a0 Q X p e s m below meth c C hr hlocks htab hX) n hn9 (qw_L_law_28 D.2 L9 xs9 a0 Q X n) (ih (by omega)) rl1 rl2 rl3 rl4 xl5 _ _ _ _ S (lv_sub hl [0, 1, 2, 3, 4, 5] rfl) w
      replace w := ql_ifn w c9
      have e32 := c9
      clear c9
      by_cases c9 : ((xs9 xl5.toNatClampNeg) &&& (63 : Int32)) = (33 : Int32)
      · replace w := ql_if w c9
        refine lv_tableIn (tgt := 2083) (off := 2039) C.1.1 C.1.2.1 dL_law_44 (by rw [c9]; decide) (by rw [c9]; decide) (by rw [c9]; rfl) (by decide) ?_
        exact (qm_L_law_2083 l hl9 D h0 L9 xs9 a0 Q X p e s m below meth c C hr hlocks htab hX) n hn9 (qw_L_law_28 D.2 L9 xs9 a0 Q X n) (ih (by omega)) rl1 rl2 rl3 rl4 xl5 _ _ _ _ S (lv_sub hl [0, 1, 2, 3, 4, 5] rfl) w
      replace w := ql_ifn w c9
      have e33 := c9
      clear c9
      by_cases c9 : ((xs9 xl5.toNatClampNeg) &&& (63 : Int32)) = (34 : Int32)
      · replace w := ql_if w c9
        refine lv_tableIn (tgt := 2158) (off := 2114) C.1.1 C.1.2.1 dL_law_44 (by rw [c9]; decide) (by rw [c9]; decide) (by rw [c9]; rfl) (by decide) ?_
        exact (qm_L_law_2158 l hl9 D h0 L9 xs9 a0 Q X p e s m below meth c C hr hlocks htab hX) n hn9 (qw_L_law_28 D.2 L9 xs9 a0 Q X n) (ih (by omega)) rl1 rl2 rl3 rl4 xl5 _ _ _ _ S (lv_sub hl [0, 1, 2, 3, 4, 5] rfl) w
      replace w := ql_ifn w c9
      have e34 := c9
      clear c9
      by_cases c9 : ((xs9 xl5.toNatClampNeg) &&& (63 : Int32)) = (35 : Int32)
      · replace w := ql_if w c9
        refine lv_tableIn (tgt := 2233) (off := 2189) C.1.1 C.1.2.1 dL_law_44 (by rw [c9]; decide) (by rw [c9]; decide) (by rw [c9]; rfl) (by decide) ?_
        exact (qm_L_law_2233 l hl9 D h0 L9 xs9 a0 Q X p e s m below meth c C hr hlocks htab hX) n hn9 (qw_L_law_28 D.2 L9 xs9 a0 Q X n) (ih (by omega)) rl1 rl2 rl3 rl4 xl5 _ _ _ _ S (lv_sub hl [0, 1, 2, 3, 4, 5] rfl) w
      replace w := ql_ifn w c9
      have e35 := c9
      clear c9
      by_cases c9 : ((xs9 xl5.toNatClampNeg) &&& (63 : Int32)) = (36 : Int32)
      · replace w := ql_if w c9
        refine lv_tableIn (tgt := 2289) (off := 2245) C.1.1 C.1.2.1 dL_law_44 (by rw [c9]; decide) (by rw [c9]; decide) (by rw [c9]; rfl) (by decide) ?_
        exact (qm_L_law_2289 l hl9 D h0 L9 xs9 a0 Q X p e s m below meth c C hr hlocks htab hX) n hn9 (qw_L_law_28 D.2 L9 xs9 a0 Q X n) (ih (by omega)) rl1 rl2 rl3 rl4 xl5 _ _ _ _ S (lv_sub hl [0, 1, 2, 3, 4, 5] rfl) w
      replace w := ql_ifn w c9
      have e36 := c9
      clear c9
      by_cases c9 : ((xs9 xl5.toNatClampNeg) &&& (63 : Int32)) = (37 : Int32)
      · replace w := ql_if w c9
        refine lv_tableIn (tgt := 2302) (off := 2258) C.1.1 C.1.2.1 dL_law_44 (by rw [c9]; decide) (by rw [c9]; decide) (by rw [c9]; rfl) (by decide) ?_
        exact (qm_L_law_2302 l hl9 D h0 L9 xs9 a0 Q X p e s m below meth c C hr hlocks htab hX) n hn9 (qw_L_law_28 D.2 L9 xs9 a0 Q X n) (ih (by omega)) rl1 rl2 rl3 rl4 xl5 _ _ _ _ S (lv_sub hl [0, 1, 2, 3, 4, 5] rfl) w
      replace w := ql_ifn w c9
      have e37 := c9
      clear c9
      by_cases c9 : ((xs9 xl5.toNatClampNeg) &&& (63 : Int32)) = (38 : Int32)
      · replace w := ql_if w c9
        refine lv_tableIn (tgt := 2315) (off := 2271) C.1.1 C.1.2.1 dL_law_44 (by rw [c9]; decide) (by rw [c9]; decide) (by rw [c9]; rfl) (by decide) ?_
        exact (qm_L_law_2315 l hl9 D h0 L9 xs9 a0 Q X p e s m below meth c C hr hlocks htab hX) n hn9 (qw_L_law_28 D.2 L9 xs9 a0 Q X n) (ih (by omega)) rl1 rl2 rl3 rl4 xl5 _ _ _ _ S (lv_sub hl [0, 1, 2, 3, 4, 5] rfl) w
      replace w := ql_ifn w c9
      have e38 := c9
      clear c9
      by_cases c9 : ((xs9 xl5.toNatClampNeg) &&& (63 : Int32)) = (39 : Int32)
      · replace w := ql_if w c9
        refine lv_tableIn (tgt := 2328) (off := 2284) C.1.1 C.1.2.1 dL_law_44 (by rw [c9]; decide) (by rw [c9]; decide) (by rw [c9]; rfl) (by decide) ?_
        exact (qm_L_law_2328 l hl9 D h0 L9 xs9 a0 Q X p e s m below meth c C hr hlocks htab hX) n hn9 (qw_L_law_28 D.2 L9 xs9 a0 Q X n) (ih (by omega)) rl1 rl2 rl3 rl4 xl5 _ _ _ _ S (lv_sub hl [0, 1, 2, 3, 4, 5] rfl) w
      replace w := ql_ifn w c9
      have e39 := c9
      clear c9
      by_cases c9 : ((xs9 xl5.toNatClampNeg) &&& (63 : Int32)) = (40 : Int32)
      · replace w := ql_if w c9
        refine lv_tableIn (tgt := 2341) (off := 2297) C.1.1 C.1.2.1 dL_law_44 (by rw [c9]; decide) (by rw [c9]; decide) (by rw [c9]; rfl) (by decide) ?_
        exact (qm_L_law_2341 l hl9 D h0 L9 xs9 a0 Q X p e s m below meth c C hr hlocks htab hX) n hn9 (qw_L_law_28 D.2 L9 xs9 a0 Q X n) (ih (by omega)) rl1 rl2 rl3 rl4 xl5 _ _ _ _ S (lv_sub hl [0, 1, 2, 3, 4, 5] rfl) w
      replace w := ql_ifn w c9
      have e40 := c9
      clear c9
      by_cases c9 : ((xs9 xl5.toNatClampNeg) &&& (63 : Int32)) = (41 : Int32)
      · replace w := ql_if w c9
        refine lv_tableIn (tgt := 2354) (off := 2310) C.1.1 C.1.2.1 dL_law_44 (by rw [c9]; decide) (by rw [c9]; decide) (by rw [c9]; rfl) (by decide) ?_
        exact (qm_L_law_2354 l hl9 D h0 L9 xs9 a0 Q X p e s m below meth c C hr hlocks htab hX) n hn9 (qw_L_law_28 D.2 L9 xs9 a0 Q X n) (ih (by omega)) rl1 rl2 rl3 rl4 xl5 _ _ _ _ S (lv_sub hl [0, 1, 2, 3, 4, 5] rfl) w
      replace w := ql_ifn w c9
      have e41 := c9
      clear c9
      by_cases c9 : ((xs9 xl5.toNatClampNeg) &&& (63 : Int32)) = (42 : Int32)
      · replace w := ql_if w c9
        refine lv_tableIn (tgt := 2410) (off := 2366) C.1.1 C.1.2.1 dL_law_44 (by rw [c9]; decide) (by rw [c9]; decide) (by rw [c9]; rfl) (by decide) ?_
        exact (qm_L_law_2410 l hl9 D h0 L9 xs9 a0 Q X p e s m below meth c C hr hlocks htab hX) n hn9 (qw_L_law_28 D.2 L9 xs9 a0 Q X n) (ih (by omega)) rl1 rl2 rl3 rl4 xl5 _ _ _ _ S (lv_sub hl [0, 1, 2, 3, 4, 5] rfl) w
      replace w := ql_ifn w c9
      have e42 := c9
      clear c9
      by_cases c9 : ((xs9 xl5.toNatClampNeg) &&& (63 : Int32)) = (43 : Int32)
      · replace w := ql_if w c9
        refine lv_tableIn (tgt := 2475) (off := 2431) C.1.1 C.1.2.1 dL_law_44 (by rw [c9]; decide) (by rw [c9]; decide) (by rw [c9]; rfl) (by decide) ?_
        exact (qm_L_law_2475 l hl9 D h0 L9 xs9 a0 Q X p e s m below meth c C hr hlocks htab hX) n hn9 (qw_L_law_28 D.2 L9 xs9 a0 Q X n) (ih (by omega)) rl1 rl2 rl3 rl4 xl5 _ _ _ _ S (lv_sub hl [0, 1, 2, 3, 4, 5] rfl) w
      replace w := ql_ifn w c9
      have e43 := c9
      clear c9
      by_cases c9 : ((xs9 xl5.toNatClampNeg) &&& (63 : Int32)) = (44 : Int32)
      · replace w := ql_if w c9
        refine lv_tableIn (tgt := 2541) (off := 2497) C.1.1 C.1.2.1 dL_law_44 (by rw [c9]; decide) (by rw [c9]; decide) (by rw [c9]; rfl) (by decide) ?_
        exact (qm_L_law_2541 l hl9 D h0 L9 xs9 a0 Q X p e s m below meth c C hr hlocks htab hX) n hn9 (qw_L_law_28 D.2 L9 xs9 a0 Q X n) (ih (by omega)) rl1 rl2 rl3 rl4 xl5 _ _ _ _ S (lv_sub hl [0, 1, 2, 3, 4, 5] rfl) w
      replace w := ql_ifn w c9
      have e44 := c9
      clear c9
      by_cases c9 : ((xs9 xl5.toNatClampNeg) &&& (63 : Int32)) = (45 : Int32)
      · replace w := ql_if w c9
        refine lv_tableIn (tgt := 2554) (off := 2510) C.1.1 C.1.2.1 dL_law_44 (by rw [c9]; decide) (by rw [c9]; decide) (by rw [c9]; rfl) (by decide) ?_
        exact (qm_L_law_2554 l hl9 D h0 L9 xs9 a0 Q X p e s m below meth c C hr hlocks htab hX) n hn9 (qw_L_law_28 D.2 L9 xs9 a0 Q X n) (ih (by omega)) rl1 rl2 rl3 rl4 xl5 _ _ _ _ S (lv_sub hl [0, 1, 2, 3, 4, 5] rfl) w
      replace w := ql_ifn w c9
      have e45 := c9
      clear c9
      by_cases c9 : ((xs9 xl5.toNatClampNeg) &&& (63 : Int32)) = (46 : Int32)
      · replace w := ql_if w c9
        refine lv_tableIn (tgt := 2610) (off := 2566) C.1.1 C.1.2.1 dL_law_44 (by rw [c9]; decide) (by rw [c9]; decide) (by rw [c9]; rfl) (by decide) ?_
        exact (qm_L_law_2610 l hl9 D h0 L9 xs9 a0 Q X p e s m below meth c C hr hlocks htab hX) n hn9 (qw_L_law_28 D.2 L9 xs9 a0 Q X n) (ih (by omega)) rl1 rl2 rl3 rl4 xl5 _ _ _ _ S (lv_sub hl [0, 1, 2, 3, 4, 5] rfl) w
      replace w := ql_ifn w c9
      have e46 := c9
      clear c9
      by_cases c9 : ((xs9 xl5.toNatClampNeg) &&& (63 : Int32)) = (47 : Int32)
      · replace w := ql_if w c9
        refine lv_tableIn (tgt := 2666) (off := 2622) C.1.1 C.1.2.1 dL_law_44 (by rw [c9]; decide) (by rw [c9]; decide) (by rw [c9]; rfl) (by decide) ?_
        exact (qm_L_law_2666 l hl9 D h0 L9 xs9 a0 Q X p e s m below meth c C hr hlocks htab hX) n hn9 (qw_L_law_28 D.2 L9 xs9 a0 Q X n) (ih (by omega)) rl1 rl2 rl3 rl4 xl5 _ _ _ _ S (lv_sub hl [0, 1, 2, 3, 4, 5] rfl) w
      replace w := ql_ifn w c9
      have e47 := c9
      clear c9
      by_cases c9 : ((xs9 xl5.toNatClampNeg) &&& (63 : Int32)) = (48 : Int32)
      · replace w := ql_if w c9
        refine lv_tableIn (tgt := 2724) (off := 2680) C.1.1 C.1.2.1 dL_law_44 (by rw [c9]; decide) (by rw [c9]; decide) (by rw [c9]; rfl) (by decide) ?_
        exact (qm_L_law_2724 l hl9 D h0 L9 xs9 a0 Q X p e s m below meth c C hr hlocks htab hX) n hn9 (qw_L_law_28 D.2 L9 xs9 a0 Q X n) (ih (by omega)) rl1 rl2 rl3 rl4 xl5 _ _ _ _ S (lv_sub hl [0, 1, 2, 3, 4, 5] rfl) w
      replace w := ql_ifn w c9
      have e48 := c9
      clear c9
      by_cases c9 : ((xs9 xl5.toNatClampNeg) &&& (63 : Int32)) = (49 : Int32)
      · replace w := ql_if w c9
        refine lv_tableIn (tgt := 2768) (off := 2724) C.1.1 C.1.2.1 dL_law_44 (by rw [c9]; decide) (by rw [c9]; decide) (by rw [c9]; rfl) (by decide) ?_
        exact (qm_L_law_2768 l hl9 D h0 L9 xs9 a0 Q X p e s m below meth c C hr hlocks htab hX) n hn9 (qw_L_law_28 D.2 L9 xs9 a0 Q X n) (ih (by omega)) rl1 rl2 rl3 rl4 xl5 _ _ _ _ S (lv_sub hl [0, 1, 2, 3, 4, 5] rfl) w
      replace w := ql_ifn w c9
      have e49 := c9
      clear c9
      by_cases c9 : ((xs9 xl5.toNatClampNeg) &&& (63 : Int32)) = (50 : Int32)
      · replace w := ql_if w c9
        refine lv_tableIn (tgt := 2812) (off := 2768) C.1.1 C.1.2.1 dL_law_44 (by rw [c9]; decide) (by rw [c9]; decide) (by rw [c9]; rfl) (by decide) ?_
        exact (qm_L_law_2812 l hl9 D h0 L9 xs9 a0 Q X p e s m below meth c C hr hlocks htab hX) n hn9 (qw_L_law_28 D.2 L9 xs9 a0 Q X n) (ih (by omega)) rl1 rl2 rl3 rl4 xl5 _ _ _ _ S (lv_sub hl [0, 1, 2, 3, 4, 5] rfl) w
      replace w := ql_ifn w c9
      have e50 := c9
      clear c9
      by_cases c9 : ((xs9 xl5.toNatClampNeg) &&& (63 : Int32)) = (51 : Int32)
      · replace w := ql_if w c9
        refine lv_tableIn (tgt := 2856) (off := 2812) C.1.1 C.1.2.1 dL_law_44 (by rw [c9]; decide) (by rw [c9]; decide) (by rw [c9]; rfl) (by decide) ?_
        exact (qm_L_law_2856 l hl9 D h0 L9 xs9 a0 Q X p e s m below meth c C hr hlocks htab hX) n hn9 (qw_L_law_28 D.2 L9 xs9 a0 Q X n) (ih (by omega)) rl1 rl2 rl3 rl4 xl5 _ _ _ _ S (lv_sub hl [0, 1, 2, 3, 4, 5] rfl) w
      replace w := ql_ifn w c9
      have e51 := c9
      clear c9
      by_cases c9 : ((xs9 xl5.toNatClampNeg) &&& (63 : Int32)) = (52 : Int32)
      · replace w := ql_if w c9
        refine lv_tableIn (tgt := 2900) (off := 2856) C.1.1 C.1.2.1 dL_law_44 (by rw [c9]; decide) (by rw [c9]; decide) (by rw [c9]; rfl) (by decide) ?_
        exact (qm_L_law_2900 l hl9 D h0 L9 xs9 a0 Q X p e s m below meth c C hr hlocks htab hX) n hn9 (qw_L_law_28 D.2 L9 xs9 a0 Q X n) (ih (by omega)) rl1 rl2 rl3 rl4 xl5 _ _ _ _ S (lv_sub hl [0, 1, 2, 3, 4, 5] rfl) w
      replace w := ql_ifn w c9
      have e52 := c9
      clear c9
      by_cases c9 : ((xs9 xl5.toNatClampNeg) &&& (63 : Int32)) = (53 : Int32)
      · replace w := ql_if w c9
        refine lv_tableIn (tgt := 2913) (off := 2869) C.1.1 C.1.2.1 dL_law_44 (by rw [c9]; decide) (by rw [c9]; decide) (by rw [c9]; rfl) (by decide) ?_
        exact (qm_L_law_2913 l hl9 D h0 L9 xs9 a0 Q X p e s m below meth c C hr hlocks htab hX) n hn9 (qw_L_law_28 D.2 L9 xs9 a0 Q X n) (ih (by omega)) rl1 rl2 rl3 rl4 xl5 _ _ _ _ S (lv_sub hl [0, 1, 2, 3, 4, 5] rfl) w
      replace w := ql_ifn w c9
      have e53 := c9
      clear c9
      refine lv_tableOut (tgt := 2957) C.1.1 C.1.2.1 dL_law_44 (ql_sw (n := 54) (by decide) (fun k hk => ?_)) (by decide) ?_
      · rcases (show k = 0 ∨ k = 1 ∨ k = 2 ∨ k = 3 ∨ k = 4 ∨ k = 5 ∨ k = 6 ∨ k = 7 ∨ k = 8 ∨ k = 9 ∨ k = 10 ∨ k = 11 ∨ k = 12 ∨ k = 13 ∨ k = 14 ∨ k = 15 ∨ k = 16 ∨ k = 17 ∨ k = 18 ∨ k = 19 ∨ k = 20 ∨ k = 21 ∨ k = 22 ∨ k = 23 ∨ k = 24 ∨ k = 25 ∨ k = 26 ∨ k = 27 ∨ k = 28 ∨ k = 29 ∨ k = 30 ∨ k = 31 ∨ k = 32 ∨ k = 33 ∨ k = 34 ∨ k = 35 ∨ k = 36 ∨ k = 37 ∨ k = 38 ∨ k = 39 ∨ k = 40 ∨ k = 41 ∨ k = 42 ∨ k = 43 ∨ k = 44 ∨ k = 45 ∨ k = 46 ∨ k = 47 ∨ k = 48 ∨ k = 49 ∨ k = 50 ∨ k = 51 ∨ k = 52 ∨ k = 53 by omega) with rfl | rfl | rfl | rfl | rfl | rfl | rfl | rfl | rfl | rfl | rfl | rfl | rfl | rfl | rfl | rfl | rfl | rfl | rfl | rfl | rfl | rfl | rfl | rfl | rfl | rfl | rfl | rfl | rfl | rfl | rfl | rfl | rfl | rfl | rfl | rfl | rfl | rfl | rfl | rfl | rfl | rfl | rfl | rfl | rfl | rfl | rfl | rfl | rfl | rfl | rfl | rfl | rfl | rfl
        · exact e0
        · exact e1
        · exact e2
        · exact e3
        · exact e4
        · exact e5
        · exact e6
        · exact e7
        · exact e8
        · exact e9
        · exact e10
        · exact e11
        · exact e12
        · exact e13
        · exact e14
        · exact e15
        · exact e16
        · exact e17
        · exact e18
        · exact e19
        · exact e20
        · exact e21
        · exact e22
        · exact e23
        · exact e24
        · exact e25
        · exact e26
        · exact e27
        · exact e28
        · exact e29
        · exact e30
        · exact e31
        · exact e32
        · exact e33
        · exact e34
        · exact e35
        · exact e36
        · exact e37
        · exact e38
        · exact e39
        · exact e40
        · exact e41
        · exact e42
        · exact e43
        · exact e44
        · exact e45
        · exact e46
        · exact e47
        · exact e48
        · exact e49
        · exact e50
        · exact e51
        · exact e52
        · exact e53
      refine W.widen (k := (1053 + (513 - (n + 1)) * 21)) (n := (20326 + (513 - (n + 1)) * 5126)) (by omega) (by omega) ?_
      exact (qm_L_law_2957 l hl9 D h0 L9 xs9 a0 Q X p e s m below meth c C hr hlocks htab hX) n hn9 (qw_L_law_28 D.2 L9 xs9 a0 Q X n) (ih (by omega)) rl1 rl2 rl3 rl4 xl5 _ _ _ _ S (lv_sub hl [0, 1, 2, 3, 4, 5] rfl) w
set_option maxHeartbeats 4000000 in
set_option maxRecDepth 100000 in
theorem qm_L_law (l : Launch) (hl9 : l.stackTraces = false) (D : ql_D) (h0 : ql_H) (L9 : Nat) (xs9 : Nat → Int32) (a0 : Nat) (Q : Int32 → ql_H → Prop) (X : String → ql_H → Prop) (w : qw_L_law D.2 L9 xs9 a0 h0 Q X) (p : Program) (e : Env) (s : State) (m : MethodId) (below : List Frame) (meth : Method) (c : Code) (ls : Array Slot) (C : ql_C D h0 p m c cL_law 9 s [.ref a0].toArray "ClauseLedgerLaw") (hr : meth.sig.returnType = some .boolean) (hlocks : meth.locks = false) (htab : ∀ x ∈ c.exceptionTable.toList, False) (S : ql_S D h0 s s.heap [] h0) (hX : va_X a0 L9 xs9 s s.heap ∧ a0 < s.heap.size ∧ ¬ ql_A h0 a0) (hl : lv_has ls 9 (lv_args 0 [.ref a0])) :
    W p l e ({ frames := 2048, cells := 603072, slots := 7190633, locals := 94400 } : Room) s m [.ref a0].toArray below meth c s.heap [] 0 0 (vx_MQ below (ql_Q D h0 (ql_rI Q)) (ql_X D h0 X) [.ref a0].toArray s 603072 7190633 (ql_A h0)) (F0 m 0 ls []) := by
  have hl : lv_has ls 9 [(0, .ref a0)] := hl
  unfold qw_L_law at w
  refine ql_new (ci := 12) (fs := [.null, .null, .int 0, .null, .null, .int 0, .int 0, .null, .null, .null, .null]) C S rfl qlay_12 tyX11 tyX11_ok gw_108 gw_109 gw_71 (fun j hj => by rcases (show j = 0 ∨ j = 1 ∨ j = 2 ∨ j = 3 ∨ j = 4 ∨ j = 5 ∨ j = 6 ∨ j = 7 ∨ j = 8 ∨ j = 9 ∨ j = 10 by omega) with rfl | rfl | rfl | rfl | rfl | rfl | rfl | rfl | rfl | rfl | rfl <;> rfl) ⟨Nat.le_of_ble_eq_true rfl, Nat.le_of_ble_eq_true rfl⟩ dL_law_0 w (fun r301 h H S w => ?_)
  refine W.cs (cells' := 1) (slots' := 11) rfl rfl ?_
  refine lv_dup C.1.1 C.1.2.1 dL_law_3 (ql_catR _) ?_
  refine ql_I0 (As := []) (rest := [va_rf r301]) C S htab hlocks hl qy_X11_init qi_X11_init rfl gw_110 w (fun b w => qm_X11_init l hl9 D _ b _ _ w) rfl ⟨Nat.le_of_ble_eq_true rfl, Nat.le_of_ble_eq_true rfl⟩ ⟨rfl, rfl⟩ (by generalize r301 = z0; cases z0 <;> exact Nat.le_of_ble_eq_true rfl) (fun b e9 => by cases e9; rfl) dL_law_4 ⟨Nat.le_of_ble_eq_true rfl, Nat.le_of_ble_eq_true rfl⟩ ⟨Nat.le_of_ble_eq_true rfl, Nat.le_of_ble_eq_true rfl⟩ (fun h H locs S w => ?_)
  refine W.cs (cells' := 1020) (slots' := 7391) rfl rfl ?_
  refine ql_astore_n (lv' := [(1, va_rf r301), (0, .ref a0)]) C dL_law_7 rfl hl (by decide) rfl (fun ls hl => ?_)
  refine ql_new (ci := 13) (fs := [.null, .null, .null, .null, .int 0, .int 0, .int 0, .int 0, .null, .int 0, .int 0, .int 0, .null, .int 0, .null, .null, .int 0, .null, .int 0]) C S rfl qlay_13 tyX12 tyX12_ok gw_1662 gw_1663 gw_86 (fun j hj => by rcases (show j = 0 ∨ j = 1 ∨ j = 2 ∨ j = 3 ∨ j = 4 ∨ j = 5 ∨ j = 6 ∨ j = 7 ∨ j = 8 ∨ j = 9 ∨ j = 10 ∨ j = 11 ∨ j = 12 ∨ j = 13 ∨ j = 14 ∨ j = 15 ∨ j = 16 ∨ j = 17 ∨ j = 18 by omega) with rfl | rfl | rfl | rfl | rfl | rfl | rfl | rfl | rfl | rfl | rfl | rfl | rfl | rfl | rfl | rfl | rfl | rfl | rfl <;> rfl) ⟨Nat.le_of_ble_eq_true rfl, Nat.le_of_ble_eq_true rfl⟩ dL_law_8 w (fun r303 h H S w => ?_)
  refine W.cs (cells' := 1021) (slots' := 7410) rfl rfl ?_
  refine lv_dup C.1.1 C.1.2.1 dL_law_11 (ql_catR _) ?_
  refine ql_I0 (As := []) (rest := [va_rf r303]) C S htab hlocks hl qy_X12_init qi_X12_init rfl gw_1664 w (fun b w => qm_X12_init l hl9 D _ b _ _ w) rfl ⟨Nat.le_of_ble_eq_true rfl, Nat.le_of_ble_eq_true rfl⟩ ⟨rfl, rfl⟩ (by generalize r303 = z0; cases z0 <;> exact Nat.le_of_ble_eq_true rfl) (fun b e9 => by cases e9; rfl) dL_law_12 ⟨Nat.le_of_ble_eq_true rfl, Nat.le_of_ble_eq_true rfl⟩ ⟨Nat.le_of_ble_eq_true rfl, Nat.le_of_ble_eq_true rfl⟩ (fun h H locs S w => ?_)
  refine W.cs (cells' := 1030) (slots' := 15198) rfl rfl ?_
  refine ql_astore_n (lv' := [(2, va_rf r303), (1, va_rf r301), (0, .ref a0)]) C dL_law_15 rfl hl (by decide) (by generalize r301 = z9; cases z9 <;> rfl) (fun ls hl => ?_)
  refine lv_iconst (v := (1 : Int32)) C.1.1 C.1.2.1 dL_law_16 (by decide) ?_
  refine ql_newa (kd := 1) (a0 := (1, .inr (.inl (fun _ => 0)))) (atype := .long) C S gw_165 rfl (fun z => z) (fun cA => rfl) (by decide) (by decide) (by decide) ⟨Nat.le_of_ble_eq_true rfl, Nat.le_of_ble_eq_true rfl⟩ dL_law_17 w (fun r305 h H S w => ?_)
  refine W.cs (cells' := 1031) (slots' := 15199) rfl rfl ?_
  refine ql_astore_n (lv' := [(3, va_rf r305), (2, va_rf r303), (1, va_rf r301), (0, .ref a0)]) C dL_law_19 rfl hl (by decide) (by generalize r303 = z9; cases z9 <;> rfl) (fun ls hl => ?_)
  refine lv_iconst (v := (1 : Int32)) C.1.1 C.1.2.1 dL_law_20 (by decide) ?_
  refine ql_newa (kd := 4) (a0 := (1, .inr (.inr (.inr (.inl (fun _ => 0)))))) (atype := .double) C S gw_2145 rfl (fun z => z) (fun cA => rfl) (by decide) (by decide) (by decide) ⟨Nat.le_of_ble_eq_true rfl, Nat.le_of_ble_eq_true rfl⟩ dL_law_21 w (fun r306 h H S w => ?_)
  refine W.cs (cells' := 1032) (slots' := 15200) rfl rfl ?_
  refine ql_astore (lv' := [(4, va_rf r306), (3, va_rf r305), (2, va_rf r303), (1, va_rf r301), (0, .ref a0)]) C dL_law_23 hl (by decide) (by generalize r305 = z9; cases z9 <;> rfl) (fun ls hl => ?_)
  refine lv_iconst (v := (0 : Int32)) C.1.1 C.1.2.1 dL_law_25 (by decide) ?_
  refine lv_istore (lv' := [(5, .int (0 : Int32)), (4, va_rf r306), (3, va_rf r305), (2, va_rf r303), (1, va_rf r301), (0, .ref a0)]) C.1.1 C.1.2.1 dL_law_26 hl (by decide) (by generalize r306 = z9; cases z9 <;> rfl) (fun ls hl => ?_)
  refine W.cs (cells' := (1032 + (513 - 513) * 21)) (slots' := (15200 + (513 - 513) * 5126)) (by omega) (by omega) ?_
  exact (qm_L_law_28 l hl9 D h0 L9 xs9 a0 Q X p e s m below meth c C hr hlocks htab hX) 513 (Nat.le_refl _) r301 r303 r305 r306 (0 : Int32) _ _ _ _ S (lv_sub hl [5, 4, 3, 2, 1, 0] rfl) w

