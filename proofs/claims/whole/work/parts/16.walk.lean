def qw_X12_carries (a0 : Nat) (xp1 : Int32) (h : ql_H) (Q : Int32 → ql_H → Prop) : Prop :=
ql_gR h (some a0) 13 17 fun r1 =>
ql_lI h r1 0 (xp1 + (1 : Int32)) fun x2 =>
ql_gR h (some a0) 13 17 fun r3 =>
ql_lI h r3 0 (xp1 + (2 : Int32)) fun x4 =>
ql_gR h (some a0) 13 17 fun r5 =>
ql_lI h r5 0 (xp1 + (3 : Int32)) fun x6 =>
ql_gR h (some a0) 13 17 fun r7 =>
ql_lI h r7 0 xp1 fun x8 =>
if x8 = (0 : Int32) then (ql_rv h (some a0) 13 fun b9 => qw_X12_addClause b9 x2 (x6.toUInt32 % 65536).toInt32 h (fun x9 h =>
Q x9 h)) else if x8 = (1 : Int32) then (ql_rv h (some a0) 13 fun b11 => qw_X12_insertNote b11 x2 x4 (x6.toUInt32 % 65536).toInt32 h (fun x11 h =>
Q x11 h)) else if x8 = (2 : Int32) then (ql_rv h (some a0) 13 fun b13 => qw_X12_replaceNote b13 x2 x4 (x6.toUInt32 % 65536).toInt32 h (fun x13 h =>
Q x13 h)) else if x8 = (3 : Int32) then (ql_rv h (some a0) 13 fun b15 => qw_X12_deleteNote b15 x2 x4 h (fun x15 h =>
Q x15 h)) else if x8 = (4 : Int32) then (ql_rv h (some a0) 13 fun b17 => qw_X12_setSunset b17 x2 x4 h (fun x17 h =>
Q x17 h)) else if x8 = (5 : Int32) then (ql_rv h (some a0) 13 fun b19 => qw_X12_cite b19 x2 x4 h (fun x19 h =>
Q x19 h)) else if x8 = (6 : Int32) then (ql_rv h (some a0) 13 fun b21 => qw_X12_uncite b21 x2 x4 h (fun x21 h =>
Q x21 h)) else if x8 = (7 : Int32) then (ql_rv h (some a0) 13 fun b23 => qw_X12_repeal b23 x2 h (fun x23 h =>
Q x23 h)) else if x8 = (8 : Int32) then (ql_rv h (some a0) 13 fun b25 => qw_X12_consolidate b25  h (fun x25 h =>
Q x25 h)) else (ql_rv h (some a0) 13 fun b27 => qw_X12_advance b27 x2 h (fun x27 h =>
Q x27 h))
set_option maxHeartbeats 4000000 in
set_option maxRecDepth 100000 in
theorem qm_X12_carries (l : Launch) (hl9 : l.stackTraces = false) (D : ql_D) (h0 : ql_H) (a0 : Nat) (xp1 : Int32) (Q : Int32 → ql_H → Prop) (X : String → ql_H → Prop) (w : qw_X12_carries a0 xp1 h0 Q) : ql_M D l yX12_carries cX12_carries 5 (some .int) ({ frames := 10, cells := 0, slots := 0, locals := 174 } : Room) h0 [.ref a0, .int xp1] (ql_rI Q) X 0 0 := by
  refine ql_ofW (by decide) (Nat.le_of_ble_eq_true rfl) ?_
  intro p e s m below meth c ls C hr hlocks hnm htab S hl
  have hl : lv_has ls 5 [(0, .ref a0), (1, .int xp1)] := hl
  unfold qw_X12_carries at w
  refine ql_aload_n (r := (some a0)) C dX12_carries_0 rfl (lv_at hl 0 rfl) ?_
  refine ql_getR C S qf_13_17 gw_1685 dX12_carries_1 w (fun r1 w => ?_)
  refine lv_iload_n C.1.1 C.1.2.1 dX12_carries_4 rfl (lv_at hl 1 rfl) ?_
  refine lv_iconst (v := (1 : Int32)) C.1.1 C.1.2.1 dX12_carries_5 (by decide) ?_
  refine lv_iadd C.1.1 C.1.2.1 dX12_carries_6 ?_
  refine ql_iald C S dX12_carries_7 w (fun x2 w => ?_)
  refine lv_istore_n (lv' := [(2, .int x2), (0, .ref a0), (1, .int xp1)]) C.1.1 C.1.2.1 dX12_carries_8 rfl hl (by decide) rfl (fun ls hl => ?_)
  refine ql_aload_n (r := (some a0)) C dX12_carries_9 rfl (lv_at hl 1 rfl) ?_
  refine ql_getR C S qf_13_17 gw_1685 dX12_carries_10 w (fun r3 w => ?_)
  refine lv_iload_n C.1.1 C.1.2.1 dX12_carries_13 rfl (lv_at hl 2 rfl) ?_
  refine lv_iconst (v := (2 : Int32)) C.1.1 C.1.2.1 dX12_carries_14 (by decide) ?_
  refine lv_iadd C.1.1 C.1.2.1 dX12_carries_15 ?_
  refine ql_iald C S dX12_carries_16 w (fun x4 w => ?_)
  refine lv_istore_n (lv' := [(3, .int x4), (2, .int x2), (0, .ref a0), (1, .int xp1)]) C.1.1 C.1.2.1 dX12_carries_17 rfl hl (by decide) rfl (fun ls hl => ?_)
  refine ql_aload_n (r := (some a0)) C dX12_carries_18 rfl (lv_at hl 2 rfl) ?_
  refine ql_getR C S qf_13_17 gw_1685 dX12_carries_19 w (fun r5 w => ?_)
  refine lv_iload_n C.1.1 C.1.2.1 dX12_carries_22 rfl (lv_at hl 3 rfl) ?_
  refine lv_iconst (v := (3 : Int32)) C.1.1 C.1.2.1 dX12_carries_23 (by decide) ?_
  refine lv_iadd C.1.1 C.1.2.1 dX12_carries_24 ?_
  refine ql_iald C S dX12_carries_25 w (fun x6 w => ?_)
  refine lv_i2c C.1.1 C.1.2.1 dX12_carries_26 rfl ?_
  refine lv_istore (lv' := [(4, .int (x6.toUInt32 % 65536).toInt32), (3, .int x4), (2, .int x2), (0, .ref a0), (1, .int xp1)]) C.1.1 C.1.2.1 dX12_carries_27 hl (by decide) rfl (fun ls hl => ?_)
  refine ql_aload_n (r := (some a0)) C dX12_carries_29 rfl (lv_at hl 3 rfl) ?_
  refine ql_getR C S qf_13_17 gw_1685 dX12_carries_30 w (fun r7 w => ?_)
  refine lv_iload_n C.1.1 C.1.2.1 dX12_carries_33 rfl (lv_at hl 4 rfl) ?_
  refine ql_iald C S dX12_carries_34 w (fun x8 w => ?_)
  by_cases c9 : x8 = (0 : Int32)
  · replace w := ql_if w c9
    refine lv_tableIn (tgt := 84) (off := 49) C.1.1 C.1.2.1 dX12_carries_35 (by rw [c9]; decide) (by rw [c9]; decide) (by rw [c9]; rfl) (by decide) ?_
    refine ql_aload_n (r := (some a0)) C dX12_carries_84 rfl (lv_at hl 3 rfl) ?_
    refine lv_iload_n C.1.1 C.1.2.1 dX12_carries_85 rfl (lv_at hl 2 rfl) ?_
    refine lv_iload C.1.1 C.1.2.1 dX12_carries_86 (lv_at hl 0 rfl) ?_
    refine ql_VI (As := [.int x2, .int (x6.toUInt32 % 65536).toInt32]) (rest := []) C S htab hlocks hl qy_X12_addClause qi_X12_addClause qs_X12_addClause gw_2115 (ci := 13) rfl w (fun b w => qm_X12_addClause l hl9 D _ b x2 (x6.toUInt32 % 65536).toInt32 _ _ w) rfl ⟨Nat.le_of_ble_eq_true rfl, Nat.le_of_ble_eq_true rfl⟩ ⟨rfl, rfl⟩ (by exact Nat.le_of_ble_eq_true rfl) (fun b e9 => by cases e9; rfl) dX12_carries_88 ⟨Nat.le_of_ble_eq_true rfl, Nat.le_of_ble_eq_true rfl⟩ ⟨Nat.le_of_ble_eq_true rfl, Nat.le_of_ble_eq_true rfl⟩ (fun x9 h H locs S w => ?_)
    refine W.cs (cells' := 0) (slots' := 0) rfl rfl ?_
    exact ql_iret C S hr hlocks dX12_carries_91 ⟨Nat.le_of_ble_eq_true rfl, Nat.le_of_ble_eq_true rfl⟩ w
  replace w := ql_ifn w c9
  have e0 := c9
  clear c9
  by_cases c9 : x8 = (1 : Int32)
  · replace w := ql_if w c9
    refine lv_tableIn (tgt := 92) (off := 57) C.1.1 C.1.2.1 dX12_carries_35 (by rw [c9]; decide) (by rw [c9]; decide) (by rw [c9]; rfl) (by decide) ?_
    refine ql_aload_n (r := (some a0)) C dX12_carries_92 rfl (lv_at hl 3 rfl) ?_
    refine lv_iload_n C.1.1 C.1.2.1 dX12_carries_93 rfl (lv_at hl 2 rfl) ?_
    refine lv_iload_n C.1.1 C.1.2.1 dX12_carries_94 rfl (lv_at hl 1 rfl) ?_
    refine lv_iload C.1.1 C.1.2.1 dX12_carries_95 (lv_at hl 0 rfl) ?_
    refine ql_VI (As := [.int x2, .int x4, .int (x6.toUInt32 % 65536).toInt32]) (rest := []) C S htab hlocks hl qy_X12_insertNote qi_X12_insertNote qs_X12_insertNote gw_2116 (ci := 13) rfl w (fun b w => qm_X12_insertNote l hl9 D _ b x2 x4 (x6.toUInt32 % 65536).toInt32 _ _ w) rfl ⟨Nat.le_of_ble_eq_true rfl, Nat.le_of_ble_eq_true rfl⟩ ⟨rfl, rfl⟩ (by exact Nat.le_of_ble_eq_true rfl) (fun b e9 => by cases e9; rfl) dX12_carries_97 ⟨Nat.le_of_ble_eq_true rfl, Nat.le_of_ble_eq_true rfl⟩ ⟨Nat.le_of_ble_eq_true rfl, Nat.le_of_ble_eq_true rfl⟩ (fun x11 h H locs S w => ?_)
    refine W.cs (cells' := 0) (slots' := 0) rfl rfl ?_
    exact ql_iret C S hr hlocks dX12_carries_100 ⟨Nat.le_of_ble_eq_true rfl, Nat.le_of_ble_eq_true rfl⟩ w
  replace w := ql_ifn w c9
  have e1 := c9
  clear c9
  by_cases c9 : x8 = (2 : Int32)
  · replace w := ql_if w c9
    refine lv_tableIn (tgt := 101) (off := 66) C.1.1 C.1.2.1 dX12_carries_35 (by rw [c9]; decide) (by rw [c9]; decide) (by rw [c9]; rfl) (by decide) ?_
    refine ql_aload_n (r := (some a0)) C dX12_carries_101 rfl (lv_at hl 3 rfl) ?_
    refine lv_iload_n C.1.1 C.1.2.1 dX12_carries_102 rfl (lv_at hl 2 rfl) ?_
    refine lv_iload_n C.1.1 C.1.2.1 dX12_carries_103 rfl (lv_at hl 1 rfl) ?_
    refine lv_iload C.1.1 C.1.2.1 dX12_carries_104 (lv_at hl 0 rfl) ?_
    refine ql_VI (As := [.int x2, .int x4, .int (x6.toUInt32 % 65536).toInt32]) (rest := []) C S htab hlocks hl qy_X12_replaceNote qi_X12_replaceNote qs_X12_replaceNote gw_2117 (ci := 13) rfl w (fun b w => qm_X12_replaceNote l hl9 D _ b x2 x4 (x6.toUInt32 % 65536).toInt32 _ _ w) rfl ⟨Nat.le_of_ble_eq_true rfl, Nat.le_of_ble_eq_true rfl⟩ ⟨rfl, rfl⟩ (by exact Nat.le_of_ble_eq_true rfl) (fun b e9 => by cases e9; rfl) dX12_carries_106 ⟨Nat.le_of_ble_eq_true rfl, Nat.le_of_ble_eq_true rfl⟩ ⟨Nat.le_of_ble_eq_true rfl, Nat.le_of_ble_eq_true rfl⟩ (fun x13 h H locs S w => ?_)
    refine W.cs (cells' := 0) (slots' := 0) rfl rfl ?_
    exact ql_iret C S hr hlocks dX12_carries_109 ⟨Nat.le_of_ble_eq_true rfl, Nat.le_of_ble_eq_true rfl⟩ w
  replace w := ql_ifn w c9
  have e2 := c9
  clear c9
  by_cases c9 : x8 = (3 : Int32)
  · replace w := ql_if w c9
    refine lv_tableIn (tgt := 110) (off := 75) C.1.1 C.1.2.1 dX12_carries_35 (by rw [c9]; decide) (by rw [c9]; decide) (by rw [c9]; rfl) (by decide) ?_
    refine ql_aload_n (r := (some a0)) C dX12_carries_110 rfl (lv_at hl 3 rfl) ?_
    refine lv_iload_n C.1.1 C.1.2.1 dX12_carries_111 rfl (lv_at hl 2 rfl) ?_
    refine lv_iload_n C.1.1 C.1.2.1 dX12_carries_112 rfl (lv_at hl 1 rfl) ?_
    refine ql_VI (As := [.int x2, .int x4]) (rest := []) C S htab hlocks hl qy_X12_deleteNote qi_X12_deleteNote qs_X12_deleteNote gw_2118 (ci := 13) rfl w (fun b w => qm_X12_deleteNote l hl9 D _ b x2 x4 _ _ w) rfl ⟨Nat.le_of_ble_eq_true rfl, Nat.le_of_ble_eq_true rfl⟩ ⟨rfl, rfl⟩ (by exact Nat.le_of_ble_eq_true rfl) (fun b e9 => by cases e9; rfl) dX12_carries_113 ⟨Nat.le_of_ble_eq_true rfl, Nat.le_of_ble_eq_true rfl⟩ ⟨Nat.le_of_ble_eq_true rfl, Nat.le_of_ble_eq_true rfl⟩ (fun x15 h H locs S w => ?_)
    refine W.cs (cells' := 0) (slots' := 0) rfl rfl ?_
    exact ql_iret C S hr hlocks dX12_carries_116 ⟨Nat.le_of_ble_eq_true rfl, Nat.le_of_ble_eq_true rfl⟩ w
  replace w := ql_ifn w c9
  have e3 := c9
  clear c9
  by_cases c9 : x8 = (4 : Int32)
  · replace w := ql_if w c9
    refine lv_tableIn (tgt := 117) (off := 82) C.1.1 C.1.2.1 dX12_carries_35 (by rw [c9]; decide) (by rw [c9]; decide) (by rw [c9]; rfl) (by decide) ?_
    refine ql_aload_n (r := (some a0)) C dX12_carries_117 rfl (lv_at hl 3 rfl) ?_
    refine lv_iload_n C.1.1 C.1.2.1 dX12_carries_118 rfl (lv_at hl 2 rfl) ?_
    refine lv_iload_n C.1.1 C.1.2.1 dX12_carries_119 rfl (lv_at hl 1 rfl) ?_
    refine ql_VI (As := [.int x2, .int x4]) (rest := []) C S htab hlocks hl qy_X12_setSunset qi_X12_setSunset qs_X12_setSunset gw_2119 (ci := 13) rfl w (fun b w => qm_X12_setSunset l hl9 D _ b x2 x4 _ _ w) rfl ⟨Nat.le_of_ble_eq_true rfl, Nat.le_of_ble_eq_true rfl⟩ ⟨rfl, rfl⟩ (by exact Nat.le_of_ble_eq_true rfl) (fun b e9 => by cases e9; rfl) dX12_carries_120 ⟨Nat.le_of_ble_eq_true rfl, Nat.le_of_ble_eq_true rfl⟩ ⟨Nat.le_of_ble_eq_true rfl, Nat.le_of_ble_eq_true rfl⟩ (fun x17 h H locs S w => ?_)
    refine W.cs (cells' := 0) (slots' := 0) rfl rfl ?_
    exact ql_iret C S hr hlocks dX12_carries_123 ⟨Nat.le_of_ble_eq_true rfl, Nat.le_of_ble_eq_true rfl⟩ w
  replace w := ql_ifn w c9
  have e4 := c9
  clear c9
  by_cases c9 : x8 = (5 : Int32)
  · replace w := ql_if w c9
    refine lv_tableIn (tgt := 124) (off := 89) C.1.1 C.1.2.1 dX12_carries_35 (by rw [c9]; decide) (by rw [c9]; decide) (by rw [c9]; rfl) (by decide) ?_
    refine ql_aload_n (r := (some a0)) C dX12_carries_124 rfl (lv_at hl 3 rfl) ?_
    refine lv_iload_n C.1.1 C.1.2.1 dX12_carries_125 rfl (lv_at hl 2 rfl) ?_
    refine lv_iload_n C.1.1 C.1.2.1 dX12_carries_126 rfl (lv_at hl 1 rfl) ?_
    refine ql_VI (As := [.int x2, .int x4]) (rest := []) C S htab hlocks hl qy_X12_cite qi_X12_cite qs_X12_cite gw_2120 (ci := 13) rfl w (fun b w => qm_X12_cite l hl9 D _ b x2 x4 _ _ w) rfl ⟨Nat.le_of_ble_eq_true rfl, Nat.le_of_ble_eq_true rfl⟩ ⟨rfl, rfl⟩ (by exact Nat.le_of_ble_eq_true rfl) (fun b e9 => by cases e9; rfl) dX12_carries_127 ⟨Nat.le_of_ble_eq_true rfl, Nat.le_of_ble_eq_true rfl⟩ ⟨Nat.le_of_ble_eq_true rfl, Nat.le_of_ble_eq_true rfl⟩ (fun x19 h H locs S w => ?_)
    refine W.cs (cells' := 0) (slots' := 0) rfl rfl ?_
    exact ql_iret C S hr hlocks dX12_carries_130 ⟨Nat.le_of_ble_eq_true rfl, Nat.le_of_ble_eq_true rfl⟩ w
  replace w := ql_ifn w c9
  have e5 := c9
  clear c9
  by_cases c9 : x8 = (6 : Int32)
  · replace w := ql_if w c9
    refine lv_tableIn (tgt := 131) (off := 96) C.1.1 C.1.2.1 dX12_carries_35 (by rw [c9]; decide) (by rw [c9]; decide) (by rw [c9]; rfl) (by decide) ?_
    refine ql_aload_n (r := (some a0)) C dX12_carries_131 rfl (lv_at hl 3 rfl) ?_
    refine lv_iload_n C.1.1 C.1.2.1 dX12_carries_132 rfl (lv_at hl 2 rfl) ?_
    refine lv_iload_n C.1.1 C.1.2.1 dX12_carries_133 rfl (lv_at hl 1 rfl) ?_
    refine ql_VI (As := [.int x2, .int x4]) (rest := []) C S htab hlocks hl qy_X12_uncite qi_X12_uncite qs_X12_uncite gw_2121 (ci := 13) rfl w (fun b w => qm_X12_uncite l hl9 D _ b x2 x4 _ _ w) rfl ⟨Nat.le_of_ble_eq_true rfl, Nat.le_of_ble_eq_true rfl⟩ ⟨rfl, rfl⟩ (by exact Nat.le_of_ble_eq_true rfl) (fun b e9 => by cases e9; rfl) dX12_carries_134 ⟨Nat.le_of_ble_eq_true rfl, Nat.le_of_ble_eq_true rfl⟩ ⟨Nat.le_of_ble_eq_true rfl, Nat.le_of_ble_eq_true rfl⟩ (fun x21 h H locs S w => ?_)
    refine W.cs (cells' := 0) (slots' := 0) rfl rfl ?_
    exact ql_iret C S hr hlocks dX12_carries_137 ⟨Nat.le_of_ble_eq_true rfl, Nat.le_of_ble_eq_true rfl⟩ w
  replace w := ql_ifn w c9
  have e6 := c9
  clear c9
  by_cases c9 : x8 = (7 : Int32)
  · replace w := ql_if w c9
    refine lv_tableIn (tgt := 138) (off := 103) C.1.1 C.1.2.1 dX12_carries_35 (by rw [c9]; decide) (by rw [c9]; decide) (by rw [c9]; rfl) (by decide) ?_
    refine ql_aload_n (r := (some a0)) C dX12_carries_138 rfl (lv_at hl 3 rfl) ?_
    refine lv_iload_n C.1.1 C.1.2.1 dX12_carries_139 rfl (lv_at hl 2 rfl) ?_
    refine ql_VI (As := [.int x2]) (rest := []) C S htab hlocks hl qy_X12_repeal qi_X12_repeal qs_X12_repeal gw_2122 (ci := 13) rfl w (fun b w => qm_X12_repeal l hl9 D _ b x2 _ _ w) rfl ⟨Nat.le_of_ble_eq_true rfl, Nat.le_of_ble_eq_true rfl⟩ ⟨rfl, rfl⟩ (by exact Nat.le_of_ble_eq_true rfl) (fun b e9 => by cases e9; rfl) dX12_carries_140 ⟨Nat.le_of_ble_eq_true rfl, Nat.le_of_ble_eq_true rfl⟩ ⟨Nat.le_of_ble_eq_true rfl, Nat.le_of_ble_eq_true rfl⟩ (fun x23 h H locs S w => ?_)
    refine W.cs (cells' := 0) (slots' := 0) rfl rfl ?_
    exact ql_iret C S hr hlocks dX12_carries_143 ⟨Nat.le_of_ble_eq_true rfl, Nat.le_of_ble_eq_true rfl⟩ w
  replace w := ql_ifn w c9
  have e7 := c9
  clear c9
  by_cases c9 : x8 = (8 : Int32)
  · replace w := ql_if w c9
    refine lv_tableIn (tgt := 144) (off := 109) C.1.1 C.1.2.1 dX12_carries_35 (by rw [c9]; decide) (by rw [c9]; decide) (by rw [c9]; rfl) (by decide) ?_
    refine ql_aload_n (r := (some a0)) C dX12_carries_144 rfl (lv_at hl 3 rfl) ?_
    refine ql_VI (As := []) (rest := []) C S htab hlocks hl qy_X12_consolidate qi_X12_consolidate qs_X12_consolidate gw_2123 (ci := 13) rfl w (fun b w => qm_X12_consolidate l hl9 D _ b _ _ w) rfl ⟨Nat.le_of_ble_eq_true rfl, Nat.le_of_ble_eq_true rfl⟩ ⟨rfl, rfl⟩ (by exact Nat.le_of_ble_eq_true rfl) (fun b e9 => by cases e9; rfl) dX12_carries_145 ⟨Nat.le_of_ble_eq_true rfl, Nat.le_of_ble_eq_true rfl⟩ ⟨Nat.le_of_ble_eq_true rfl, Nat.le_of_ble_eq_true rfl⟩ (fun x25 h H locs S w => ?_)
    refine W.cs (cells' := 0) (slots' := 0) rfl rfl ?_
    exact ql_iret C S hr hlocks dX12_carries_148 ⟨Nat.le_of_ble_eq_true rfl, Nat.le_of_ble_eq_true rfl⟩ w
  replace w := ql_ifn w c9
  have e8 := c9
  clear c9
  refine lv_tableOut (tgt := 149) C.1.1 C.1.2.1 dX12_carries_35 (ql_sw (n := 9) (by decide) (fun k hk => ?_)) (by decide) ?_
  · rcases (show k = 0 ∨ k = 1 ∨ k = 2 ∨ k = 3 ∨ k = 4 ∨ k = 5 ∨ k = 6 ∨ k = 7 ∨ k = 8 by omega) with rfl | rfl | rfl | rfl | rfl | rfl | rfl | rfl | rfl
    · exact e0
    · exact e1
    · exact e2
    · exact e3
    · exact e4
    · exact e5
    · exact e6
    · exact e7
    · exact e8
  refine ql_aload_n (r := (some a0)) C dX12_carries_149 rfl (lv_at hl 3 rfl) ?_
  refine lv_iload_n C.1.1 C.1.2.1 dX12_carries_150 rfl (lv_at hl 2 rfl) ?_
  refine ql_VI (As := [.int x2]) (rest := []) C S htab hlocks hl qy_X12_advance qi_X12_advance qs_X12_advance gw_2124 (ci := 13) rfl w (fun b w => qm_X12_advance l hl9 D _ b x2 _ _ w) rfl ⟨Nat.le_of_ble_eq_true rfl, Nat.le_of_ble_eq_true rfl⟩ ⟨rfl, rfl⟩ (by exact Nat.le_of_ble_eq_true rfl) (fun b e9 => by cases e9; rfl) dX12_carries_151 ⟨Nat.le_of_ble_eq_true rfl, Nat.le_of_ble_eq_true rfl⟩ ⟨Nat.le_of_ble_eq_true rfl, Nat.le_of_ble_eq_true rfl⟩ (fun x27 h H locs S w => ?_)
  refine W.cs (cells' := 0) (slots' := 0) rfl rfl ?_
  exact ql_iret C S hr hlocks dX12_carries_154 ⟨Nat.le_of_ble_eq_true rfl, Nat.le_of_ble_eq_true rfl⟩ w
def qw_X12_runScript_98 (σ : Nat → Nat) (a0 : Nat) (Q : Int32 → ql_H → Prop) (xl2 : Int32) (xl3 : Int32) (h : ql_H) : Prop :=
ql_pV h (some a0) 13 6 (.int (0 : Int32)) fun h =>
ql_gI h (some a0) 13 7 fun x1 =>
if x1 ≤ 0 then (ql_gR h (some a0) 13 3 fun r2 =>
ql_rv h (some a0) 13 fun b2 => qw_X12_keeps b2 r2 h (fun h =>
ql_gI h (some a0) 13 18 fun x4 =>
Q x4 h)) else (ql_gR h (some a0) 13 3 fun r5 =>
ql_gR h (some a0) 13 0 fun r6 =>
qw_X12_copies r5 (0 : Int32) r6 (0 : Int32) h (fun h =>
ql_pV h (some a0) 13 11 (.int xl2) fun h =>
ql_pV h (some a0) 13 7 (.int (2 : Int32)) fun h =>
if xl3 ≤ 0 then (Q xl3 h) else (Q (0 : Int32) h)))
def qw_X12_runScript_62 (σ : Nat → Nat) (a0 : Nat) (Q : Int32 → ql_H → Prop) : Nat → Int32 → Int32 → ql_H → Prop
  | 0, _, _, _ => False
  | n + 1, xl2, xl3, h =>
    ql_gI h (some a0) 13 18 fun x7 =>
    if x7 ≤ xl2 then (qw_X12_runScript_98 σ a0 Q xl2 xl3 h) else (ql_gI h (some a0) 13 7 fun x8 =>
    if x8 = 0 then (ql_rv h (some a0) 13 fun b9 => qw_X12_carries b9 ((4 : Int32) * xl2) h (fun x9 h =>
    ql_gI h (some a0) 13 7 fun x11 =>
    if x11 = 0 then (qw_X12_runScript_62 σ a0 Q n (xl2 + (1 : Int32)) x9 h) else (qw_X12_runScript_62 σ a0 Q n xl2 x9 h))) else (qw_X12_runScript_98 σ a0 Q xl2 xl3 h))
def qw_X12_runScript_32 (σ : Nat → Nat) (a0 : Nat) (Q : Int32 → ql_H → Prop) (rs0 : Option Nat) (xs1 : Int32) (h : ql_H) : Prop :=
ql_rv h rs0 13 fun b12 => qw_X12_fails b12 xs1 h (fun x12 h =>
if x12 = 0 then (ql_gR h (some a0) 13 0 fun r14 =>
ql_gR h (some a0) 13 3 fun r15 =>
qw_X12_copies r14 (0 : Int32) r15 (0 : Int32) h (fun h =>
ql_pV h (some a0) 13 6 (.int (1 : Int32)) fun h =>
qw_X12_runScript_62 σ a0 Q ql_FU (0 : Int32) (0 : Int32) h)) else (Q (0 : Int32) h))
def qw_X12_runScript_17 (σ : Nat → Nat) (a0 : Nat) (Q : Int32 → ql_H → Prop) (xl1 : Int32) (h : ql_H) : Prop :=
ql_pV h (some a0) 13 9 (.int (0 : Int32)) fun h =>
if xl1 = 0 then (qw_X12_runScript_32 σ a0 Q (some a0) (1 : Int32) h) else (qw_X12_runScript_32 σ a0 Q (some a0) (0 : Int32) h)
def qw_X12_runScript (σ : Nat → Nat) (a0 : Nat) (h : ql_H) (Q : Int32 → ql_H → Prop) : Prop :=
ql_rv h (some a0) 13 fun b16 => qw_X12_isScript σ b16  h (fun x16 h =>
if x16 = 0 then (ql_gI h (some a0) 13 16 fun x18 =>
ql_pV h (some a0) 13 10 (.int x18) fun h =>
qw_X12_runScript_17 σ a0 Q x16 h) else (qw_X12_runScript_17 σ a0 Q x16 h))
set_option maxHeartbeats 4000000 in
set_option maxRecDepth 100000 in
theorem qm_X12_runScript (l : Launch) (hl9 : l.stackTraces = false) (D : ql_D) (h0 : ql_H) (a0 : Nat) (Q : Int32 → ql_H → Prop) (X : String → ql_H → Prop) (w : qw_X12_runScript D.2 a0 h0 Q) : ql_M D l yX12_runScript cX12_runScript 4 (some .int) ({ frames := 16, cells := 0, slots := 0, locals := 253 } : Room) h0 [.ref a0] (ql_rI Q) X 0 0 := by
  refine ql_ofW (by decide) (Nat.le_of_ble_eq_true rfl) ?_
  intro p e s m below meth c ls C hr hlocks hnm htab S hl
  have hl : lv_has ls 4 [(0, .ref a0)] := hl
  have hB98 : ∀ (xl2 : Int32) (xl3 : Int32) (h : ql_H) (H : Heap) (locs : List Loc) (ls : Array Slot), ql_S D h0 s H locs h → lv_has ls 4 [(0, .ref a0), (2, .int xl2), (3, .int xl3)] → qw_X12_runScript_98 D.2 a0 Q xl2 xl3 h → W p l e ({ frames := 16, cells := 0, slots := 0, locals := 253 } : Room) s m ([.ref a0] : List Value).toArray below meth c H locs 0 0 (vx_MQ below (ql_Q D h0 (ql_rI Q)) (ql_X D h0 X) ([.ref a0] : List Value).toArray s 0 0 (ql_A h0)) (F0 m 98 ls []) := by
    intro xl2 xl3 h H locs ls S hl w
    unfold qw_X12_runScript_98 at w
    refine ql_aload_n (r := (some a0)) C dX12_runScript_98 rfl (lv_at hl 0 rfl) ?_
    refine lv_iconst (v := (0 : Int32)) C.1.1 C.1.2.1 dX12_runScript_99 (by decide) ?_
    refine ql_putV C S qf_13_6 gw_1674 (tyX12) tyX12_ok nmX12 rfl dX12_runScript_100 (v := .int (0 : Int32)) rfl rfl w (fun h H locs S w => ?_)
    refine ql_aload_n (r := (some a0)) C dX12_runScript_103 rfl (lv_at hl 0 rfl) ?_
    refine ql_getI C S qf_13_7 gw_1675 dX12_runScript_104 w (fun x1 w => ?_)
    refine lv_if_le (tgt := 143) C.1.1 C.1.2.1 dX12_runScript_107 (by decide) (fun c9 => ?_) (fun c9 => ?_)
    · replace w := ql_if w c9
      refine ql_aload_n (r := (some a0)) C dX12_runScript_143 rfl (lv_at hl 0 rfl) ?_
      refine ql_aload_n (r := (some a0)) C dX12_runScript_144 rfl (lv_at hl 0 rfl) ?_
      refine ql_getR C S qf_13_3 gw_1671 dX12_runScript_145 w (fun r2 w => ?_)
      refine ql_VV (As := [va_rf r2]) (rest := []) C S htab hlocks hl qy_X12_keeps qi_X12_keeps qs_X12_keeps gw_1753 (ci := 13) rfl w (fun b w => qm_X12_keeps l hl9 D _ b r2 _ _ w) rfl ⟨Nat.le_of_ble_eq_true rfl, Nat.le_of_ble_eq_true rfl⟩ ⟨rfl, rfl⟩ (by exact Nat.le_of_ble_eq_true rfl) (fun b e9 => by cases e9; rfl) dX12_runScript_148 ⟨Nat.le_of_ble_eq_true rfl, Nat.le_of_ble_eq_true rfl⟩ ⟨Nat.le_of_ble_eq_true rfl, Nat.le_of_ble_eq_true rfl⟩ (fun h H locs S w => ?_)
      refine W.cs (cells' := 0) (slots' := 0) rfl rfl ?_
      refine ql_aload_n (r := (some a0)) C dX12_runScript_151 rfl (lv_at hl 0 rfl) ?_
      refine ql_getI C S qf_13_18 gw_1686 dX12_runScript_152 w (fun x4 w => ?_)
      exact ql_iret C S hr hlocks dX12_runScript_155 ⟨Nat.le_of_ble_eq_true rfl, Nat.le_of_ble_eq_true rfl⟩ w
    · replace w := ql_ifn w c9
      refine ql_aload_n (r := (some a0)) C dX12_runScript_110 rfl (lv_at hl 0 rfl) ?_
      refine ql_getR C S qf_13_3 gw_1671 dX12_runScript_111 w (fun r5 w => ?_)
      refine lv_iconst (v := (0 : Int32)) C.1.1 C.1.2.1 dX12_runScript_114 (by decide) ?_
      refine ql_aload_n (r := (some a0)) C dX12_runScript_115 rfl (lv_at hl 0 rfl) ?_
      refine ql_getR C S qf_13_0 gw_1668 dX12_runScript_116 w (fun r6 w => ?_)
      refine lv_iconst (v := (0 : Int32)) C.1.1 C.1.2.1 dX12_runScript_119 (by decide) ?_
      refine ql_SV (As := [va_rf r5, .int (0 : Int32), va_rf r6, .int (0 : Int32)]) (rest := []) C S htab hlocks hl qy_X12_copies qi_X12_copies gw_1757 (qm_X12_copies l hl9 D _ r5 (0 : Int32) r6 (0 : Int32) _ _ w) rfl ⟨Nat.le_of_ble_eq_true rfl, Nat.le_of_ble_eq_true rfl⟩ ⟨rfl, rfl⟩ (by exact Nat.le_of_ble_eq_true rfl) rfl dX12_runScript_120 ⟨Nat.le_of_ble_eq_true rfl, Nat.le_of_ble_eq_true rfl⟩ ⟨Nat.le_of_ble_eq_true rfl, Nat.le_of_ble_eq_true rfl⟩ (fun h H locs S w => ?_)
      refine W.cs (cells' := 0) (slots' := 0) rfl rfl ?_
      refine ql_aload_n (r := (some a0)) C dX12_runScript_123 rfl (lv_at hl 0 rfl) ?_
      refine lv_iload_n C.1.1 C.1.2.1 dX12_runScript_124 rfl (lv_at hl 1 rfl) ?_
      refine ql_putV C S qf_13_11 gw_1679 (tyX12) tyX12_ok nmX12 rfl dX12_runScript_125 (v := .int xl2) rfl rfl w (fun h H locs S w => ?_)
      refine ql_aload_n (r := (some a0)) C dX12_runScript_128 rfl (lv_at hl 0 rfl) ?_
      refine lv_iconst (v := (2 : Int32)) C.1.1 C.1.2.1 dX12_runScript_129 (by decide) ?_
      refine ql_putV C S qf_13_7 gw_1675 (tyX12) tyX12_ok nmX12 rfl dX12_runScript_130 (v := .int (2 : Int32)) rfl rfl w (fun h H locs S w => ?_)
      refine lv_iload_n C.1.1 C.1.2.1 dX12_runScript_133 rfl (lv_at hl 2 rfl) ?_
      refine lv_if_le (tgt := 141) C.1.1 C.1.2.1 dX12_runScript_134 (by decide) (fun c9 => ?_) (fun c9 => ?_)
      · replace w := ql_if w c9
        refine lv_iload_n C.1.1 C.1.2.1 dX12_runScript_141 rfl (lv_at hl 2 rfl) ?_
        exact ql_iret C S hr hlocks dX12_runScript_142 ⟨Nat.le_of_ble_eq_true rfl, Nat.le_of_ble_eq_true rfl⟩ w
      · replace w := ql_ifn w c9
        refine lv_iconst (v := (0 : Int32)) C.1.1 C.1.2.1 dX12_runScript_137 (by decide) ?_
        refine lv_goto (tgt := 142) C.1.1 C.1.2.1 dX12_runScript_138 (by decide) ?_
        exact ql_iret C S hr hlocks dX12_runScript_142 ⟨Nat.le_of_ble_eq_true rfl, Nat.le_of_ble_eq_true rfl⟩ w
  have hB62 : ∀ n : Nat, ∀ (xl2 : Int32) (xl3 : Int32) (h : ql_H) (H : Heap) (locs : List Loc) (ls : Array Slot), ql_S D h0 s H locs h → lv_has ls 4 [(0, .ref a0), (2, .int xl2), (3, .int xl3)] → qw_X12_runScript_62 D.2 a0 Q n xl2 xl3 h → W p l e ({ frames := 16, cells := 0, slots := 0, locals := 253 } : Room) s m ([.ref a0] : List Value).toArray below meth c H locs 0 0 (vx_MQ below (ql_Q D h0 (ql_rI Q)) (ql_X D h0 X) ([.ref a0] : List Value).toArray s 0 0 (ql_A h0)) (F0 m 62 ls []) := by
    intro n
    induction n with
    | zero => intro xl2 xl3 h H locs ls S hl w; rw [qw_X12_runScript_62] at w; exact w.elim
    | succ n ih =>
      intro xl2 xl3 h H locs ls S hl w
      rw [qw_X12_runScript_62] at w
      refine lv_iload_n C.1.1 C.1.2.1 dX12_runScript_62 rfl (lv_at hl 1 rfl) ?_
      refine ql_aload_n (r := (some a0)) C dX12_runScript_63 rfl (lv_at hl 0 rfl) ?_
      refine ql_getI C S qf_13_18 gw_1686 dX12_runScript_64 w (fun x7 w => ?_)
      refine lv_icmp_ge (tgt := 98) C.1.1 C.1.2.1 dX12_runScript_67 (by decide) (fun c9 => ?_) (fun c9 => ?_)
      · replace w := ql_if w c9
        exact hB98 xl2 xl3 _ _ _ _ S (lv_sub hl [0, 1, 2] rfl) w
      · replace w := ql_ifn w c9
        refine ql_aload_n (r := (some a0)) C dX12_runScript_70 rfl (lv_at hl 0 rfl) ?_
        refine ql_getI C S qf_13_7 gw_1675 dX12_runScript_71 w (fun x8 w => ?_)
        refine lv_if_ne (tgt := 98) C.1.1 C.1.2.1 dX12_runScript_74 (by decide) (fun c9 => ?_) (fun c9 => ?_)
        · replace w := ql_ifn w c9
          exact hB98 xl2 xl3 _ _ _ _ S (lv_sub hl [0, 1, 2] rfl) w
        · replace w := ql_if w c9
          refine ql_aload_n (r := (some a0)) C dX12_runScript_77 rfl (lv_at hl 0 rfl) ?_
          refine lv_iconst (v := (4 : Int32)) C.1.1 C.1.2.1 dX12_runScript_78 (by decide) ?_
          refine lv_iload_n C.1.1 C.1.2.1 dX12_runScript_79 rfl (lv_at hl 1 rfl) ?_
          refine lv_imul C.1.1 C.1.2.1 dX12_runScript_80 ?_
          refine ql_VI (As := [.int ((4 : Int32) * xl2)]) (rest := []) C S htab hlocks hl qy_X12_carries qi_X12_carries qs_X12_carries gw_2111 (ci := 13) rfl w (fun b w => qm_X12_carries l hl9 D _ b ((4 : Int32) * xl2) _ _ w) rfl ⟨Nat.le_of_ble_eq_true rfl, Nat.le_of_ble_eq_true rfl⟩ ⟨rfl, rfl⟩ (by exact Nat.le_of_ble_eq_true rfl) (fun b e9 => by cases e9; rfl) dX12_runScript_81 ⟨Nat.le_of_ble_eq_true rfl, Nat.le_of_ble_eq_true rfl⟩ ⟨Nat.le_of_ble_eq_true rfl, Nat.le_of_ble_eq_true rfl⟩ (fun x9 h H locs S w => ?_)
          refine W.cs (cells' := 0) (slots' := 0) rfl rfl ?_
          refine lv_istore_n (lv' := [(3, .int x9), (0, .ref a0), (2, .int xl2)]) C.1.1 C.1.2.1 dX12_runScript_84 rfl hl (by decide) rfl (fun ls hl => ?_)
          refine ql_aload_n (r := (some a0)) C dX12_runScript_85 rfl (lv_at hl 1 rfl) ?_
          refine ql_getI C S qf_13_7 gw_1675 dX12_runScript_86 w (fun x11 w => ?_)
          refine lv_if_ne (tgt := 62) C.1.1 C.1.2.1 dX12_runScript_89 (by decide) (fun c9 => ?_) (fun c9 => ?_)
          · replace w := ql_ifn w c9
            exact ih xl2 x9 _ _ _ _ S (lv_sub hl [1, 2, 0] rfl) w
          · replace w := ql_if w c9
            refine lv_iinc (v := (xl2 + (1 : Int32))) (lv' := [(2, .int (xl2 + (1 : Int32))), (3, .int x9), (0, .ref a0)]) C.1.1 C.1.2.1 dX12_runScript_92 hl (k := 2) rfl rfl (by decide) rfl (fun ls hl => ?_)
            refine lv_goto (tgt := 62) C.1.1 C.1.2.1 dX12_runScript_95 (by decide) ?_
            exact ih (xl2 + (1 : Int32)) x9 _ _ _ _ S (lv_sub hl [2, 0, 1] rfl) w
  have hB32 : ∀ (rs0 : Option Nat) (xs1 : Int32) (h : ql_H) (H : Heap) (locs : List Loc) (ls : Array Slot), ql_S D h0 s H locs h → lv_has ls 4 [(0, .ref a0)] → qw_X12_runScript_32 D.2 a0 Q rs0 xs1 h → W p l e ({ frames := 16, cells := 0, slots := 0, locals := 253 } : Room) s m ([.ref a0] : List Value).toArray below meth c H locs 0 0 (vx_MQ below (ql_Q D h0 (ql_rI Q)) (ql_X D h0 X) ([.ref a0] : List Value).toArray s 0 0 (ql_A h0)) (F0 m 32 ls [.int xs1, va_rf rs0]) := by
    intro rs0 xs1 h H locs ls S hl w
    unfold qw_X12_runScript_32 at w
    refine ql_VI (As := [.int xs1]) (rest := []) C S htab hlocks hl qy_X12_fails qi_X12_fails qs_X12_fails gw_1749 (ci := 13) rfl w (fun b w => qm_X12_fails l hl9 D _ b xs1 _ _ w) rfl ⟨Nat.le_of_ble_eq_true rfl, Nat.le_of_ble_eq_true rfl⟩ ⟨rfl, rfl⟩ (by exact Nat.le_of_ble_eq_true rfl) (fun b e9 => by cases e9; rfl) dX12_runScript_32 ⟨Nat.le_of_ble_eq_true rfl, Nat.le_of_ble_eq_true rfl⟩ ⟨Nat.le_of_ble_eq_true rfl, Nat.le_of_ble_eq_true rfl⟩ (fun x12 h H locs S w => ?_)
    refine W.cs (cells' := 0) (slots' := 0) rfl rfl ?_
    refine lv_if_eq (tgt := 40) C.1.1 C.1.2.1 dX12_runScript_35 (by decide) (fun c9 => ?_) (fun c9 => ?_)
    · replace w := ql_if w c9
      refine ql_aload_n (r := (some a0)) C dX12_runScript_40 rfl (lv_at hl 0 rfl) ?_
      refine ql_getR C S qf_13_0 gw_1668 dX12_runScript_41 w (fun r14 w => ?_)
      refine lv_iconst (v := (0 : Int32)) C.1.1 C.1.2.1 dX12_runScript_44 (by decide) ?_
      refine ql_aload_n (r := (some a0)) C dX12_runScript_45 rfl (lv_at hl 0 rfl) ?_
      refine ql_getR C S qf_13_3 gw_1671 dX12_runScript_46 w (fun r15 w => ?_)
      refine lv_iconst (v := (0 : Int32)) C.1.1 C.1.2.1 dX12_runScript_49 (by decide) ?_
      refine ql_SV (As := [va_rf r14, .int (0 : Int32), va_rf r15, .int (0 : Int32)]) (rest := []) C S htab hlocks hl qy_X12_copies qi_X12_copies gw_1757 (qm_X12_copies l hl9 D _ r14 (0 : Int32) r15 (0 : Int32) _ _ w) rfl ⟨Nat.le_of_ble_eq_true rfl, Nat.le_of_ble_eq_true rfl⟩ ⟨rfl, rfl⟩ (by exact Nat.le_of_ble_eq_true rfl) rfl dX12_runScript_50 ⟨Nat.le_of_ble_eq_true rfl, Nat.le_of_ble_eq_true rfl⟩ ⟨Nat.le_of_ble_eq_true rfl, Nat.le_of_ble_eq_true rfl⟩ (fun h H locs S w => ?_)
      refine W.cs (cells' := 0) (slots' := 0) rfl rfl ?_
      refine ql_aload_n (r := (some a0)) C dX12_runScript_53 rfl (lv_at hl 0 rfl) ?_
      refine lv_iconst (v := (1 : Int32)) C.1.1 C.1.2.1 dX12_runScript_54 (by decide) ?_
      refine ql_putV C S qf_13_6 gw_1674 (tyX12) tyX12_ok nmX12 rfl dX12_runScript_55 (v := .int (1 : Int32)) rfl rfl w (fun h H locs S w => ?_)
      refine lv_iconst (v := (0 : Int32)) C.1.1 C.1.2.1 dX12_runScript_58 (by decide) ?_
      refine lv_istore_n (lv' := [(2, .int (0 : Int32)), (0, .ref a0)]) C.1.1 C.1.2.1 dX12_runScript_59 rfl hl (by decide) rfl (fun ls hl => ?_)
      refine lv_iconst (v := (0 : Int32)) C.1.1 C.1.2.1 dX12_runScript_60 (by decide) ?_
      refine lv_istore_n (lv' := [(3, .int (0 : Int32)), (2, .int (0 : Int32)), (0, .ref a0)]) C.1.1 C.1.2.1 dX12_runScript_61 rfl hl (by decide) rfl (fun ls hl => ?_)
      exact hB62 ql_FU (0 : Int32) (0 : Int32) _ _ _ _ S (lv_sub hl [2, 1, 0] rfl) w
    · replace w := ql_ifn w c9
      refine lv_iconst (v := (0 : Int32)) C.1.1 C.1.2.1 dX12_runScript_38 (by decide) ?_
      exact ql_iret C S hr hlocks dX12_runScript_39 ⟨Nat.le_of_ble_eq_true rfl, Nat.le_of_ble_eq_true rfl⟩ w
  have hB17 : ∀ (xl1 : Int32) (h : ql_H) (H : Heap) (locs : List Loc) (ls : Array Slot), ql_S D h0 s H locs h → lv_has ls 4 [(0, .ref a0), (1, .int xl1)] → qw_X12_runScript_17 D.2 a0 Q xl1 h → W p l e ({ frames := 16, cells := 0, slots := 0, locals := 253 } : Room) s m ([.ref a0] : List Value).toArray below meth c H locs 0 0 (vx_MQ below (ql_Q D h0 (ql_rI Q)) (ql_X D h0 X) ([.ref a0] : List Value).toArray s 0 0 (ql_A h0)) (F0 m 17 ls []) := by
    intro xl1 h H locs ls S hl w
    unfold qw_X12_runScript_17 at w
    refine ql_aload_n (r := (some a0)) C dX12_runScript_17 rfl (lv_at hl 0 rfl) ?_
    refine lv_iconst (v := (0 : Int32)) C.1.1 C.1.2.1 dX12_runScript_18 (by decide) ?_
    refine ql_putV C S qf_13_9 gw_1677 (tyX12) tyX12_ok nmX12 rfl dX12_runScript_19 (v := .int (0 : Int32)) rfl rfl w (fun h H locs S w => ?_)
    refine ql_aload_n (r := (some a0)) C dX12_runScript_22 rfl (lv_at hl 0 rfl) ?_
    refine lv_iload_n C.1.1 C.1.2.1 dX12_runScript_23 rfl (lv_at hl 1 rfl) ?_
    refine lv_if_eq (tgt := 31) C.1.1 C.1.2.1 dX12_runScript_24 (by decide) (fun c9 => ?_) (fun c9 => ?_)
    · replace w := ql_if w c9
      refine lv_iconst (v := (1 : Int32)) C.1.1 C.1.2.1 dX12_runScript_31 (by decide) ?_
      exact hB32 (some a0) (1 : Int32) _ _ _ _ S (lv_sub hl [0] rfl) w
    · replace w := ql_ifn w c9
      refine lv_iconst (v := (0 : Int32)) C.1.1 C.1.2.1 dX12_runScript_27 (by decide) ?_
      refine lv_goto (tgt := 32) C.1.1 C.1.2.1 dX12_runScript_28 (by decide) ?_
      exact hB32 (some a0) (0 : Int32) _ _ _ _ S (lv_sub hl [0] rfl) w
  unfold qw_X12_runScript at w
  refine ql_aload_n (r := (some a0)) C dX12_runScript_0 rfl (lv_at hl 0 rfl) ?_
  refine ql_VI (As := []) (rest := []) C S htab hlocks hl qy_X12_isScript qi_X12_isScript qs_X12_isScript gw_2067 (ci := 13) rfl w (fun b w => qm_X12_isScript l hl9 D _ b _ _ w) rfl ⟨Nat.le_of_ble_eq_true rfl, Nat.le_of_ble_eq_true rfl⟩ ⟨rfl, rfl⟩ (by exact Nat.le_of_ble_eq_true rfl) (fun b e9 => by cases e9; rfl) dX12_runScript_1 ⟨Nat.le_of_ble_eq_true rfl, Nat.le_of_ble_eq_true rfl⟩ ⟨Nat.le_of_ble_eq_true rfl, Nat.le_of_ble_eq_true rfl⟩ (fun x16 h H locs S w => ?_)
  refine W.cs (cells' := 0) (slots' := 0) rfl rfl ?_
  refine lv_istore_n (lv' := [(1, .int x16), (0, .ref a0)]) C.1.1 C.1.2.1 dX12_runScript_4 rfl hl (by decide) rfl (fun ls hl => ?_)
  refine lv_iload_n C.1.1 C.1.2.1 dX12_runScript_5 rfl (lv_at hl 0 rfl) ?_
  refine lv_if_ne (tgt := 17) C.1.1 C.1.2.1 dX12_runScript_6 (by decide) (fun c9 => ?_) (fun c9 => ?_)
  · replace w := ql_ifn w c9
    exact hB17 x16 _ _ _ _ S (lv_sub hl [1, 0] rfl) w
  · replace w := ql_if w c9
    refine ql_aload_n (r := (some a0)) C dX12_runScript_9 rfl (lv_at hl 1 rfl) ?_
    refine ql_aload_n (r := (some a0)) C dX12_runScript_10 rfl (lv_at hl 1 rfl) ?_
    refine ql_getI C S qf_13_16 gw_1684 dX12_runScript_11 w (fun x18 w => ?_)
    refine ql_putV C S qf_13_10 gw_1678 (tyX12) tyX12_ok nmX12 rfl dX12_runScript_14 (v := .int x18) rfl rfl w (fun h H locs S w => ?_)
    exact hB17 x16 _ _ _ _ S (lv_sub hl [1, 0] rfl) w
def qw_X12_errorPosition_13 (a0 : Nat) (Q : Int32 → ql_H → Prop) (rs0 : Option Nat) (xs1 : Int32) (h : ql_H) : Prop :=
ql_rv h rs0 13 fun b1 => qw_X12_fails b1 xs1 h (fun x1 h =>
if x1 = 0 then (ql_gI h (some a0) 13 10 fun x3 =>
Q x3 h) else (Q (0 : Int32) h))
def qw_X12_errorPosition (a0 : Nat) (h : ql_H) (Q : Int32 → ql_H → Prop) : Prop :=
ql_gI h (some a0) 13 10 fun x4 =>
if 0 ≤ x4 then (qw_X12_errorPosition_13 a0 Q (some a0) (0 : Int32) h) else (qw_X12_errorPosition_13 a0 Q (some a0) (1 : Int32) h)
set_option maxHeartbeats 4000000 in
set_option maxRecDepth 100000 in
theorem qm_X12_errorPosition (l : Launch) (hl9 : l.stackTraces = false) (D : ql_D) (h0 : ql_H) (a0 : Nat) (Q : Int32 → ql_H → Prop) (X : String → ql_H → Prop) (w : qw_X12_errorPosition a0 h0 Q) : ql_M D l yX12_errorPosition cX12_errorPosition 1 (some .int) ({ frames := 4, cells := 0, slots := 0, locals := 77 } : Room) h0 [.ref a0] (ql_rI Q) X 0 0 := by
  refine ql_ofW (by decide) (Nat.le_of_ble_eq_true rfl) ?_
  intro p e s m below meth c ls C hr hlocks hnm htab S hl
  have hl : lv_has ls 1 [(0, .ref a0)] := hl
  have hB13 : ∀ (rs0 : Option Nat) (xs1 : Int32) (h : ql_H) (H : Heap) (locs : List Loc) (ls : Array Slot), ql_S D h0 s H locs h → lv_has ls 1 [(0, .ref a0)] → qw_X12_errorPosition_13 a0 Q rs0 xs1 h → W p l e ({ frames := 4, cells := 0, slots := 0, locals := 77 } : Room) s m ([.ref a0] : List Value).toArray below meth c H locs 0 0 (vx_MQ below (ql_Q D h0 (ql_rI Q)) (ql_X D h0 X) ([.ref a0] : List Value).toArray s 0 0 (ql_A h0)) (F0 m 13 ls [.int xs1, va_rf rs0]) := by
    intro rs0 xs1 h H locs ls S hl w
    unfold qw_X12_errorPosition_13 at w
    refine ql_VI (As := [.int xs1]) (rest := []) C S htab hlocks hl qy_X12_fails qi_X12_fails qs_X12_fails gw_1749 (ci := 13) rfl w (fun b w => qm_X12_fails l hl9 D _ b xs1 _ _ w) rfl ⟨Nat.le_of_ble_eq_true rfl, Nat.le_of_ble_eq_true rfl⟩ ⟨rfl, rfl⟩ (by exact Nat.le_of_ble_eq_true rfl) (fun b e9 => by cases e9; rfl) dX12_errorPosition_13 ⟨Nat.le_of_ble_eq_true rfl, Nat.le_of_ble_eq_true rfl⟩ ⟨Nat.le_of_ble_eq_true rfl, Nat.le_of_ble_eq_true rfl⟩ (fun x1 h H locs S w => ?_)
    refine W.cs (cells' := 0) (slots' := 0) rfl rfl ?_
    refine lv_if_eq (tgt := 23) C.1.1 C.1.2.1 dX12_errorPosition_16 (by decide) (fun c9 => ?_) (fun c9 => ?_)
    · replace w := ql_if w c9
      refine ql_aload_n (r := (some a0)) C dX12_errorPosition_23 rfl (lv_at hl 0 rfl) ?_
      refine ql_getI C S qf_13_10 gw_1678 dX12_errorPosition_24 w (fun x3 w => ?_)
      exact ql_iret C S hr hlocks dX12_errorPosition_27 ⟨Nat.le_of_ble_eq_true rfl, Nat.le_of_ble_eq_true rfl⟩ w
    · replace w := ql_ifn w c9
      refine lv_iconst (v := (0 : Int32)) C.1.1 C.1.2.1 dX12_errorPosition_19 (by decide) ?_
      refine lv_goto (tgt := 27) C.1.1 C.1.2.1 dX12_errorPosition_20 (by decide) ?_
      exact ql_iret C S hr hlocks dX12_errorPosition_27 ⟨Nat.le_of_ble_eq_true rfl, Nat.le_of_ble_eq_true rfl⟩ w
  unfold qw_X12_errorPosition at w
  refine ql_aload_n (r := (some a0)) C dX12_errorPosition_0 rfl (lv_at hl 0 rfl) ?_
  refine ql_aload_n (r := (some a0)) C dX12_errorPosition_1 rfl (lv_at hl 0 rfl) ?_
  refine ql_getI C S qf_13_10 gw_1678 dX12_errorPosition_2 w (fun x4 w => ?_)
  refine lv_if_ge (tgt := 12) C.1.1 C.1.2.1 dX12_errorPosition_5 (by decide) (fun c9 => ?_) (fun c9 => ?_)
  · replace w := ql_if w c9
    refine lv_iconst (v := (0 : Int32)) C.1.1 C.1.2.1 dX12_errorPosition_12 (by decide) ?_
    exact hB13 (some a0) (0 : Int32) _ _ _ _ S (lv_sub hl [0] rfl) w
  · replace w := ql_ifn w c9
    refine lv_iconst (v := (1 : Int32)) C.1.1 C.1.2.1 dX12_errorPosition_8 (by decide) ?_
    refine lv_goto (tgt := 13) C.1.1 C.1.2.1 dX12_errorPosition_9 (by decide) ?_
    exact hB13 (some a0) (1 : Int32) _ _ _ _ S (lv_sub hl [0] rfl) w
def qw_X12_failedCommand_13 (a0 : Nat) (Q : Int32 → ql_H → Prop) (rs0 : Option Nat) (xs1 : Int32) (h : ql_H) : Prop :=
ql_rv h rs0 13 fun b1 => qw_X12_fails b1 xs1 h (fun x1 h =>
if x1 = 0 then (ql_gI h (some a0) 13 11 fun x3 =>
Q x3 h) else (Q (0 : Int32) h))
def qw_X12_failedCommand (a0 : Nat) (h : ql_H) (Q : Int32 → ql_H → Prop) : Prop :=
ql_gI h (some a0) 13 11 fun x4 =>
if 0 ≤ x4 then (qw_X12_failedCommand_13 a0 Q (some a0) (0 : Int32) h) else (qw_X12_failedCommand_13 a0 Q (some a0) (1 : Int32) h)
set_option maxHeartbeats 4000000 in
set_option maxRecDepth 100000 in
theorem qm_X12_failedCommand (l : Launch) (hl9 : l.stackTraces = false) (D : ql_D) (h0 : ql_H) (a0 : Nat) (Q : Int32 → ql_H → Prop) (X : String → ql_H → Prop) (w : qw_X12_failedCommand a0 h0 Q) : ql_M D l yX12_failedCommand cX12_failedCommand 1 (some .int) ({ frames := 4, cells := 0, slots := 0, locals := 77 } : Room) h0 [.ref a0] (ql_rI Q) X 0 0 := by
  refine ql_ofW (by decide) (Nat.le_of_ble_eq_true rfl) ?_
  intro p e s m below meth c ls C hr hlocks hnm htab S hl
  have hl : lv_has ls 1 [(0, .ref a0)] := hl
  have hB13 : ∀ (rs0 : Option Nat) (xs1 : Int32) (h : ql_H) (H : Heap) (locs : List Loc) (ls : Array Slot), ql_S D h0 s H locs h → lv_has ls 1 [(0, .ref a0)] → qw_X12_failedCommand_13 a0 Q rs0 xs1 h → W p l e ({ frames := 4, cells := 0, slots := 0, locals := 77 } : Room) s m ([.ref a0] : List Value).toArray below meth c H locs 0 0 (vx_MQ below (ql_Q D h0 (ql_rI Q)) (ql_X D h0 X) ([.ref a0] : List Value).toArray s 0 0 (ql_A h0)) (F0 m 13 ls [.int xs1, va_rf rs0]) := by
    intro rs0 xs1 h H locs ls S hl w
    unfold qw_X12_failedCommand_13 at w
    refine ql_VI (As := [.int xs1]) (rest := []) C S htab hlocks hl qy_X12_fails qi_X12_fails qs_X12_fails gw_1749 (ci := 13) rfl w (fun b w => qm_X12_fails l hl9 D _ b xs1 _ _ w) rfl ⟨Nat.le_of_ble_eq_true rfl, Nat.le_of_ble_eq_true rfl⟩ ⟨rfl, rfl⟩ (by exact Nat.le_of_ble_eq_true rfl) (fun b e9 => by cases e9; rfl) dX12_failedCommand_13 ⟨Nat.le_of_ble_eq_true rfl, Nat.le_of_ble_eq_true rfl⟩ ⟨Nat.le_of_ble_eq_true rfl, Nat.le_of_ble_eq_true rfl⟩ (fun x1 h H locs S w => ?_)
    refine W.cs (cells' := 0) (slots' := 0) rfl rfl ?_
    refine lv_if_eq (tgt := 23) C.1.1 C.1.2.1 dX12_failedCommand_16 (by decide) (fun c9 => ?_) (fun c9 => ?_)
    · replace w := ql_if w c9
      refine ql_aload_n (r := (some a0)) C dX12_failedCommand_23 rfl (lv_at hl 0 rfl) ?_
      refine ql_getI C S qf_13_11 gw_1679 dX12_failedCommand_24 w (fun x3 w => ?_)
      exact ql_iret C S hr hlocks dX12_failedCommand_27 ⟨Nat.le_of_ble_eq_true rfl, Nat.le_of_ble_eq_true rfl⟩ w
    · replace w := ql_ifn w c9
      refine lv_iconst (v := (0 : Int32)) C.1.1 C.1.2.1 dX12_failedCommand_19 (by decide) ?_
      refine lv_goto (tgt := 27) C.1.1 C.1.2.1 dX12_failedCommand_20 (by decide) ?_
      exact ql_iret C S hr hlocks dX12_failedCommand_27 ⟨Nat.le_of_ble_eq_true rfl, Nat.le_of_ble_eq_true rfl⟩ w
  unfold qw_X12_failedCommand at w
  refine ql_aload_n (r := (some a0)) C dX12_failedCommand_0 rfl (lv_at hl 0 rfl) ?_
  refine ql_aload_n (r := (some a0)) C dX12_failedCommand_1 rfl (lv_at hl 0 rfl) ?_
  refine ql_getI C S qf_13_11 gw_1679 dX12_failedCommand_2 w (fun x4 w => ?_)
  refine lv_if_ge (tgt := 12) C.1.1 C.1.2.1 dX12_failedCommand_5 (by decide) (fun c9 => ?_) (fun c9 => ?_)
  · replace w := ql_if w c9
    refine lv_iconst (v := (0 : Int32)) C.1.1 C.1.2.1 dX12_failedCommand_12 (by decide) ?_
    exact hB13 (some a0) (0 : Int32) _ _ _ _ S (lv_sub hl [0] rfl) w
  · replace w := ql_ifn w c9
    refine lv_iconst (v := (1 : Int32)) C.1.1 C.1.2.1 dX12_failedCommand_8 (by decide) ?_
    refine lv_goto (tgt := 13) C.1.1 C.1.2.1 dX12_failedCommand_9 (by decide) ?_
    exact hB13 (some a0) (1 : Int32) _ _ _ _ S (lv_sub hl [0] rfl) w
def qw_X12_undo_13 (a0 : Nat) (Q : Int32 → ql_H → Prop) (rs0 : Option Nat) (xs1 : Int32) (h : ql_H) : Prop :=
ql_rv h rs0 13 fun b1 => qw_X12_fails b1 xs1 h (fun x1 h =>
if x1 = 0 then (ql_gI h (some a0) 13 5 fun x3 =>
ql_pV h (some a0) 13 5 (.int (x3 - (1 : Int32))) fun h =>
ql_gR h (some a0) 13 1 fun r4 =>
ql_gI h (some a0) 13 5 fun x5 =>
ql_gR h (some a0) 13 0 fun r6 =>
qw_X12_copies r4 ((685 : Int32) * x5) r6 (0 : Int32) h (fun h =>
ql_gI h (some a0) 13 5 fun x7 =>
Q x7 h)) else (Q (0 : Int32) h))
def qw_X12_undo (a0 : Nat) (h : ql_H) (Q : Int32 → ql_H → Prop) : Prop :=
ql_gI h (some a0) 13 5 fun x8 =>
if x8 = 0 then (qw_X12_undo_13 a0 Q (some a0) (1 : Int32) h) else (qw_X12_undo_13 a0 Q (some a0) (0 : Int32) h)
set_option maxHeartbeats 4000000 in
set_option maxRecDepth 100000 in
theorem qm_X12_undo (l : Launch) (hl9 : l.stackTraces = false) (D : ql_D) (h0 : ql_H) (a0 : Nat) (Q : Int32 → ql_H → Prop) (X : String → ql_H → Prop) (w : qw_X12_undo a0 h0 Q) : ql_M D l yX12_undo cX12_undo 1 (some .int) ({ frames := 4, cells := 0, slots := 0, locals := 80 } : Room) h0 [.ref a0] (ql_rI Q) X 0 0 := by
  refine ql_ofW (by decide) (Nat.le_of_ble_eq_true rfl) ?_
  intro p e s m below meth c ls C hr hlocks hnm htab S hl
  have hl : lv_has ls 1 [(0, .ref a0)] := hl
  have hB13 : ∀ (rs0 : Option Nat) (xs1 : Int32) (h : ql_H) (H : Heap) (locs : List Loc) (ls : Array Slot), ql_S D h0 s H locs h → lv_has ls 1 [(0, .ref a0)] → qw_X12_undo_13 a0 Q rs0 xs1 h → W p l e ({ frames := 4, cells := 0, slots := 0, locals := 80 } : Room) s m ([.ref a0] : List Value).toArray below meth c H locs 0 0 (vx_MQ below (ql_Q D h0 (ql_rI Q)) (ql_X D h0 X) ([.ref a0] : List Value).toArray s 0 0 (ql_A h0)) (F0 m 13 ls [.int xs1, va_rf rs0]) := by
    intro rs0 xs1 h H locs ls S hl w
    unfold qw_X12_undo_13 at w
    refine ql_VI (As := [.int xs1]) (rest := []) C S htab hlocks hl qy_X12_fails qi_X12_fails qs_X12_fails gw_1749 (ci := 13) rfl w (fun b w => qm_X12_fails l hl9 D _ b xs1 _ _ w) rfl ⟨Nat.le_of_ble_eq_true rfl, Nat.le_of_ble_eq_true rfl⟩ ⟨rfl, rfl⟩ (by exact Nat.le_of_ble_eq_true rfl) (fun b e9 => by cases e9; rfl) dX12_undo_13 ⟨Nat.le_of_ble_eq_true rfl, Nat.le_of_ble_eq_true rfl⟩ ⟨Nat.le_of_ble_eq_true rfl, Nat.le_of_ble_eq_true rfl⟩ (fun x1 h H locs S w => ?_)
    refine W.cs (cells' := 0) (slots' := 0) rfl rfl ?_
    refine lv_if_eq (tgt := 21) C.1.1 C.1.2.1 dX12_undo_16 (by decide) (fun c9 => ?_) (fun c9 => ?_)
    · replace w := ql_if w c9
      refine ql_aload_n (r := (some a0)) C dX12_undo_21 rfl (lv_at hl 0 rfl) ?_
      refine lv_dup C.1.1 C.1.2.1 dX12_undo_22 (ql_catR _) ?_
      refine ql_getI C S qf_13_5 gw_1673 dX12_undo_23 w (fun x3 w => ?_)
      refine lv_iconst (v := (1 : Int32)) C.1.1 C.1.2.1 dX12_undo_26 (by decide) ?_
      refine lv_isub C.1.1 C.1.2.1 dX12_undo_27 ?_
      refine ql_putV C S qf_13_5 gw_1673 (tyX12) tyX12_ok nmX12 rfl dX12_undo_28 (v := .int (x3 - (1 : Int32))) rfl rfl w (fun h H locs S w => ?_)
      refine ql_aload_n (r := (some a0)) C dX12_undo_31 rfl (lv_at hl 0 rfl) ?_
      refine ql_getR C S qf_13_1 gw_1669 dX12_undo_32 w (fun r4 w => ?_)
      refine lv_sipush (v := (685 : Int32)) C.1.1 C.1.2.1 dX12_undo_35 (by decide) ?_
      refine ql_aload_n (r := (some a0)) C dX12_undo_38 rfl (lv_at hl 0 rfl) ?_
      refine ql_getI C S qf_13_5 gw_1673 dX12_undo_39 w (fun x5 w => ?_)
      refine lv_imul C.1.1 C.1.2.1 dX12_undo_42 ?_
      refine ql_aload_n (r := (some a0)) C dX12_undo_43 rfl (lv_at hl 0 rfl) ?_
      refine ql_getR C S qf_13_0 gw_1668 dX12_undo_44 w (fun r6 w => ?_)
      refine lv_iconst (v := (0 : Int32)) C.1.1 C.1.2.1 dX12_undo_47 (by decide) ?_
      refine ql_SV (As := [va_rf r4, .int ((685 : Int32) * x5), va_rf r6, .int (0 : Int32)]) (rest := []) C S htab hlocks hl qy_X12_copies qi_X12_copies gw_1757 (qm_X12_copies l hl9 D _ r4 ((685 : Int32) * x5) r6 (0 : Int32) _ _ w) rfl ⟨Nat.le_of_ble_eq_true rfl, Nat.le_of_ble_eq_true rfl⟩ ⟨rfl, rfl⟩ (by exact Nat.le_of_ble_eq_true rfl) rfl dX12_undo_48 ⟨Nat.le_of_ble_eq_true rfl, Nat.le_of_ble_eq_true rfl⟩ ⟨Nat.le_of_ble_eq_true rfl, Nat.le_of_ble_eq_true rfl⟩ (fun h H locs S w => ?_)
      refine W.cs (cells' := 0) (slots' := 0) rfl rfl ?_
      refine ql_aload_n (r := (some a0)) C dX12_undo_51 rfl (lv_at hl 0 rfl) ?_
      refine ql_getI C S qf_13_5 gw_1673 dX12_undo_52 w (fun x7 w => ?_)
      exact ql_iret C S hr hlocks dX12_undo_55 ⟨Nat.le_of_ble_eq_true rfl, Nat.le_of_ble_eq_true rfl⟩ w
    · replace w := ql_ifn w c9
      refine lv_iconst (v := (0 : Int32)) C.1.1 C.1.2.1 dX12_undo_19 (by decide) ?_
      exact ql_iret C S hr hlocks dX12_undo_20 ⟨Nat.le_of_ble_eq_true rfl, Nat.le_of_ble_eq_true rfl⟩ w
  unfold qw_X12_undo at w
  refine ql_aload_n (r := (some a0)) C dX12_undo_0 rfl (lv_at hl 0 rfl) ?_
  refine ql_aload_n (r := (some a0)) C dX12_undo_1 rfl (lv_at hl 0 rfl) ?_
  refine ql_getI C S qf_13_5 gw_1673 dX12_undo_2 w (fun x8 w => ?_)
  refine lv_if_ne (tgt := 12) C.1.1 C.1.2.1 dX12_undo_5 (by decide) (fun c9 => ?_) (fun c9 => ?_)
  · replace w := ql_ifn w c9
    refine lv_iconst (v := (0 : Int32)) C.1.1 C.1.2.1 dX12_undo_12 (by decide) ?_
    exact hB13 (some a0) (0 : Int32) _ _ _ _ S (lv_sub hl [0] rfl) w
  · replace w := ql_if w c9
    refine lv_iconst (v := (1 : Int32)) C.1.1 C.1.2.1 dX12_undo_8 (by decide) ?_
    refine lv_goto (tgt := 13) C.1.1 C.1.2.1 dX12_undo_9 (by decide) ?_
    exact hB13 (some a0) (1 : Int32) _ _ _ _ S (lv_sub hl [0] rfl) w
def qw_X12_save (a0 : Nat) (h : ql_H) (Q : Int32 → ql_H → Prop) : Prop :=
ql_pV h (some a0) 13 7 (.int (0 : Int32)) fun h =>
ql_pV h (some a0) 13 4 (.int (1 : Int32)) fun h =>
ql_gR h (some a0) 13 0 fun r1 =>
ql_gR h (some a0) 13 2 fun r2 =>
qw_X12_copies r1 (0 : Int32) r2 (0 : Int32) h (fun h =>
ql_gR h (some a0) 13 0 fun r3 =>
ql_lI h r3 0 (0 : Int32) fun x4 =>
Q x4 h)
set_option maxHeartbeats 4000000 in
set_option maxRecDepth 100000 in
theorem qm_X12_save (l : Launch) (hl9 : l.stackTraces = false) (D : ql_D) (h0 : ql_H) (a0 : Nat) (Q : Int32 → ql_H → Prop) (X : String → ql_H → Prop) (w : qw_X12_save a0 h0 Q) : ql_M D l yX12_save cX12_save 1 (some .int) ({ frames := 4, cells := 0, slots := 0, locals := 80 } : Room) h0 [.ref a0] (ql_rI Q) X 0 0 := by
  refine ql_ofW (by decide) (Nat.le_of_ble_eq_true rfl) ?_
  intro p e s m below meth c ls C hr hlocks hnm htab S hl
  have hl : lv_has ls 1 [(0, .ref a0)] := hl
  unfold qw_X12_save at w
  refine ql_aload_n (r := (some a0)) C dX12_save_0 rfl (lv_at hl 0 rfl) ?_
  refine lv_iconst (v := (0 : Int32)) C.1.1 C.1.2.1 dX12_save_1 (by decide) ?_
  refine ql_putV C S qf_13_7 gw_1675 (tyX12) tyX12_ok nmX12 rfl dX12_save_2 (v := .int (0 : Int32)) rfl rfl w (fun h H locs S w => ?_)
  refine ql_aload_n (r := (some a0)) C dX12_save_5 rfl (lv_at hl 0 rfl) ?_
  refine lv_iconst (v := (1 : Int32)) C.1.1 C.1.2.1 dX12_save_6 (by decide) ?_
  refine ql_putV C S qf_13_4 gw_1672 (tyX12) tyX12_ok nmX12 rfl dX12_save_7 (v := .int (1 : Int32)) rfl rfl w (fun h H locs S w => ?_)
  refine ql_aload_n (r := (some a0)) C dX12_save_10 rfl (lv_at hl 0 rfl) ?_
  refine ql_getR C S qf_13_0 gw_1668 dX12_save_11 w (fun r1 w => ?_)
  refine lv_iconst (v := (0 : Int32)) C.1.1 C.1.2.1 dX12_save_14 (by decide) ?_
  refine ql_aload_n (r := (some a0)) C dX12_save_15 rfl (lv_at hl 0 rfl) ?_
  refine ql_getR C S qf_13_2 gw_1670 dX12_save_16 w (fun r2 w => ?_)
  refine lv_iconst (v := (0 : Int32)) C.1.1 C.1.2.1 dX12_save_19 (by decide) ?_
  refine ql_SV (As := [va_rf r1, .int (0 : Int32), va_rf r2, .int (0 : Int32)]) (rest := []) C S htab hlocks hl qy_X12_copies qi_X12_copies gw_1757 (qm_X12_copies l hl9 D _ r1 (0 : Int32) r2 (0 : Int32) _ _ w) rfl ⟨Nat.le_of_ble_eq_true rfl, Nat.le_of_ble_eq_true rfl⟩ ⟨rfl, rfl⟩ (by exact Nat.le_of_ble_eq_true rfl) rfl dX12_save_20 ⟨Nat.le_of_ble_eq_true rfl, Nat.le_of_ble_eq_true rfl⟩ ⟨Nat.le_of_ble_eq_true rfl, Nat.le_of_ble_eq_true rfl⟩ (fun h H locs S w => ?_)
  refine W.cs (cells' := 0) (slots' := 0) rfl rfl ?_
  refine ql_aload_n (r := (some a0)) C dX12_save_23 rfl (lv_at hl 0 rfl) ?_
  refine ql_getR C S qf_13_0 gw_1668 dX12_save_24 w (fun r3 w => ?_)
  refine lv_iconst (v := (0 : Int32)) C.1.1 C.1.2.1 dX12_save_27 (by decide) ?_
  refine ql_iald C S dX12_save_28 w (fun x4 w => ?_)
  exact ql_iret C S hr hlocks dX12_save_29 ⟨Nat.le_of_ble_eq_true rfl, Nat.le_of_ble_eq_true rfl⟩ w
def qw_X12_restore_13 (a0 : Nat) (Q : Int32 → ql_H → Prop) (rs0 : Option Nat) (xs1 : Int32) (h : ql_H) : Prop :=
ql_rv h rs0 13 fun b1 => qw_X12_fails b1 xs1 h (fun x1 h =>
if x1 = 0 then (ql_gR h (some a0) 13 2 fun r3 =>
ql_gR h (some a0) 13 0 fun r4 =>
qw_X12_copies r3 (0 : Int32) r4 (0 : Int32) h (fun h =>
ql_pV h (some a0) 13 5 (.int (0 : Int32)) fun h =>
ql_gR h (some a0) 13 0 fun r5 =>
ql_lI h r5 0 (0 : Int32) fun x6 =>
Q x6 h)) else (Q (0 : Int32) h))
def qw_X12_restore (a0 : Nat) (h : ql_H) (Q : Int32 → ql_H → Prop) : Prop :=
ql_gI h (some a0) 13 4 fun x7 =>
if x7 = 0 then (qw_X12_restore_13 a0 Q (some a0) (1 : Int32) h) else (qw_X12_restore_13 a0 Q (some a0) (0 : Int32) h)
set_option maxHeartbeats 4000000 in
set_option maxRecDepth 100000 in
theorem qm_X12_restore (l : Launch) (hl9 : l.stackTraces = false) (D : ql_D) (h0 : ql_H) (a0 : Nat) (Q : Int32 → ql_H → Prop) (X : String → ql_H → Prop) (w : qw_X12_restore a0 h0 Q) : ql_M D l yX12_restore cX12_restore 1 (some .int) ({ frames := 4, cells := 0, slots := 0, locals := 80 } : Room) h0 [.ref a0] (ql_rI Q) X 0 0 := by
  refine ql_ofW (by decide) (Nat.le_of_ble_eq_true rfl) ?_
  intro p e s m below meth c ls C hr hlocks hnm htab S hl
  have hl : lv_has ls 1 [(0, .ref a0)] := hl
  have hB13 : ∀ (rs0 : Option Nat) (xs1 : Int32) (h : ql_H) (H : Heap) (locs : List Loc) (ls : Array Slot), ql_S D h0 s H locs h → lv_has ls 1 [(0, .ref a0)] → qw_X12_restore_13 a0 Q rs0 xs1 h → W p l e ({ frames := 4, cells := 0, slots := 0, locals := 80 } : Room) s m ([.ref a0] : List Value).toArray below meth c H locs 0 0 (vx_MQ below (ql_Q D h0 (ql_rI Q)) (ql_X D h0 X) ([.ref a0] : List Value).toArray s 0 0 (ql_A h0)) (F0 m 13 ls [.int xs1, va_rf rs0]) := by
    intro rs0 xs1 h H locs ls S hl w
    unfold qw_X12_restore_13 at w
    refine ql_VI (As := [.int xs1]) (rest := []) C S htab hlocks hl qy_X12_fails qi_X12_fails qs_X12_fails gw_1749 (ci := 13) rfl w (fun b w => qm_X12_fails l hl9 D _ b xs1 _ _ w) rfl ⟨Nat.le_of_ble_eq_true rfl, Nat.le_of_ble_eq_true rfl⟩ ⟨rfl, rfl⟩ (by exact Nat.le_of_ble_eq_true rfl) (fun b e9 => by cases e9; rfl) dX12_restore_13 ⟨Nat.le_of_ble_eq_true rfl, Nat.le_of_ble_eq_true rfl⟩ ⟨Nat.le_of_ble_eq_true rfl, Nat.le_of_ble_eq_true rfl⟩ (fun x1 h H locs S w => ?_)
    refine W.cs (cells' := 0) (slots' := 0) rfl rfl ?_
    refine lv_if_eq (tgt := 21) C.1.1 C.1.2.1 dX12_restore_16 (by decide) (fun c9 => ?_) (fun c9 => ?_)
    · replace w := ql_if w c9
      refine ql_aload_n (r := (some a0)) C dX12_restore_21 rfl (lv_at hl 0 rfl) ?_
      refine ql_getR C S qf_13_2 gw_1670 dX12_restore_22 w (fun r3 w => ?_)
      refine lv_iconst (v := (0 : Int32)) C.1.1 C.1.2.1 dX12_restore_25 (by decide) ?_
      refine ql_aload_n (r := (some a0)) C dX12_restore_26 rfl (lv_at hl 0 rfl) ?_
      refine ql_getR C S qf_13_0 gw_1668 dX12_restore_27 w (fun r4 w => ?_)
      refine lv_iconst (v := (0 : Int32)) C.1.1 C.1.2.1 dX12_restore_30 (by decide) ?_
      refine ql_SV (As := [va_rf r3, .int (0 : Int32), va_rf r4, .int (0 : Int32)]) (rest := []) C S htab hlocks hl qy_X12_copies qi_X12_copies gw_1757 (qm_X12_copies l hl9 D _ r3 (0 : Int32) r4 (0 : Int32) _ _ w) rfl ⟨Nat.le_of_ble_eq_true rfl, Nat.le_of_ble_eq_true rfl⟩ ⟨rfl, rfl⟩ (by exact Nat.le_of_ble_eq_true rfl) rfl dX12_restore_31 ⟨Nat.le_of_ble_eq_true rfl, Nat.le_of_ble_eq_true rfl⟩ ⟨Nat.le_of_ble_eq_true rfl, Nat.le_of_ble_eq_true rfl⟩ (fun h H locs S w => ?_)
      refine W.cs (cells' := 0) (slots' := 0) rfl rfl ?_
      refine ql_aload_n (r := (some a0)) C dX12_restore_34 rfl (lv_at hl 0 rfl) ?_
      refine lv_iconst (v := (0 : Int32)) C.1.1 C.1.2.1 dX12_restore_35 (by decide) ?_
      refine ql_putV C S qf_13_5 gw_1673 (tyX12) tyX12_ok nmX12 rfl dX12_restore_36 (v := .int (0 : Int32)) rfl rfl w (fun h H locs S w => ?_)
      refine ql_aload_n (r := (some a0)) C dX12_restore_39 rfl (lv_at hl 0 rfl) ?_
      refine ql_getR C S qf_13_0 gw_1668 dX12_restore_40 w (fun r5 w => ?_)
      refine lv_iconst (v := (0 : Int32)) C.1.1 C.1.2.1 dX12_restore_43 (by decide) ?_
      refine ql_iald C S dX12_restore_44 w (fun x6 w => ?_)
      exact ql_iret C S hr hlocks dX12_restore_45 ⟨Nat.le_of_ble_eq_true rfl, Nat.le_of_ble_eq_true rfl⟩ w
    · replace w := ql_ifn w c9
      refine lv_iconst (v := (0 : Int32)) C.1.1 C.1.2.1 dX12_restore_19 (by decide) ?_
      exact ql_iret C S hr hlocks dX12_restore_20 ⟨Nat.le_of_ble_eq_true rfl, Nat.le_of_ble_eq_true rfl⟩ w
  unfold qw_X12_restore at w
  refine ql_aload_n (r := (some a0)) C dX12_restore_0 rfl (lv_at hl 0 rfl) ?_
  refine ql_aload_n (r := (some a0)) C dX12_restore_1 rfl (lv_at hl 0 rfl) ?_
  refine ql_getI C S qf_13_4 gw_1672 dX12_restore_2 w (fun x7 w => ?_)
  refine lv_if_eq (tgt := 12) C.1.1 C.1.2.1 dX12_restore_5 (by decide) (fun c9 => ?_) (fun c9 => ?_)
  · replace w := ql_if w c9
    refine lv_iconst (v := (1 : Int32)) C.1.1 C.1.2.1 dX12_restore_12 (by decide) ?_
    exact hB13 (some a0) (1 : Int32) _ _ _ _ S (lv_sub hl [0] rfl) w
  · replace w := ql_ifn w c9
    refine lv_iconst (v := (0 : Int32)) C.1.1 C.1.2.1 dX12_restore_8 (by decide) ?_
    refine lv_goto (tgt := 13) C.1.1 C.1.2.1 dX12_restore_9 (by decide) ?_
    exact hB13 (some a0) (0 : Int32) _ _ _ _ S (lv_sub hl [0] rfl) w
def qw_L_addClause (rp0 : Option Nat) (xp1 : Int32) (xp2 : Int32) (rp3 : Option Nat) (h : ql_H) (Q : Int32 → ql_H → Prop) : Prop :=
ql_rv h rp0 12 fun b1 => qw_X11_addClause b1 xp1 xp2 h (fun x1 h =>
ql_sJ h rp3 (0 : Int32) x1.toInt64 fun h =>
Q (0 : Int32) h) (fun E h => if E = "java/lang/IllegalArgumentException" then (Q (1 : Int32) h) else if E = "java/lang/IllegalStateException" then (Q (2 : Int32) h) else if E = "java/lang/UnsupportedOperationException" then (Q (3 : Int32) h) else False)
set_option maxHeartbeats 4000000 in
set_option maxRecDepth 100000 in
theorem qm_L_addClause (l : Launch) (hl9 : l.stackTraces = false) (D : ql_D) (h0 : ql_H) (rp0 : Option Nat) (xp1 : Int32) (xp2 : Int32) (rp3 : Option Nat) (Q : Int32 → ql_H → Prop) (X : String → ql_H → Prop) (w : qw_L_addClause rp0 xp1 xp2 rp3 h0 Q) : ql_MH D l yL_addClause cL_addClause 5 (some .int) [(0, 10, 13, 13), (0, 10, 17, 15), (0, 10, 21, 17)] ({ frames := 14, cells := 1, slots := 6, locals := 188 } : Room) h0 [va_rf rp0, .int xp1, .int xp2, va_rf rp3] (ql_rI Q) X 1 6 := by
  refine ql_ofWH (by decide) (by cases rp0 <;> cases rp3 <;> exact Nat.le_of_ble_eq_true rfl) ?_
  intro p e s m below meth c ls C hr hlocks hnm htab9 S hl
  rw [show lv_args 0 [va_rf rp0, .int xp1, .int xp2, va_rf rp3] = [(0, va_rf rp0), (1, .int xp1), (2, .int xp2), (3, va_rf rp3)] from by cases rp0 <;> cases rp3 <;> rfl] at hl
  unfold qw_L_addClause at w
  refine ql_aload_n (r := rp3) C dL_addClause_0 rfl (lv_at hl 3 rfl) ?_
  refine lv_iconst (v := (0 : Int32)) C.1.1 C.1.2.1 dL_addClause_1 (by decide) ?_
  refine ql_aload_n (r := rp0) C dL_addClause_2 rfl (lv_at hl 0 rfl) ?_
  refine lv_iload_n C.1.1 C.1.2.1 dL_addClause_3 rfl (lv_at hl 1 rfl) ?_
  refine lv_iload_n C.1.1 C.1.2.1 dL_addClause_4 rfl (lv_at hl 2 rfl) ?_
  refine ql_HVI (As := [.int xp1, .int xp2]) (rest := [.int (0 : Int32), va_rf rp3]) C S hl qy_X11_addClause qi_X11_addClause qs_X11_addClause gw_775 (ci := 12) rfl w (fun b w => qm_X11_addClause l hl9 D _ b xp1 xp2 _ _ w) rfl ⟨Nat.le_of_ble_eq_true rfl, Nat.le_of_ble_eq_true rfl⟩ ⟨rfl, rfl⟩ (by generalize rp3 = z0; cases z0 <;> exact Nat.le_of_ble_eq_true rfl) (fun b e9 => by cases e9; rfl) dL_addClause_5 ⟨Nat.le_of_ble_eq_true rfl, Nat.le_of_ble_eq_true rfl⟩ (fun E ce q9 h H locs w S g1 g2 g3 => ?_) (fun x1 h H locs S w => ?_)
  · by_cases c9 : E = "java/lang/IllegalArgumentException"
    · replace w := ql_if w c9
      subst c9
      refine ql_catch C htab9 [] (0, 10, 13, 13) [(0, 10, 17, 15), (0, 10, 21, 17)] rfl (fun z hz => nomatch hz) rfl (by decide) gw_772 (by decide +kernel) g1 g2 g3 (tgt := 13) rfl ?_
      refine ql_astore (lv' := [(4, va_rf (some q9)), (0, va_rf rp0), (1, .int xp1), (2, .int xp2), (3, va_rf rp3)]) C dL_addClause_13 hl (by decide) (by generalize rp3 = z9; cases z9 <;> rfl) (fun ls hl => ?_)
      refine lv_iconst (v := (1 : Int32)) C.1.1 C.1.2.1 dL_addClause_15 (by decide) ?_
      exact ql_iret C S hr hlocks dL_addClause_16 ⟨Nat.le_of_ble_eq_true rfl, Nat.le_of_ble_eq_true rfl⟩ w
    replace w := ql_ifn w c9
    clear c9
    by_cases c9 : E = "java/lang/IllegalStateException"
    · replace w := ql_if w c9
      subst c9
      refine ql_catch C htab9 [(0, 10, 13, 13)] (0, 10, 17, 15) [(0, 10, 21, 17)] rfl (fun z hz => by rcases (show z = (0, 10, 13, 13) by simpa using hz) with rfl <;> first | exact ⟨by decide, _, gw_772, by decide +kernel⟩) rfl (by decide) gw_773 (by decide +kernel) g1 g2 g3 (tgt := 17) rfl ?_
      refine ql_astore (lv' := [(4, va_rf (some q9)), (0, va_rf rp0), (1, .int xp1), (2, .int xp2), (3, va_rf rp3)]) C dL_addClause_17 hl (by decide) (by generalize rp3 = z9; cases z9 <;> rfl) (fun ls hl => ?_)
      refine lv_iconst (v := (2 : Int32)) C.1.1 C.1.2.1 dL_addClause_19 (by decide) ?_
      exact ql_iret C S hr hlocks dL_addClause_20 ⟨Nat.le_of_ble_eq_true rfl, Nat.le_of_ble_eq_true rfl⟩ w
    replace w := ql_ifn w c9
    clear c9
    by_cases c9 : E = "java/lang/UnsupportedOperationException"
    · replace w := ql_if w c9
      subst c9
      refine ql_catch C htab9 [(0, 10, 13, 13), (0, 10, 17, 15)] (0, 10, 21, 17) [] rfl (fun z hz => by rcases (show z = (0, 10, 13, 13) ∨ z = (0, 10, 17, 15) by simpa using hz) with rfl | rfl <;> first | exact ⟨by decide, _, gw_772, by decide +kernel⟩ | exact ⟨by decide, _, gw_773, by decide +kernel⟩) rfl (by decide) gw_774 (by decide +kernel) g1 g2 g3 (tgt := 21) rfl ?_
      refine ql_astore (lv' := [(4, va_rf (some q9)), (0, va_rf rp0), (1, .int xp1), (2, .int xp2), (3, va_rf rp3)]) C dL_addClause_21 hl (by decide) (by generalize rp3 = z9; cases z9 <;> rfl) (fun ls hl => ?_)
      refine lv_iconst (v := (3 : Int32)) C.1.1 C.1.2.1 dL_addClause_23 (by decide) ?_
      exact ql_iret C S hr hlocks dL_addClause_24 ⟨Nat.le_of_ble_eq_true rfl, Nat.le_of_ble_eq_true rfl⟩ w
    replace w := ql_ifn w c9
    clear c9
    exact w.elim
  refine W.cs (cells' := 1) (slots' := 6) rfl rfl ?_
  refine lv_i2l C.1.1 C.1.2.1 dL_addClause_8 rfl ?_
  refine ql_last C S dL_addClause_9 w (fun h H locs S w => ?_)
  refine lv_goto (tgt := 25) C.1.1 C.1.2.1 dL_addClause_10 (by decide) ?_
  refine lv_iconst (v := (0 : Int32)) C.1.1 C.1.2.1 dL_addClause_25 (by decide) ?_
  exact ql_iret C S hr hlocks dL_addClause_26 ⟨Nat.le_of_ble_eq_true rfl, Nat.le_of_ble_eq_true rfl⟩ w
def qw_L_insertNote (rp0 : Option Nat) (xp1 : Int32) (xp2 : Int32) (xp3 : Int32) (rp4 : Option Nat) (h : ql_H) (Q : Int32 → ql_H → Prop) : Prop :=
ql_rv h rp0 12 fun b1 => qw_X11_insertNote b1 xp1 xp2 xp3 h (fun x1 h =>
ql_sJ h rp4 (0 : Int32) x1.toInt64 fun h =>
Q (0 : Int32) h) (fun E h => if E = "java/util/NoSuchElementException" then (Q (1 : Int32) h) else if E = "java/lang/IndexOutOfBoundsException" then (Q (2 : Int32) h) else if E = "java/lang/IllegalArgumentException" then (Q (3 : Int32) h) else if E = "java/lang/IllegalStateException" then (Q (4 : Int32) h) else if E = "java/lang/UnsupportedOperationException" then (Q (5 : Int32) h) else False)
set_option maxHeartbeats 4000000 in
set_option maxRecDepth 100000 in
theorem qm_L_insertNote (l : Launch) (hl9 : l.stackTraces = false) (D : ql_D) (h0 : ql_H) (rp0 : Option Nat) (xp1 : Int32) (xp2 : Int32) (xp3 : Int32) (rp4 : Option Nat) (Q : Int32 → ql_H → Prop) (X : String → ql_H → Prop) (w : qw_L_insertNote rp0 xp1 xp2 xp3 rp4 h0 Q) : ql_MH D l yL_insertNote cL_insertNote 6 (some .int) [(0, 12, 15, 23), (0, 12, 19, 25), (0, 12, 23, 13), (0, 12, 27, 15), (0, 12, 31, 17)] ({ frames := 14, cells := 1, slots := 6, locals := 206 } : Room) h0 [va_rf rp0, .int xp1, .int xp2, .int xp3, va_rf rp4] (ql_rI Q) X 1 6 := by
  refine ql_ofWH (by decide) (by cases rp0 <;> cases rp4 <;> exact Nat.le_of_ble_eq_true rfl) ?_
  intro p e s m below meth c ls C hr hlocks hnm htab9 S hl
  rw [show lv_args 0 [va_rf rp0, .int xp1, .int xp2, .int xp3, va_rf rp4] = [(0, va_rf rp0), (1, .int xp1), (2, .int xp2), (3, .int xp3), (4, va_rf rp4)] from by cases rp0 <;> cases rp4 <;> rfl] at hl
  unfold qw_L_insertNote at w
  refine ql_aload (r := rp4) C dL_insertNote_0 (lv_at hl 4 rfl) ?_
  refine lv_iconst (v := (0 : Int32)) C.1.1 C.1.2.1 dL_insertNote_2 (by decide) ?_
  refine ql_aload_n (r := rp0) C dL_insertNote_3 rfl (lv_at hl 0 rfl) ?_
  refine lv_iload_n C.1.1 C.1.2.1 dL_insertNote_4 rfl (lv_at hl 1 rfl) ?_
  refine lv_iload_n C.1.1 C.1.2.1 dL_insertNote_5 rfl (lv_at hl 2 rfl) ?_
  refine lv_iload_n C.1.1 C.1.2.1 dL_insertNote_6 rfl (lv_at hl 3 rfl) ?_
  refine ql_HVI (As := [.int xp1, .int xp2, .int xp3]) (rest := [.int (0 : Int32), va_rf rp4]) C S hl qy_X11_insertNote qi_X11_insertNote qs_X11_insertNote gw_837 (ci := 12) rfl w (fun b w => qm_X11_insertNote l hl9 D _ b xp1 xp2 xp3 _ _ w) rfl ⟨Nat.le_of_ble_eq_true rfl, Nat.le_of_ble_eq_true rfl⟩ ⟨rfl, rfl⟩ (by generalize rp4 = z0; cases z0 <;> exact Nat.le_of_ble_eq_true rfl) (fun b e9 => by cases e9; rfl) dL_insertNote_7 ⟨Nat.le_of_ble_eq_true rfl, Nat.le_of_ble_eq_true rfl⟩ (fun E ce q9 h H locs w S g1 g2 g3 => ?_) (fun x1 h H locs S w => ?_)
  · by_cases c9 : E = "java/util/NoSuchElementException"
    · replace w := ql_if w c9
      subst c9
      refine ql_catch C htab9 [] (0, 12, 15, 23) [(0, 12, 19, 25), (0, 12, 23, 13), (0, 12, 27, 15), (0, 12, 31, 17)] rfl (fun z hz => nomatch hz) rfl (by decide) gw_804 (by decide +kernel) g1 g2 g3 (tgt := 15) rfl ?_
      refine ql_astore (lv' := [(5, va_rf (some q9)), (0, va_rf rp0), (1, .int xp1), (2, .int xp2), (3, .int xp3), (4, va_rf rp4)]) C dL_insertNote_15 hl (by decide) (by generalize rp4 = z9; cases z9 <;> rfl) (fun ls hl => ?_)
      refine lv_iconst (v := (1 : Int32)) C.1.1 C.1.2.1 dL_insertNote_17 (by decide) ?_
      exact ql_iret C S hr hlocks dL_insertNote_18 ⟨Nat.le_of_ble_eq_true rfl, Nat.le_of_ble_eq_true rfl⟩ w
    replace w := ql_ifn w c9
    clear c9
    by_cases c9 : E = "java/lang/IndexOutOfBoundsException"
    · replace w := ql_if w c9
      subst c9
      refine ql_catch C htab9 [(0, 12, 15, 23)] (0, 12, 19, 25) [(0, 12, 23, 13), (0, 12, 27, 15), (0, 12, 31, 17)] rfl (fun z hz => by rcases (show z = (0, 12, 15, 23) by simpa using hz) with rfl <;> first | exact ⟨by decide, _, gw_804, by decide +kernel⟩) rfl (by decide) gw_805 (by decide +kernel) g1 g2 g3 (tgt := 19) rfl ?_
      refine ql_astore (lv' := [(5, va_rf (some q9)), (0, va_rf rp0), (1, .int xp1), (2, .int xp2), (3, .int xp3), (4, va_rf rp4)]) C dL_insertNote_19 hl (by decide) (by generalize rp4 = z9; cases z9 <;> rfl) (fun ls hl => ?_)
      refine lv_iconst (v := (2 : Int32)) C.1.1 C.1.2.1 dL_insertNote_21 (by decide) ?_
      exact ql_iret C S hr hlocks dL_insertNote_22 ⟨Nat.le_of_ble_eq_true rfl, Nat.le_of_ble_eq_true rfl⟩ w
    replace w := ql_ifn w c9
    clear c9
    by_cases c9 : E = "java/lang/IllegalArgumentException"
    · replace w := ql_if w c9
      subst c9
      refine ql_catch C htab9 [(0, 12, 15, 23), (0, 12, 19, 25)] (0, 12, 23, 13) [(0, 12, 27, 15), (0, 12, 31, 17)] rfl (fun z hz => by rcases (show z = (0, 12, 15, 23) ∨ z = (0, 12, 19, 25) by simpa using hz) with rfl | rfl <;> first | exact ⟨by decide, _, gw_804, by decide +kernel⟩ | exact ⟨by decide, _, gw_805, by decide +kernel⟩) rfl (by decide) gw_772 (by decide +kernel) g1 g2 g3 (tgt := 23) rfl ?_
      refine ql_astore (lv' := [(5, va_rf (some q9)), (0, va_rf rp0), (1, .int xp1), (2, .int xp2), (3, .int xp3), (4, va_rf rp4)]) C dL_insertNote_23 hl (by decide) (by generalize rp4 = z9; cases z9 <;> rfl) (fun ls hl => ?_)
      refine lv_iconst (v := (3 : Int32)) C.1.1 C.1.2.1 dL_insertNote_25 (by decide) ?_
      exact ql_iret C S hr hlocks dL_insertNote_26 ⟨Nat.le_of_ble_eq_true rfl, Nat.le_of_ble_eq_true rfl⟩ w
    replace w := ql_ifn w c9
    clear c9
    by_cases c9 : E = "java/lang/IllegalStateException"
    · replace w := ql_if w c9
      subst c9
      refine ql_catch C htab9 [(0, 12, 15, 23), (0, 12, 19, 25), (0, 12, 23, 13)] (0, 12, 27, 15) [(0, 12, 31, 17)] rfl (fun z hz => by rcases (show z = (0, 12, 15, 23) ∨ z = (0, 12, 19, 25) ∨ z = (0, 12, 23, 13) by simpa using hz) with rfl | rfl | rfl <;> first | exact ⟨by decide, _, gw_804, by decide +kernel⟩ | exact ⟨by decide, _, gw_805, by decide +kernel⟩ | exact ⟨by decide, _, gw_772, by decide +kernel⟩) rfl (by decide) gw_773 (by decide +kernel) g1 g2 g3 (tgt := 27) rfl ?_
      refine ql_astore (lv' := [(5, va_rf (some q9)), (0, va_rf rp0), (1, .int xp1), (2, .int xp2), (3, .int xp3), (4, va_rf rp4)]) C dL_insertNote_27 hl (by decide) (by generalize rp4 = z9; cases z9 <;> rfl) (fun ls hl => ?_)
      refine lv_iconst (v := (4 : Int32)) C.1.1 C.1.2.1 dL_insertNote_29 (by decide) ?_
      exact ql_iret C S hr hlocks dL_insertNote_30 ⟨Nat.le_of_ble_eq_true rfl, Nat.le_of_ble_eq_true rfl⟩ w
    replace w := ql_ifn w c9
    clear c9
    by_cases c9 : E = "java/lang/UnsupportedOperationException"
    · replace w := ql_if w c9
      subst c9
      refine ql_catch C htab9 [(0, 12, 15, 23), (0, 12, 19, 25), (0, 12, 23, 13), (0, 12, 27, 15)] (0, 12, 31, 17) [] rfl (fun z hz => by rcases (show z = (0, 12, 15, 23) ∨ z = (0, 12, 19, 25) ∨ z = (0, 12, 23, 13) ∨ z = (0, 12, 27, 15) by simpa using hz) with rfl | rfl | rfl | rfl <;> first | exact ⟨by decide, _, gw_804, by decide +kernel⟩ | exact ⟨by decide, _, gw_805, by decide +kernel⟩ | exact ⟨by decide, _, gw_772, by decide +kernel⟩ | exact ⟨by decide, _, gw_773, by decide +kernel⟩) rfl (by decide) gw_774 (by decide +kernel) g1 g2 g3 (tgt := 31) rfl ?_
      refine ql_astore (lv' := [(5, va_rf (some q9)), (0, va_rf rp0), (1, .int xp1), (2, .int xp2), (3, .int xp3), (4, va_rf rp4)]) C dL_insertNote_31 hl (by decide) (by generalize rp4 = z9; cases z9 <;> rfl) (fun ls hl => ?_)
      refine lv_iconst (v := (5 : Int32)) C.1.1 C.1.2.1 dL_insertNote_33 (by decide) ?_
      exact ql_iret C S hr hlocks dL_insertNote_34 ⟨Nat.le_of_ble_eq_true rfl, Nat.le_of_ble_eq_true rfl⟩ w
    replace w := ql_ifn w c9
    clear c9
    exact w.elim
  refine W.cs (cells' := 1) (slots' := 6) rfl rfl ?_
  refine lv_i2l C.1.1 C.1.2.1 dL_insertNote_10 rfl ?_
  refine ql_last C S dL_insertNote_11 w (fun h H locs S w => ?_)
  refine lv_goto (tgt := 35) C.1.1 C.1.2.1 dL_insertNote_12 (by decide) ?_
  refine lv_iconst (v := (0 : Int32)) C.1.1 C.1.2.1 dL_insertNote_35 (by decide) ?_
  exact ql_iret C S hr hlocks dL_insertNote_36 ⟨Nat.le_of_ble_eq_true rfl, Nat.le_of_ble_eq_true rfl⟩ w
def qw_L_replaceNote (rp0 : Option Nat) (xp1 : Int32) (xp2 : Int32) (xp3 : Int32) (rp4 : Option Nat) (h : ql_H) (Q : Int32 → ql_H → Prop) : Prop :=
ql_rv h rp0 12 fun b1 => qw_X11_replaceNote b1 xp1 xp2 xp3 h (fun x1 h =>
ql_sJ h rp4 (0 : Int32) x1.toInt64 fun h =>
Q (0 : Int32) h) (fun E h => if E = "java/util/NoSuchElementException" then (Q (1 : Int32) h) else if E = "java/lang/IndexOutOfBoundsException" then (Q (2 : Int32) h) else if E = "java/lang/IllegalArgumentException" then (Q (3 : Int32) h) else if E = "java/lang/IllegalStateException" then (Q (4 : Int32) h) else False)
set_option maxHeartbeats 4000000 in
set_option maxRecDepth 100000 in
theorem qm_L_replaceNote (l : Launch) (hl9 : l.stackTraces = false) (D : ql_D) (h0 : ql_H) (rp0 : Option Nat) (xp1 : Int32) (xp2 : Int32) (xp3 : Int32) (rp4 : Option Nat) (Q : Int32 → ql_H → Prop) (X : String → ql_H → Prop) (w : qw_L_replaceNote rp0 xp1 xp2 xp3 rp4 h0 Q) : ql_MH D l yL_replaceNote cL_replaceNote 6 (some .int) [(0, 12, 15, 23), (0, 12, 19, 25), (0, 12, 23, 13), (0, 12, 27, 15)] ({ frames := 14, cells := 1, slots := 6, locals := 207 } : Room) h0 [va_rf rp0, .int xp1, .int xp2, .int xp3, va_rf rp4] (ql_rI Q) X 1 6 := by
  refine ql_ofWH (by decide) (by cases rp0 <;> cases rp4 <;> exact Nat.le_of_ble_eq_true rfl) ?_
  intro p e s m below meth c ls C hr hlocks hnm htab9 S hl
  rw [show lv_args 0 [va_rf rp0, .int xp1, .int xp2, .int xp3, va_rf rp4] = [(0, va_rf rp0), (1, .int xp1), (2, .int xp2), (3, .int xp3), (4, va_rf rp4)] from by cases rp0 <;> cases rp4 <;> rfl] at hl
  unfold qw_L_replaceNote at w
  refine ql_aload (r := rp4) C dL_replaceNote_0 (lv_at hl 4 rfl) ?_
  refine lv_iconst (v := (0 : Int32)) C.1.1 C.1.2.1 dL_replaceNote_2 (by decide) ?_
  refine ql_aload_n (r := rp0) C dL_replaceNote_3 rfl (lv_at hl 0 rfl) ?_
  refine lv_iload_n C.1.1 C.1.2.1 dL_replaceNote_4 rfl (lv_at hl 1 rfl) ?_
  refine lv_iload_n C.1.1 C.1.2.1 dL_replaceNote_5 rfl (lv_at hl 2 rfl) ?_
  refine lv_iload_n C.1.1 C.1.2.1 dL_replaceNote_6 rfl (lv_at hl 3 rfl) ?_
  refine ql_HVI (As := [.int xp1, .int xp2, .int xp3]) (rest := [.int (0 : Int32), va_rf rp4]) C S hl qy_X11_replaceNote qi_X11_replaceNote qs_X11_replaceNote gw_874 (ci := 12) rfl w (fun b w => qm_X11_replaceNote l hl9 D _ b xp1 xp2 xp3 _ _ w) rfl ⟨Nat.le_of_ble_eq_true rfl, Nat.le_of_ble_eq_true rfl⟩ ⟨rfl, rfl⟩ (by generalize rp4 = z0; cases z0 <;> exact Nat.le_of_ble_eq_true rfl) (fun b e9 => by cases e9; rfl) dL_replaceNote_7 ⟨Nat.le_of_ble_eq_true rfl, Nat.le_of_ble_eq_true rfl⟩ (fun E ce q9 h H locs w S g1 g2 g3 => ?_) (fun x1 h H locs S w => ?_)
  · by_cases c9 : E = "java/util/NoSuchElementException"
    · replace w := ql_if w c9
      subst c9
      refine ql_catch C htab9 [] (0, 12, 15, 23) [(0, 12, 19, 25), (0, 12, 23, 13), (0, 12, 27, 15)] rfl (fun z hz => nomatch hz) rfl (by decide) gw_804 (by decide +kernel) g1 g2 g3 (tgt := 15) rfl ?_
      refine ql_astore (lv' := [(5, va_rf (some q9)), (0, va_rf rp0), (1, .int xp1), (2, .int xp2), (3, .int xp3), (4, va_rf rp4)]) C dL_replaceNote_15 hl (by decide) (by generalize rp4 = z9; cases z9 <;> rfl) (fun ls hl => ?_)
      refine lv_iconst (v := (1 : Int32)) C.1.1 C.1.2.1 dL_replaceNote_17 (by decide) ?_
      exact ql_iret C S hr hlocks dL_replaceNote_18 ⟨Nat.le_of_ble_eq_true rfl, Nat.le_of_ble_eq_true rfl⟩ w
    replace w := ql_ifn w c9
    clear c9
    by_cases c9 : E = "java/lang/IndexOutOfBoundsException"
    · replace w := ql_if w c9
      subst c9
      refine ql_catch C htab9 [(0, 12, 15, 23)] (0, 12, 19, 25) [(0, 12, 23, 13), (0, 12, 27, 15)] rfl (fun z hz => by rcases (show z = (0, 12, 15, 23) by simpa using hz) with rfl <;> first | exact ⟨by decide, _, gw_804, by decide +kernel⟩) rfl (by decide) gw_805 (by decide +kernel) g1 g2 g3 (tgt := 19) rfl ?_
      refine ql_astore (lv' := [(5, va_rf (some q9)), (0, va_rf rp0), (1, .int xp1), (2, .int xp2), (3, .int xp3), (4, va_rf rp4)]) C dL_replaceNote_19 hl (by decide) (by generalize rp4 = z9; cases z9 <;> rfl) (fun ls hl => ?_)
      refine lv_iconst (v := (2 : Int32)) C.1.1 C.1.2.1 dL_replaceNote_21 (by decide) ?_
      exact ql_iret C S hr hlocks dL_replaceNote_22 ⟨Nat.le_of_ble_eq_true rfl, Nat.le_of_ble_eq_true rfl⟩ w
    replace w := ql_ifn w c9
    clear c9
    by_cases c9 : E = "java/lang/IllegalArgumentException"
    · replace w := ql_if w c9
      subst c9
      refine ql_catch C htab9 [(0, 12, 15, 23), (0, 12, 19, 25)] (0, 12, 23, 13) [(0, 12, 27, 15)] rfl (fun z hz => by rcases (show z = (0, 12, 15, 23) ∨ z = (0, 12, 19, 25) by simpa using hz) with rfl | rfl <;> first | exact ⟨by decide, _, gw_804, by decide +kernel⟩ | exact ⟨by decide, _, gw_805, by decide +kernel⟩) rfl (by decide) gw_772 (by decide +kernel) g1 g2 g3 (tgt := 23) rfl ?_
      refine ql_astore (lv' := [(5, va_rf (some q9)), (0, va_rf rp0), (1, .int xp1), (2, .int xp2), (3, .int xp3), (4, va_rf rp4)]) C dL_replaceNote_23 hl (by decide) (by generalize rp4 = z9; cases z9 <;> rfl) (fun ls hl => ?_)
      refine lv_iconst (v := (3 : Int32)) C.1.1 C.1.2.1 dL_replaceNote_25 (by decide) ?_
      exact ql_iret C S hr hlocks dL_replaceNote_26 ⟨Nat.le_of_ble_eq_true rfl, Nat.le_of_ble_eq_true rfl⟩ w
    replace w := ql_ifn w c9
    clear c9
    by_cases c9 : E = "java/lang/IllegalStateException"
    · replace w := ql_if w c9
      subst c9
      refine ql_catch C htab9 [(0, 12, 15, 23), (0, 12, 19, 25), (0, 12, 23, 13)] (0, 12, 27, 15) [] rfl (fun z hz => by rcases (show z = (0, 12, 15, 23) ∨ z = (0, 12, 19, 25) ∨ z = (0, 12, 23, 13) by simpa using hz) with rfl | rfl | rfl <;> first | exact ⟨by decide, _, gw_804, by decide +kernel⟩ | exact ⟨by decide, _, gw_805, by decide +kernel⟩ | exact ⟨by decide, _, gw_772, by decide +kernel⟩) rfl (by decide) gw_773 (by decide +kernel) g1 g2 g3 (tgt := 27) rfl ?_
      refine ql_astore (lv' := [(5, va_rf (some q9)), (0, va_rf rp0), (1, .int xp1), (2, .int xp2), (3, .int xp3), (4, va_rf rp4)]) C dL_replaceNote_27 hl (by decide) (by generalize rp4 = z9; cases z9 <;> rfl) (fun ls hl => ?_)
      refine lv_iconst (v := (4 : Int32)) C.1.1 C.1.2.1 dL_replaceNote_29 (by decide) ?_
      exact ql_iret C S hr hlocks dL_replaceNote_30 ⟨Nat.le_of_ble_eq_true rfl, Nat.le_of_ble_eq_true rfl⟩ w
    replace w := ql_ifn w c9
    clear c9
    exact w.elim
  refine W.cs (cells' := 1) (slots' := 6) rfl rfl ?_
  refine lv_i2l C.1.1 C.1.2.1 dL_replaceNote_10 rfl ?_
  refine ql_last C S dL_replaceNote_11 w (fun h H locs S w => ?_)
  refine lv_goto (tgt := 31) C.1.1 C.1.2.1 dL_replaceNote_12 (by decide) ?_
  refine lv_iconst (v := (0 : Int32)) C.1.1 C.1.2.1 dL_replaceNote_31 (by decide) ?_
  exact ql_iret C S hr hlocks dL_replaceNote_32 ⟨Nat.le_of_ble_eq_true rfl, Nat.le_of_ble_eq_true rfl⟩ w
def qw_L_deleteNote (rp0 : Option Nat) (xp1 : Int32) (xp2 : Int32) (rp3 : Option Nat) (h : ql_H) (Q : Int32 → ql_H → Prop) : Prop :=
ql_rv h rp0 12 fun b1 => qw_X11_deleteNote b1 xp1 xp2 h (fun x1 h =>
ql_sJ h rp3 (0 : Int32) x1.toInt64 fun h =>
Q (0 : Int32) h) (fun E h => if E = "java/util/NoSuchElementException" then (Q (1 : Int32) h) else if E = "java/lang/IndexOutOfBoundsException" then (Q (2 : Int32) h) else if E = "java/lang/IllegalStateException" then (Q (3 : Int32) h) else if E = "java/lang/UnsupportedOperationException" then (Q (4 : Int32) h) else False)
set_option maxHeartbeats 4000000 in
set_option maxRecDepth 100000 in
theorem qm_L_deleteNote (l : Launch) (hl9 : l.stackTraces = false) (D : ql_D) (h0 : ql_H) (rp0 : Option Nat) (xp1 : Int32) (xp2 : Int32) (rp3 : Option Nat) (Q : Int32 → ql_H → Prop) (X : String → ql_H → Prop) (w : qw_L_deleteNote rp0 xp1 xp2 rp3 h0 Q) : ql_MH D l yL_deleteNote cL_deleteNote 5 (some .int) [(0, 10, 13, 23), (0, 10, 17, 25), (0, 10, 21, 15), (0, 10, 25, 17)] ({ frames := 14, cells := 1, slots := 6, locals := 204 } : Room) h0 [va_rf rp0, .int xp1, .int xp2, va_rf rp3] (ql_rI Q) X 1 6 := by
  refine ql_ofWH (by decide) (by cases rp0 <;> cases rp3 <;> exact Nat.le_of_ble_eq_true rfl) ?_
  intro p e s m below meth c ls C hr hlocks hnm htab9 S hl
  rw [show lv_args 0 [va_rf rp0, .int xp1, .int xp2, va_rf rp3] = [(0, va_rf rp0), (1, .int xp1), (2, .int xp2), (3, va_rf rp3)] from by cases rp0 <;> cases rp3 <;> rfl] at hl
  unfold qw_L_deleteNote at w
  refine ql_aload_n (r := rp3) C dL_deleteNote_0 rfl (lv_at hl 3 rfl) ?_
  refine lv_iconst (v := (0 : Int32)) C.1.1 C.1.2.1 dL_deleteNote_1 (by decide) ?_
  refine ql_aload_n (r := rp0) C dL_deleteNote_2 rfl (lv_at hl 0 rfl) ?_
  refine lv_iload_n C.1.1 C.1.2.1 dL_deleteNote_3 rfl (lv_at hl 1 rfl) ?_
  refine lv_iload_n C.1.1 C.1.2.1 dL_deleteNote_4 rfl (lv_at hl 2 rfl) ?_
  refine ql_HVI (As := [.int xp1, .int xp2]) (rest := [.int (0 : Int32), va_rf rp3]) C S hl qy_X11_deleteNote qi_X11_deleteNote qs_X11_deleteNote gw_892 (ci := 12) rfl w (fun b w => qm_X11_deleteNote l hl9 D _ b xp1 xp2 _ _ w) rfl ⟨Nat.le_of_ble_eq_true rfl, Nat.le_of_ble_eq_true rfl⟩ ⟨rfl, rfl⟩ (by generalize rp3 = z0; cases z0 <;> exact Nat.le_of_ble_eq_true rfl) (fun b e9 => by cases e9; rfl) dL_deleteNote_5 ⟨Nat.le_of_ble_eq_true rfl, Nat.le_of_ble_eq_true rfl⟩ (fun E ce q9 h H locs w S g1 g2 g3 => ?_) (fun x1 h H locs S w => ?_)
  · by_cases c9 : E = "java/util/NoSuchElementException"
    · replace w := ql_if w c9
      subst c9
      refine ql_catch C htab9 [] (0, 10, 13, 23) [(0, 10, 17, 25), (0, 10, 21, 15), (0, 10, 25, 17)] rfl (fun z hz => nomatch hz) rfl (by decide) gw_804 (by decide +kernel) g1 g2 g3 (tgt := 13) rfl ?_
      refine ql_astore (lv' := [(4, va_rf (some q9)), (0, va_rf rp0), (1, .int xp1), (2, .int xp2), (3, va_rf rp3)]) C dL_deleteNote_13 hl (by decide) (by generalize rp3 = z9; cases z9 <;> rfl) (fun ls hl => ?_)
      refine lv_iconst (v := (1 : Int32)) C.1.1 C.1.2.1 dL_deleteNote_15 (by decide) ?_
      exact ql_iret C S hr hlocks dL_deleteNote_16 ⟨Nat.le_of_ble_eq_true rfl, Nat.le_of_ble_eq_true rfl⟩ w
    replace w := ql_ifn w c9
    clear c9
    by_cases c9 : E = "java/lang/IndexOutOfBoundsException"
    · replace w := ql_if w c9
      subst c9
      refine ql_catch C htab9 [(0, 10, 13, 23)] (0, 10, 17, 25) [(0, 10, 21, 15), (0, 10, 25, 17)] rfl (fun z hz => by rcases (show z = (0, 10, 13, 23) by simpa using hz) with rfl <;> first | exact ⟨by decide, _, gw_804, by decide +kernel⟩) rfl (by decide) gw_805 (by decide +kernel) g1 g2 g3 (tgt := 17) rfl ?_
      refine ql_astore (lv' := [(4, va_rf (some q9)), (0, va_rf rp0), (1, .int xp1), (2, .int xp2), (3, va_rf rp3)]) C dL_deleteNote_17 hl (by decide) (by generalize rp3 = z9; cases z9 <;> rfl) (fun ls hl => ?_)
      refine lv_iconst (v := (2 : Int32)) C.1.1 C.1.2.1 dL_deleteNote_19 (by decide) ?_
      exact ql_iret C S hr hlocks dL_deleteNote_20 ⟨Nat.le_of_ble_eq_true rfl, Nat.le_of_ble_eq_true rfl⟩ w
    replace w := ql_ifn w c9
    clear c9
    by_cases c9 : E = "java/lang/IllegalStateException"
    · replace w := ql_if w c9
      subst c9
      refine ql_catch C htab9 [(0, 10, 13, 23), (0, 10, 17, 25)] (0, 10, 21, 15) [(0, 10, 25, 17)] rfl (fun z hz => by rcases (show z = (0, 10, 13, 23) ∨ z = (0, 10, 17, 25) by simpa using hz) with rfl | rfl <;> first | exact ⟨by decide, _, gw_804, by decide +kernel⟩ | exact ⟨by decide, _, gw_805, by decide +kernel⟩) rfl (by decide) gw_773 (by decide +kernel) g1 g2 g3 (tgt := 21) rfl ?_
      refine ql_astore (lv' := [(4, va_rf (some q9)), (0, va_rf rp0), (1, .int xp1), (2, .int xp2), (3, va_rf rp3)]) C dL_deleteNote_21 hl (by decide) (by generalize rp3 = z9; cases z9 <;> rfl) (fun ls hl => ?_)
      refine lv_iconst (v := (3 : Int32)) C.1.1 C.1.2.1 dL_deleteNote_23 (by decide) ?_
      exact ql_iret C S hr hlocks dL_deleteNote_24 ⟨Nat.le_of_ble_eq_true rfl, Nat.le_of_ble_eq_true rfl⟩ w
    replace w := ql_ifn w c9
    clear c9
    by_cases c9 : E = "java/lang/UnsupportedOperationException"
    · replace w := ql_if w c9
      subst c9
      refine ql_catch C htab9 [(0, 10, 13, 23), (0, 10, 17, 25), (0, 10, 21, 15)] (0, 10, 25, 17) [] rfl (fun z hz => by rcases (show z = (0, 10, 13, 23) ∨ z = (0, 10, 17, 25) ∨ z = (0, 10, 21, 15) by simpa using hz) with rfl | rfl | rfl <;> first | exact ⟨by decide, _, gw_804, by decide +kernel⟩ | exact ⟨by decide, _, gw_805, by decide +kernel⟩ | exact ⟨by decide, _, gw_773, by decide +kernel⟩) rfl (by decide) gw_774 (by decide +kernel) g1 g2 g3 (tgt := 25) rfl ?_
      refine ql_astore (lv' := [(4, va_rf (some q9)), (0, va_rf rp0), (1, .int xp1), (2, .int xp2), (3, va_rf rp3)]) C dL_deleteNote_25 hl (by decide) (by generalize rp3 = z9; cases z9 <;> rfl) (fun ls hl => ?_)
      refine lv_iconst (v := (4 : Int32)) C.1.1 C.1.2.1 dL_deleteNote_27 (by decide) ?_
      exact ql_iret C S hr hlocks dL_deleteNote_28 ⟨Nat.le_of_ble_eq_true rfl, Nat.le_of_ble_eq_true rfl⟩ w
    replace w := ql_ifn w c9
    clear c9
    exact w.elim
  refine W.cs (cells' := 1) (slots' := 6) rfl rfl ?_
  refine lv_i2l C.1.1 C.1.2.1 dL_deleteNote_8 rfl ?_
  refine ql_last C S dL_deleteNote_9 w (fun h H locs S w => ?_)
  refine lv_goto (tgt := 29) C.1.1 C.1.2.1 dL_deleteNote_10 (by decide) ?_
  refine lv_iconst (v := (0 : Int32)) C.1.1 C.1.2.1 dL_deleteNote_29 (by decide) ?_
  exact ql_iret C S hr hlocks dL_deleteNote_30 ⟨Nat.le_of_ble_eq_true rfl, Nat.le_of_ble_eq_true rfl⟩ w
def qw_L_setSunset (rp0 : Option Nat) (xp1 : Int32) (xp2 : Int32) (rp3 : Option Nat) (h : ql_H) (Q : Int32 → ql_H → Prop) : Prop :=
ql_rv h rp0 12 fun b1 => qw_X11_setSunset b1 xp1 xp2 h (fun x1 h =>
ql_sJ h rp3 (0 : Int32) x1.toInt64 fun h =>
Q (0 : Int32) h) (fun E h => if E = "java/util/NoSuchElementException" then (Q (1 : Int32) h) else if E = "java/lang/IllegalArgumentException" then (Q (2 : Int32) h) else if E = "java/lang/IllegalStateException" then (Q (3 : Int32) h) else False)
set_option maxHeartbeats 4000000 in
set_option maxRecDepth 100000 in
theorem qm_L_setSunset (l : Launch) (hl9 : l.stackTraces = false) (D : ql_D) (h0 : ql_H) (rp0 : Option Nat) (xp1 : Int32) (xp2 : Int32) (rp3 : Option Nat) (Q : Int32 → ql_H → Prop) (X : String → ql_H → Prop) (w : qw_L_setSunset rp0 xp1 xp2 rp3 h0 Q) : ql_MH D l yL_setSunset cL_setSunset 5 (some .int) [(0, 10, 13, 23), (0, 10, 17, 13), (0, 10, 21, 15)] ({ frames := 14, cells := 1, slots := 6, locals := 188 } : Room) h0 [va_rf rp0, .int xp1, .int xp2, va_rf rp3] (ql_rI Q) X 1 6 := by
  refine ql_ofWH (by decide) (by cases rp0 <;> cases rp3 <;> exact Nat.le_of_ble_eq_true rfl) ?_
  intro p e s m below meth c ls C hr hlocks hnm htab9 S hl
  rw [show lv_args 0 [va_rf rp0, .int xp1, .int xp2, va_rf rp3] = [(0, va_rf rp0), (1, .int xp1), (2, .int xp2), (3, va_rf rp3)] from by cases rp0 <;> cases rp3 <;> rfl] at hl
  unfold qw_L_setSunset at w
  refine ql_aload_n (r := rp3) C dL_setSunset_0 rfl (lv_at hl 3 rfl) ?_
  refine lv_iconst (v := (0 : Int32)) C.1.1 C.1.2.1 dL_setSunset_1 (by decide) ?_
  refine ql_aload_n (r := rp0) C dL_setSunset_2 rfl (lv_at hl 0 rfl) ?_
  refine lv_iload_n C.1.1 C.1.2.1 dL_setSunset_3 rfl (lv_at hl 1 rfl) ?_
  refine lv_iload_n C.1.1 C.1.2.1 dL_setSunset_4 rfl (lv_at hl 2 rfl) ?_
  refine ql_HVI (As := [.int xp1, .int xp2]) (rest := [.int (0 : Int32), va_rf rp3]) C S hl qy_X11_setSunset qi_X11_setSunset qs_X11_setSunset gw_904 (ci := 12) rfl w (fun b w => qm_X11_setSunset l hl9 D _ b xp1 xp2 _ _ w) rfl ⟨Nat.le_of_ble_eq_true rfl, Nat.le_of_ble_eq_true rfl⟩ ⟨rfl, rfl⟩ (by generalize rp3 = z0; cases z0 <;> exact Nat.le_of_ble_eq_true rfl) (fun b e9 => by cases e9; rfl) dL_setSunset_5 ⟨Nat.le_of_ble_eq_true rfl, Nat.le_of_ble_eq_true rfl⟩ (fun E ce q9 h H locs w S g1 g2 g3 => ?_) (fun x1 h H locs S w => ?_)
  · by_cases c9 : E = "java/util/NoSuchElementException"
    · replace w := ql_if w c9
      subst c9
      refine ql_catch C htab9 [] (0, 10, 13, 23) [(0, 10, 17, 13), (0, 10, 21, 15)] rfl (fun z hz => nomatch hz) rfl (by decide) gw_804 (by decide +kernel) g1 g2 g3 (tgt := 13) rfl ?_
      refine ql_astore (lv' := [(4, va_rf (some q9)), (0, va_rf rp0), (1, .int xp1), (2, .int xp2), (3, va_rf rp3)]) C dL_setSunset_13 hl (by decide) (by generalize rp3 = z9; cases z9 <;> rfl) (fun ls hl => ?_)
      refine lv_iconst (v := (1 : Int32)) C.1.1 C.1.2.1 dL_setSunset_15 (by decide) ?_
      exact ql_iret C S hr hlocks dL_setSunset_16 ⟨Nat.le_of_ble_eq_true rfl, Nat.le_of_ble_eq_true rfl⟩ w
    replace w := ql_ifn w c9
    clear c9
    by_cases c9 : E = "java/lang/IllegalArgumentException"
    · replace w := ql_if w c9
      subst c9
      refine ql_catch C htab9 [(0, 10, 13, 23)] (0, 10, 17, 13) [(0, 10, 21, 15)] rfl (fun z hz => by rcases (show z = (0, 10, 13, 23) by simpa using hz) with rfl <;> first | exact ⟨by decide, _, gw_804, by decide +kernel⟩) rfl (by decide) gw_772 (by decide +kernel) g1 g2 g3 (tgt := 17) rfl ?_
      refine ql_astore (lv' := [(4, va_rf (some q9)), (0, va_rf rp0), (1, .int xp1), (2, .int xp2), (3, va_rf rp3)]) C dL_setSunset_17 hl (by decide) (by generalize rp3 = z9; cases z9 <;> rfl) (fun ls hl => ?_)
      refine lv_iconst (v := (2 : Int32)) C.1.1 C.1.2.1 dL_setSunset_19 (by decide) ?_
      exact ql_iret C S hr hlocks dL_setSunset_20 ⟨Nat.le_of_ble_eq_true rfl, Nat.le_of_ble_eq_true rfl⟩ w
    replace w := ql_ifn w c9
    clear c9
    by_cases c9 : E = "java/lang/IllegalStateException"
    · replace w := ql_if w c9
      subst c9
      refine ql_catch C htab9 [(0, 10, 13, 23), (0, 10, 17, 13)] (0, 10, 21, 15) [] rfl (fun z hz => by rcases (show z = (0, 10, 13, 23) ∨ z = (0, 10, 17, 13) by simpa using hz) with rfl | rfl <;> first | exact ⟨by decide, _, gw_804, by decide +kernel⟩ | exact ⟨by decide, _, gw_772, by decide +kernel⟩) rfl (by decide) gw_773 (by decide +kernel) g1 g2 g3 (tgt := 21) rfl ?_
      refine ql_astore (lv' := [(4, va_rf (some q9)), (0, va_rf rp0), (1, .int xp1), (2, .int xp2), (3, va_rf rp3)]) C dL_setSunset_21 hl (by decide) (by generalize rp3 = z9; cases z9 <;> rfl) (fun ls hl => ?_)
      refine lv_iconst (v := (3 : Int32)) C.1.1 C.1.2.1 dL_setSunset_23 (by decide) ?_
      exact ql_iret C S hr hlocks dL_setSunset_24 ⟨Nat.le_of_ble_eq_true rfl, Nat.le_of_ble_eq_true rfl⟩ w
    replace w := ql_ifn w c9
    clear c9
    exact w.elim
  refine W.cs (cells' := 1) (slots' := 6) rfl rfl ?_
  refine lv_i2l C.1.1 C.1.2.1 dL_setSunset_8 rfl ?_
  refine ql_last C S dL_setSunset_9 w (fun h H locs S w => ?_)
  refine lv_goto (tgt := 25) C.1.1 C.1.2.1 dL_setSunset_10 (by decide) ?_
  refine lv_iconst (v := (0 : Int32)) C.1.1 C.1.2.1 dL_setSunset_25 (by decide) ?_
  exact ql_iret C S hr hlocks dL_setSunset_26 ⟨Nat.le_of_ble_eq_true rfl, Nat.le_of_ble_eq_true rfl⟩ w
def qw_L_cite (rp0 : Option Nat) (xp1 : Int32) (xp2 : Int32) (rp3 : Option Nat) (h : ql_H) (Q : Int32 → ql_H → Prop) : Prop :=
ql_rv h rp0 12 fun b1 => qw_X11_cite b1 xp1 xp2 h (fun x1 h =>
ql_sJ h rp3 (0 : Int32) x1.toInt64 fun h =>
Q (0 : Int32) h) (fun E h => if E = "java/util/NoSuchElementException" then (Q (1 : Int32) h) else if E = "java/lang/IllegalArgumentException" then (Q (2 : Int32) h) else if E = "java/lang/IllegalStateException" then (Q (3 : Int32) h) else False)
set_option maxHeartbeats 4000000 in
set_option maxRecDepth 100000 in
theorem qm_L_cite (l : Launch) (hl9 : l.stackTraces = false) (D : ql_D) (h0 : ql_H) (rp0 : Option Nat) (xp1 : Int32) (xp2 : Int32) (rp3 : Option Nat) (Q : Int32 → ql_H → Prop) (X : String → ql_H → Prop) (w : qw_L_cite rp0 xp1 xp2 rp3 h0 Q) : ql_MH D l yL_cite cL_cite 5 (some .int) [(0, 10, 13, 23), (0, 10, 17, 13), (0, 10, 21, 15)] ({ frames := 14, cells := 1, slots := 6, locals := 198 } : Room) h0 [va_rf rp0, .int xp1, .int xp2, va_rf rp3] (ql_rI Q) X 1 6 := by
  refine ql_ofWH (by decide) (by cases rp0 <;> cases rp3 <;> exact Nat.le_of_ble_eq_true rfl) ?_
  intro p e s m below meth c ls C hr hlocks hnm htab9 S hl
  rw [show lv_args 0 [va_rf rp0, .int xp1, .int xp2, va_rf rp3] = [(0, va_rf rp0), (1, .int xp1), (2, .int xp2), (3, va_rf rp3)] from by cases rp0 <;> cases rp3 <;> rfl] at hl
  unfold qw_L_cite at w
  refine ql_aload_n (r := rp3) C dL_cite_0 rfl (lv_at hl 3 rfl) ?_
  refine lv_iconst (v := (0 : Int32)) C.1.1 C.1.2.1 dL_cite_1 (by decide) ?_
  refine ql_aload_n (r := rp0) C dL_cite_2 rfl (lv_at hl 0 rfl) ?_
  refine lv_iload_n C.1.1 C.1.2.1 dL_cite_3 rfl (lv_at hl 1 rfl) ?_
  refine lv_iload_n C.1.1 C.1.2.1 dL_cite_4 rfl (lv_at hl 2 rfl) ?_
  refine ql_HVI (As := [.int xp1, .int xp2]) (rest := [.int (0 : Int32), va_rf rp3]) C S hl qy_X11_cite qi_X11_cite qs_X11_cite gw_915 (ci := 12) rfl w (fun b w => qm_X11_cite l hl9 D _ b xp1 xp2 _ _ w) rfl ⟨Nat.le_of_ble_eq_true rfl, Nat.le_of_ble_eq_true rfl⟩ ⟨rfl, rfl⟩ (by generalize rp3 = z0; cases z0 <;> exact Nat.le_of_ble_eq_true rfl) (fun b e9 => by cases e9; rfl) dL_cite_5 ⟨Nat.le_of_ble_eq_true rfl, Nat.le_of_ble_eq_true rfl⟩ (fun E ce q9 h H locs w S g1 g2 g3 => ?_) (fun x1 h H locs S w => ?_)
  · by_cases c9 : E = "java/util/NoSuchElementException"
    · replace w := ql_if w c9
      subst c9
      refine ql_catch C htab9 [] (0, 10, 13, 23) [(0, 10, 17, 13), (0, 10, 21, 15)] rfl (fun z hz => nomatch hz) rfl (by decide) gw_804 (by decide +kernel) g1 g2 g3 (tgt := 13) rfl ?_
      refine ql_astore (lv' := [(4, va_rf (some q9)), (0, va_rf rp0), (1, .int xp1), (2, .int xp2), (3, va_rf rp3)]) C dL_cite_13 hl (by decide) (by generalize rp3 = z9; cases z9 <;> rfl) (fun ls hl => ?_)
      refine lv_iconst (v := (1 : Int32)) C.1.1 C.1.2.1 dL_cite_15 (by decide) ?_
      exact ql_iret C S hr hlocks dL_cite_16 ⟨Nat.le_of_ble_eq_true rfl, Nat.le_of_ble_eq_true rfl⟩ w
    replace w := ql_ifn w c9
    clear c9
    by_cases c9 : E = "java/lang/IllegalArgumentException"
    · replace w := ql_if w c9
      subst c9
      refine ql_catch C htab9 [(0, 10, 13, 23)] (0, 10, 17, 13) [(0, 10, 21, 15)] rfl (fun z hz => by rcases (show z = (0, 10, 13, 23) by simpa using hz) with rfl <;> first | exact ⟨by decide, _, gw_804, by decide +kernel⟩) rfl (by decide) gw_772 (by decide +kernel) g1 g2 g3 (tgt := 17) rfl ?_
      refine ql_astore (lv' := [(4, va_rf (some q9)), (0, va_rf rp0), (1, .int xp1), (2, .int xp2), (3, va_rf rp3)]) C dL_cite_17 hl (by decide) (by generalize rp3 = z9; cases z9 <;> rfl) (fun ls hl => ?_)
      refine lv_iconst (v := (2 : Int32)) C.1.1 C.1.2.1 dL_cite_19 (by decide) ?_
      exact ql_iret C S hr hlocks dL_cite_20 ⟨Nat.le_of_ble_eq_true rfl, Nat.le_of_ble_eq_true rfl⟩ w
    replace w := ql_ifn w c9
    clear c9
    by_cases c9 : E = "java/lang/IllegalStateException"
    · replace w := ql_if w c9
      subst c9
      refine ql_catch C htab9 [(0, 10, 13, 23), (0, 10, 17, 13)] (0, 10, 21, 15) [] rfl (fun z hz => by rcases (show z = (0, 10, 13, 23) ∨ z = (0, 10, 17, 13) by simpa using hz) with rfl | rfl <;> first | exact ⟨by decide, _, gw_804, by decide +kernel⟩ | exact ⟨by decide, _, gw_772, by decide +kernel⟩) rfl (by decide) gw_773 (by decide +kernel) g1 g2 g3 (tgt := 21) rfl ?_
      refine ql_astore (lv' := [(4, va_rf (some q9)), (0, va_rf rp0), (1, .int xp1), (2, .int xp2), (3, va_rf rp3)]) C dL_cite_21 hl (by decide) (by generalize rp3 = z9; cases z9 <;> rfl) (fun ls hl => ?_)
      refine lv_iconst (v := (3 : Int32)) C.1.1 C.1.2.1 dL_cite_23 (by decide) ?_
      exact ql_iret C S hr hlocks dL_cite_24 ⟨Nat.le_of_ble_eq_true rfl, Nat.le_of_ble_eq_true rfl⟩ w
    replace w := ql_ifn w c9
    clear c9
    exact w.elim
  refine W.cs (cells' := 1) (slots' := 6) rfl rfl ?_
  refine lv_i2l C.1.1 C.1.2.1 dL_cite_8 rfl ?_
  refine ql_last C S dL_cite_9 w (fun h H locs S w => ?_)
  refine lv_goto (tgt := 25) C.1.1 C.1.2.1 dL_cite_10 (by decide) ?_
  refine lv_iconst (v := (0 : Int32)) C.1.1 C.1.2.1 dL_cite_25 (by decide) ?_
  exact ql_iret C S hr hlocks dL_cite_26 ⟨Nat.le_of_ble_eq_true rfl, Nat.le_of_ble_eq_true rfl⟩ w
def qw_L_uncite (rp0 : Option Nat) (xp1 : Int32) (xp2 : Int32) (rp3 : Option Nat) (h : ql_H) (Q : Int32 → ql_H → Prop) : Prop :=
ql_rv h rp0 12 fun b1 => qw_X11_uncite b1 xp1 xp2 h (fun x1 h =>
ql_sJ h rp3 (0 : Int32) x1.toInt64 fun h =>
Q (0 : Int32) h) (fun E h => if E = "java/util/NoSuchElementException" then (Q (1 : Int32) h) else False)
set_option maxHeartbeats 4000000 in
set_option maxRecDepth 100000 in
theorem qm_L_uncite (l : Launch) (hl9 : l.stackTraces = false) (D : ql_D) (h0 : ql_H) (rp0 : Option Nat) (xp1 : Int32) (xp2 : Int32) (rp3 : Option Nat) (Q : Int32 → ql_H → Prop) (X : String → ql_H → Prop) (w : qw_L_uncite rp0 xp1 xp2 rp3 h0 Q) : ql_MH D l yL_uncite cL_uncite 5 (some .int) [(0, 10, 13, 23)] ({ frames := 14, cells := 1, slots := 6, locals := 200 } : Room) h0 [va_rf rp0, .int xp1, .int xp2, va_rf rp3] (ql_rI Q) X 1 6 := by
  refine ql_ofWH (by decide) (by cases rp0 <;> cases rp3 <;> exact Nat.le_of_ble_eq_true rfl) ?_
  intro p e s m below meth c ls C hr hlocks hnm htab9 S hl
  rw [show lv_args 0 [va_rf rp0, .int xp1, .int xp2, va_rf rp3] = [(0, va_rf rp0), (1, .int xp1), (2, .int xp2), (3, va_rf rp3)] from by cases rp0 <;> cases rp3 <;> rfl] at hl
  unfold qw_L_uncite at w
  refine ql_aload_n (r := rp3) C dL_uncite_0 rfl (lv_at hl 3 rfl) ?_
  refine lv_iconst (v := (0 : Int32)) C.1.1 C.1.2.1 dL_uncite_1 (by decide) ?_
  refine ql_aload_n (r := rp0) C dL_uncite_2 rfl (lv_at hl 0 rfl) ?_
  refine lv_iload_n C.1.1 C.1.2.1 dL_uncite_3 rfl (lv_at hl 1 rfl) ?_
  refine lv_iload_n C.1.1 C.1.2.1 dL_uncite_4 rfl (lv_at hl 2 rfl) ?_
  refine ql_HVI (As := [.int xp1, .int xp2]) (rest := [.int (0 : Int32), va_rf rp3]) C S hl qy_X11_uncite qi_X11_uncite qs_X11_uncite gw_934 (ci := 12) rfl w (fun b w => qm_X11_uncite l hl9 D _ b xp1 xp2 _ _ w) rfl ⟨Nat.le_of_ble_eq_true rfl, Nat.le_of_ble_eq_true rfl⟩ ⟨rfl, rfl⟩ (by generalize rp3 = z0; cases z0 <;> exact Nat.le_of_ble_eq_true rfl) (fun b e9 => by cases e9; rfl) dL_uncite_5 ⟨Nat.le_of_ble_eq_true rfl, Nat.le_of_ble_eq_true rfl⟩ (fun E ce q9 h H locs w S g1 g2 g3 => ?_) (fun x1 h H locs S w => ?_)
  · by_cases c9 : E = "java/util/NoSuchElementException"
    · replace w := ql_if w c9
      subst c9
      refine ql_catch C htab9 [] (0, 10, 13, 23) [] rfl (fun z hz => nomatch hz) rfl (by decide) gw_804 (by decide +kernel) g1 g2 g3 (tgt := 13) rfl ?_
      refine ql_astore (lv' := [(4, va_rf (some q9)), (0, va_rf rp0), (1, .int xp1), (2, .int xp2), (3, va_rf rp3)]) C dL_uncite_13 hl (by decide) (by generalize rp3 = z9; cases z9 <;> rfl) (fun ls hl => ?_)
      refine lv_iconst (v := (1 : Int32)) C.1.1 C.1.2.1 dL_uncite_15 (by decide) ?_
      exact ql_iret C S hr hlocks dL_uncite_16 ⟨Nat.le_of_ble_eq_true rfl, Nat.le_of_ble_eq_true rfl⟩ w
    replace w := ql_ifn w c9
    clear c9
    exact w.elim
  refine W.cs (cells' := 1) (slots' := 6) rfl rfl ?_
  refine lv_i2l C.1.1 C.1.2.1 dL_uncite_8 rfl ?_
  refine ql_last C S dL_uncite_9 w (fun h H locs S w => ?_)
  refine lv_goto (tgt := 17) C.1.1 C.1.2.1 dL_uncite_10 (by decide) ?_
  refine lv_iconst (v := (0 : Int32)) C.1.1 C.1.2.1 dL_uncite_17 (by decide) ?_
  exact ql_iret C S hr hlocks dL_uncite_18 ⟨Nat.le_of_ble_eq_true rfl, Nat.le_of_ble_eq_true rfl⟩ w
def qw_L_repeal (rp0 : Option Nat) (xp1 : Int32) (rp2 : Option Nat) (h : ql_H) (Q : Int32 → ql_H → Prop) : Prop :=
ql_rv h rp0 12 fun b1 => qw_X11_repeal b1 xp1 h (fun x1 h =>
ql_sJ h rp2 (0 : Int32) x1.toInt64 fun h =>
Q (0 : Int32) h) (fun E h => if E = "java/util/NoSuchElementException" then (Q (1 : Int32) h) else False)
set_option maxHeartbeats 4000000 in
set_option maxRecDepth 100000 in
theorem qm_L_repeal (l : Launch) (hl9 : l.stackTraces = false) (D : ql_D) (h0 : ql_H) (rp0 : Option Nat) (xp1 : Int32) (rp2 : Option Nat) (Q : Int32 → ql_H → Prop) (X : String → ql_H → Prop) (w : qw_L_repeal rp0 xp1 rp2 h0 Q) : ql_MH D l yL_repeal cL_repeal 4 (some .int) [(0, 9, 12, 23)] ({ frames := 14, cells := 1, slots := 6, locals := 187 } : Room) h0 [va_rf rp0, .int xp1, va_rf rp2] (ql_rI Q) X 1 6 := by
  refine ql_ofWH (by decide) (by cases rp0 <;> cases rp2 <;> exact Nat.le_of_ble_eq_true rfl) ?_
  intro p e s m below meth c ls C hr hlocks hnm htab9 S hl
  rw [show lv_args 0 [va_rf rp0, .int xp1, va_rf rp2] = [(0, va_rf rp0), (1, .int xp1), (2, va_rf rp2)] from by cases rp0 <;> cases rp2 <;> rfl] at hl
  unfold qw_L_repeal at w
  refine ql_aload_n (r := rp2) C dL_repeal_0 rfl (lv_at hl 2 rfl) ?_
  refine lv_iconst (v := (0 : Int32)) C.1.1 C.1.2.1 dL_repeal_1 (by decide) ?_
  refine ql_aload_n (r := rp0) C dL_repeal_2 rfl (lv_at hl 0 rfl) ?_
  refine lv_iload_n C.1.1 C.1.2.1 dL_repeal_3 rfl (lv_at hl 1 rfl) ?_
  refine ql_HVI (As := [.int xp1]) (rest := [.int (0 : Int32), va_rf rp2]) C S hl qy_X11_repeal qi_X11_repeal qs_X11_repeal gw_945 (ci := 12) rfl w (fun b w => qm_X11_repeal l hl9 D _ b xp1 _ _ w) rfl ⟨Nat.le_of_ble_eq_true rfl, Nat.le_of_ble_eq_true rfl⟩ ⟨rfl, rfl⟩ (by generalize rp2 = z0; cases z0 <;> exact Nat.le_of_ble_eq_true rfl) (fun b e9 => by cases e9; rfl) dL_repeal_4 ⟨Nat.le_of_ble_eq_true rfl, Nat.le_of_ble_eq_true rfl⟩ (fun E ce q9 h H locs w S g1 g2 g3 => ?_) (fun x1 h H locs S w => ?_)
  · by_cases c9 : E = "java/util/NoSuchElementException"
    · replace w := ql_if w c9
      subst c9
      refine ql_catch C htab9 [] (0, 9, 12, 23) [] rfl (fun z hz => nomatch hz) rfl (by decide) gw_804 (by decide +kernel) g1 g2 g3 (tgt := 12) rfl ?_
      refine ql_astore_n (lv' := [(3, va_rf (some q9)), (0, va_rf rp0), (1, .int xp1), (2, va_rf rp2)]) C dL_repeal_12 rfl hl (by decide) (by generalize rp2 = z9; cases z9 <;> rfl) (fun ls hl => ?_)
      refine lv_iconst (v := (1 : Int32)) C.1.1 C.1.2.1 dL_repeal_13 (by decide) ?_
      exact ql_iret C S hr hlocks dL_repeal_14 ⟨Nat.le_of_ble_eq_true rfl, Nat.le_of_ble_eq_true rfl⟩ w
    replace w := ql_ifn w c9
    clear c9
    exact w.elim
  refine W.cs (cells' := 1) (slots' := 6) rfl rfl ?_
  refine lv_i2l C.1.1 C.1.2.1 dL_repeal_7 rfl ?_
  refine ql_last C S dL_repeal_8 w (fun h H locs S w => ?_)
  refine lv_goto (tgt := 15) C.1.1 C.1.2.1 dL_repeal_9 (by decide) ?_
  refine lv_iconst (v := (0 : Int32)) C.1.1 C.1.2.1 dL_repeal_15 (by decide) ?_
  exact ql_iret C S hr hlocks dL_repeal_16 ⟨Nat.le_of_ble_eq_true rfl, Nat.le_of_ble_eq_true rfl⟩ w
def qw_L_advance (rp0 : Option Nat) (xp1 : Int32) (rp2 : Option Nat) (h : ql_H) (Q : Int32 → ql_H → Prop) : Prop :=
ql_rv h rp0 12 fun b1 => qw_X11_advance b1 xp1 h (fun x1 h =>
ql_sJ h rp2 (0 : Int32) x1.toInt64 fun h =>
Q (0 : Int32) h) (fun E h => if E = "java/lang/IllegalArgumentException" then (Q (1 : Int32) h) else False)
set_option maxHeartbeats 4000000 in
set_option maxRecDepth 100000 in
theorem qm_L_advance (l : Launch) (hl9 : l.stackTraces = false) (D : ql_D) (h0 : ql_H) (rp0 : Option Nat) (xp1 : Int32) (rp2 : Option Nat) (Q : Int32 → ql_H → Prop) (X : String → ql_H → Prop) (w : qw_L_advance rp0 xp1 rp2 h0 Q) : ql_MH D l yL_advance cL_advance 4 (some .int) [(0, 9, 12, 13)] ({ frames := 14, cells := 1, slots := 6, locals := 197 } : Room) h0 [va_rf rp0, .int xp1, va_rf rp2] (ql_rI Q) X 1 6 := by
  refine ql_ofWH (by decide) (by cases rp0 <;> cases rp2 <;> exact Nat.le_of_ble_eq_true rfl) ?_
  intro p e s m below meth c ls C hr hlocks hnm htab9 S hl
  rw [show lv_args 0 [va_rf rp0, .int xp1, va_rf rp2] = [(0, va_rf rp0), (1, .int xp1), (2, va_rf rp2)] from by cases rp0 <;> cases rp2 <;> rfl] at hl
  unfold qw_L_advance at w
  refine ql_aload_n (r := rp2) C dL_advance_0 rfl (lv_at hl 2 rfl) ?_
  refine lv_iconst (v := (0 : Int32)) C.1.1 C.1.2.1 dL_advance_1 (by decide) ?_
  refine ql_aload_n (r := rp0) C dL_advance_2 rfl (lv_at hl 0 rfl) ?_
  refine lv_iload_n C.1.1 C.1.2.1 dL_advance_3 rfl (lv_at hl 1 rfl) ?_
  refine ql_HVI (As := [.int xp1]) (rest := [.int (0 : Int32), va_rf rp2]) C S hl qy_X11_advance qi_X11_advance qs_X11_advance gw_957 (ci := 12) rfl w (fun b w => qm_X11_advance l hl9 D _ b xp1 _ _ w) rfl ⟨Nat.le_of_ble_eq_true rfl, Nat.le_of_ble_eq_true rfl⟩ ⟨rfl, rfl⟩ (by generalize rp2 = z0; cases z0 <;> exact Nat.le_of_ble_eq_true rfl) (fun b e9 => by cases e9; rfl) dL_advance_4 ⟨Nat.le_of_ble_eq_true rfl, Nat.le_of_ble_eq_true rfl⟩ (fun E ce q9 h H locs w S g1 g2 g3 => ?_) (fun x1 h H locs S w => ?_)
  · by_cases c9 : E = "java/lang/IllegalArgumentException"
    · replace w := ql_if w c9
      subst c9
      refine ql_catch C htab9 [] (0, 9, 12, 13) [] rfl (fun z hz => nomatch hz) rfl (by decide) gw_772 (by decide +kernel) g1 g2 g3 (tgt := 12) rfl ?_
      refine ql_astore_n (lv' := [(3, va_rf (some q9)), (0, va_rf rp0), (1, .int xp1), (2, va_rf rp2)]) C dL_advance_12 rfl hl (by decide) (by generalize rp2 = z9; cases z9 <;> rfl) (fun ls hl => ?_)
      refine lv_iconst (v := (1 : Int32)) C.1.1 C.1.2.1 dL_advance_13 (by decide) ?_
      exact ql_iret C S hr hlocks dL_advance_14 ⟨Nat.le_of_ble_eq_true rfl, Nat.le_of_ble_eq_true rfl⟩ w
    replace w := ql_ifn w c9
    clear c9
    exact w.elim
  refine W.cs (cells' := 1) (slots' := 6) rfl rfl ?_
  refine lv_i2l C.1.1 C.1.2.1 dL_advance_7 rfl ?_
  refine ql_last C S dL_advance_8 w (fun h H locs S w => ?_)
  refine lv_goto (tgt := 15) C.1.1 C.1.2.1 dL_advance_9 (by decide) ?_
  refine lv_iconst (v := (0 : Int32)) C.1.1 C.1.2.1 dL_advance_15 (by decide) ?_
  exact ql_iret C S hr hlocks dL_advance_16 ⟨Nat.le_of_ble_eq_true rfl, Nat.le_of_ble_eq_true rfl⟩ w
def qw_L_clauseAt (rp0 : Option Nat) (xp1 : Int32) (rp2 : Option Nat) (h : ql_H) (Q : Int32 → ql_H → Prop) : Prop :=
ql_rv h rp0 12 fun b1 => qw_X11_clauseAt b1 xp1 h (fun x1 h =>
ql_sJ h rp2 (0 : Int32) x1.toInt64 fun h =>
Q (0 : Int32) h) (fun E h => if E = "java/util/NoSuchElementException" then (Q (1 : Int32) h) else False)
set_option maxHeartbeats 4000000 in
set_option maxRecDepth 100000 in
theorem qm_L_clauseAt (l : Launch) (hl9 : l.stackTraces = false) (D : ql_D) (h0 : ql_H) (rp0 : Option Nat) (xp1 : Int32) (rp2 : Option Nat) (Q : Int32 → ql_H → Prop) (X : String → ql_H → Prop) (w : qw_L_clauseAt rp0 xp1 rp2 h0 Q) : ql_MH D l yL_clauseAt cL_clauseAt 4 (some .int) [(0, 9, 12, 23)] ({ frames := 12, cells := 1, slots := 6, locals := 158 } : Room) h0 [va_rf rp0, .int xp1, va_rf rp2] (ql_rI Q) X 1 6 := by
  refine ql_ofWH (by decide) (by cases rp0 <;> cases rp2 <;> exact Nat.le_of_ble_eq_true rfl) ?_
  intro p e s m below meth c ls C hr hlocks hnm htab9 S hl
  rw [show lv_args 0 [va_rf rp0, .int xp1, va_rf rp2] = [(0, va_rf rp0), (1, .int xp1), (2, va_rf rp2)] from by cases rp0 <;> cases rp2 <;> rfl] at hl
  unfold qw_L_clauseAt at w
  refine ql_aload_n (r := rp2) C dL_clauseAt_0 rfl (lv_at hl 2 rfl) ?_
  refine lv_iconst (v := (0 : Int32)) C.1.1 C.1.2.1 dL_clauseAt_1 (by decide) ?_
  refine ql_aload_n (r := rp0) C dL_clauseAt_2 rfl (lv_at hl 0 rfl) ?_
  refine lv_iload_n C.1.1 C.1.2.1 dL_clauseAt_3 rfl (lv_at hl 1 rfl) ?_
  refine ql_HVI (As := [.int xp1]) (rest := [.int (0 : Int32), va_rf rp2]) C S hl qy_X11_clauseAt qi_X11_clauseAt qs_X11_clauseAt gw_972 (ci := 12) rfl w (fun b w => qm_X11_clauseAt l hl9 D _ b xp1 _ _ w) rfl ⟨Nat.le_of_ble_eq_true rfl, Nat.le_of_ble_eq_true rfl⟩ ⟨rfl, rfl⟩ (by generalize rp2 = z0; cases z0 <;> exact Nat.le_of_ble_eq_true rfl) (fun b e9 => by cases e9; rfl) dL_clauseAt_4 ⟨Nat.le_of_ble_eq_true rfl, Nat.le_of_ble_eq_true rfl⟩ (fun E ce q9 h H locs w S g1 g2 g3 => ?_) (fun x1 h H locs S w => ?_)
  · by_cases c9 : E = "java/util/NoSuchElementException"
    · replace w := ql_if w c9
      subst c9
      refine ql_catch C htab9 [] (0, 9, 12, 23) [] rfl (fun z hz => nomatch hz) rfl (by decide) gw_804 (by decide +kernel) g1 g2 g3 (tgt := 12) rfl ?_
      refine ql_astore_n (lv' := [(3, va_rf (some q9)), (0, va_rf rp0), (1, .int xp1), (2, va_rf rp2)]) C dL_clauseAt_12 rfl hl (by decide) (by generalize rp2 = z9; cases z9 <;> rfl) (fun ls hl => ?_)
      refine lv_iconst (v := (1 : Int32)) C.1.1 C.1.2.1 dL_clauseAt_13 (by decide) ?_
      exact ql_iret C S hr hlocks dL_clauseAt_14 ⟨Nat.le_of_ble_eq_true rfl, Nat.le_of_ble_eq_true rfl⟩ w
    replace w := ql_ifn w c9
    clear c9
    exact w.elim
  refine W.cs (cells' := 1) (slots' := 6) rfl rfl ?_
  refine lv_i2l C.1.1 C.1.2.1 dL_clauseAt_7 rfl ?_
  refine ql_last C S dL_clauseAt_8 w (fun h H locs S w => ?_)
  refine lv_goto (tgt := 15) C.1.1 C.1.2.1 dL_clauseAt_9 (by decide) ?_
  refine lv_iconst (v := (0 : Int32)) C.1.1 C.1.2.1 dL_clauseAt_15 (by decide) ?_
  exact ql_iret C S hr hlocks dL_clauseAt_16 ⟨Nat.le_of_ble_eq_true rfl, Nat.le_of_ble_eq_true rfl⟩ w
def qw_L_clauseOfSection (rp0 : Option Nat) (xp1 : Int32) (rp2 : Option Nat) (h : ql_H) (Q : Int32 → ql_H → Prop) : Prop :=
ql_rv h rp0 12 fun b1 => qw_X11_clauseOfSection b1 xp1 h (fun x1 h =>
ql_sJ h rp2 (0 : Int32) x1.toInt64 fun h =>
Q (0 : Int32) h) (fun E h => if E = "java/util/NoSuchElementException" then (Q (1 : Int32) h) else False)
set_option maxHeartbeats 4000000 in
set_option maxRecDepth 100000 in
theorem qm_L_clauseOfSection (l : Launch) (hl9 : l.stackTraces = false) (D : ql_D) (h0 : ql_H) (rp0 : Option Nat) (xp1 : Int32) (rp2 : Option Nat) (Q : Int32 → ql_H → Prop) (X : String → ql_H → Prop) (w : qw_L_clauseOfSection rp0 xp1 rp2 h0 Q) : ql_MH D l yL_clauseOfSection cL_clauseOfSection 4 (some .int) [(0, 9, 12, 23)] ({ frames := 12, cells := 1, slots := 6, locals := 158 } : Room) h0 [va_rf rp0, .int xp1, va_rf rp2] (ql_rI Q) X 1 6 := by
  refine ql_ofWH (by decide) (by cases rp0 <;> cases rp2 <;> exact Nat.le_of_ble_eq_true rfl) ?_
  intro p e s m below meth c ls C hr hlocks hnm htab9 S hl
  rw [show lv_args 0 [va_rf rp0, .int xp1, va_rf rp2] = [(0, va_rf rp0), (1, .int xp1), (2, va_rf rp2)] from by cases rp0 <;> cases rp2 <;> rfl] at hl
  unfold qw_L_clauseOfSection at w
  refine ql_aload_n (r := rp2) C dL_clauseOfSection_0 rfl (lv_at hl 2 rfl) ?_
  refine lv_iconst (v := (0 : Int32)) C.1.1 C.1.2.1 dL_clauseOfSection_1 (by decide) ?_
  refine ql_aload_n (r := rp0) C dL_clauseOfSection_2 rfl (lv_at hl 0 rfl) ?_
  refine lv_iload_n C.1.1 C.1.2.1 dL_clauseOfSection_3 rfl (lv_at hl 1 rfl) ?_
  refine ql_HVI (As := [.int xp1]) (rest := [.int (0 : Int32), va_rf rp2]) C S hl qy_X11_clauseOfSection qi_X11_clauseOfSection qs_X11_clauseOfSection gw_983 (ci := 12) rfl w (fun b w => qm_X11_clauseOfSection l hl9 D _ b xp1 _ _ w) rfl ⟨Nat.le_of_ble_eq_true rfl, Nat.le_of_ble_eq_true rfl⟩ ⟨rfl, rfl⟩ (by generalize rp2 = z0; cases z0 <;> exact Nat.le_of_ble_eq_true rfl) (fun b e9 => by cases e9; rfl) dL_clauseOfSection_4 ⟨Nat.le_of_ble_eq_true rfl, Nat.le_of_ble_eq_true rfl⟩ (fun E ce q9 h H locs w S g1 g2 g3 => ?_) (fun x1 h H locs S w => ?_)
  · by_cases c9 : E = "java/util/NoSuchElementException"
    · replace w := ql_if w c9
      subst c9
      refine ql_catch C htab9 [] (0, 9, 12, 23) [] rfl (fun z hz => nomatch hz) rfl (by decide) gw_804 (by decide +kernel) g1 g2 g3 (tgt := 12) rfl ?_
      refine ql_astore_n (lv' := [(3, va_rf (some q9)), (0, va_rf rp0), (1, .int xp1), (2, va_rf rp2)]) C dL_clauseOfSection_12 rfl hl (by decide) (by generalize rp2 = z9; cases z9 <;> rfl) (fun ls hl => ?_)
      refine lv_iconst (v := (1 : Int32)) C.1.1 C.1.2.1 dL_clauseOfSection_13 (by decide) ?_
      exact ql_iret C S hr hlocks dL_clauseOfSection_14 ⟨Nat.le_of_ble_eq_true rfl, Nat.le_of_ble_eq_true rfl⟩ w
    replace w := ql_ifn w c9
    clear c9
    exact w.elim
  refine W.cs (cells' := 1) (slots' := 6) rfl rfl ?_
  refine lv_i2l C.1.1 C.1.2.1 dL_clauseOfSection_7 rfl ?_
  refine ql_last C S dL_clauseOfSection_8 w (fun h H locs S w => ?_)
  refine lv_goto (tgt := 15) C.1.1 C.1.2.1 dL_clauseOfSection_9 (by decide) ?_
  refine lv_iconst (v := (0 : Int32)) C.1.1 C.1.2.1 dL_clauseOfSection_15 (by decide) ?_
  exact ql_iret C S hr hlocks dL_clauseOfSection_16 ⟨Nat.le_of_ble_eq_true rfl, Nat.le_of_ble_eq_true rfl⟩ w
def qw_L_section (rp0 : Option Nat) (xp1 : Int32) (rp2 : Option Nat) (h : ql_H) (Q : Int32 → ql_H → Prop) : Prop :=
ql_rv h rp0 12 fun b1 => qw_X11_section b1 xp1 h (fun x1 h =>
ql_sJ h rp2 (0 : Int32) x1.toInt64 fun h =>
Q (0 : Int32) h) (fun E h => if E = "java/util/NoSuchElementException" then (Q (1 : Int32) h) else False)
set_option maxHeartbeats 4000000 in
set_option maxRecDepth 100000 in
theorem qm_L_section (l : Launch) (hl9 : l.stackTraces = false) (D : ql_D) (h0 : ql_H) (rp0 : Option Nat) (xp1 : Int32) (rp2 : Option Nat) (Q : Int32 → ql_H → Prop) (X : String → ql_H → Prop) (w : qw_L_section rp0 xp1 rp2 h0 Q) : ql_MH D l yL_section cL_section 4 (some .int) [(0, 9, 12, 23)] ({ frames := 14, cells := 1, slots := 6, locals := 187 } : Room) h0 [va_rf rp0, .int xp1, va_rf rp2] (ql_rI Q) X 1 6 := by
  refine ql_ofWH (by decide) (by cases rp0 <;> cases rp2 <;> exact Nat.le_of_ble_eq_true rfl) ?_
  intro p e s m below meth c ls C hr hlocks hnm htab9 S hl
  rw [show lv_args 0 [va_rf rp0, .int xp1, va_rf rp2] = [(0, va_rf rp0), (1, .int xp1), (2, va_rf rp2)] from by cases rp0 <;> cases rp2 <;> rfl] at hl
  unfold qw_L_section at w
  refine ql_aload_n (r := rp2) C dL_section_0 rfl (lv_at hl 2 rfl) ?_
  refine lv_iconst (v := (0 : Int32)) C.1.1 C.1.2.1 dL_section_1 (by decide) ?_
  refine ql_aload_n (r := rp0) C dL_section_2 rfl (lv_at hl 0 rfl) ?_
  refine lv_iload_n C.1.1 C.1.2.1 dL_section_3 rfl (lv_at hl 1 rfl) ?_
  refine ql_HVI (As := [.int xp1]) (rest := [.int (0 : Int32), va_rf rp2]) C S hl qy_X11_section qi_X11_section qs_X11_section gw_991 (ci := 12) rfl w (fun b w => qm_X11_section l hl9 D _ b xp1 _ _ w) rfl ⟨Nat.le_of_ble_eq_true rfl, Nat.le_of_ble_eq_true rfl⟩ ⟨rfl, rfl⟩ (by generalize rp2 = z0; cases z0 <;> exact Nat.le_of_ble_eq_true rfl) (fun b e9 => by cases e9; rfl) dL_section_4 ⟨Nat.le_of_ble_eq_true rfl, Nat.le_of_ble_eq_true rfl⟩ (fun E ce q9 h H locs w S g1 g2 g3 => ?_) (fun x1 h H locs S w => ?_)
  · by_cases c9 : E = "java/util/NoSuchElementException"
    · replace w := ql_if w c9
      subst c9
      refine ql_catch C htab9 [] (0, 9, 12, 23) [] rfl (fun z hz => nomatch hz) rfl (by decide) gw_804 (by decide +kernel) g1 g2 g3 (tgt := 12) rfl ?_
      refine ql_astore_n (lv' := [(3, va_rf (some q9)), (0, va_rf rp0), (1, .int xp1), (2, va_rf rp2)]) C dL_section_12 rfl hl (by decide) (by generalize rp2 = z9; cases z9 <;> rfl) (fun ls hl => ?_)
      refine lv_iconst (v := (1 : Int32)) C.1.1 C.1.2.1 dL_section_13 (by decide) ?_
      exact ql_iret C S hr hlocks dL_section_14 ⟨Nat.le_of_ble_eq_true rfl, Nat.le_of_ble_eq_true rfl⟩ w
    replace w := ql_ifn w c9
    clear c9
    exact w.elim
  refine W.cs (cells' := 1) (slots' := 6) rfl rfl ?_
  refine lv_i2l C.1.1 C.1.2.1 dL_section_7 rfl ?_
  refine ql_last C S dL_section_8 w (fun h H locs S w => ?_)
  refine lv_goto (tgt := 15) C.1.1 C.1.2.1 dL_section_9 (by decide) ?_
  refine lv_iconst (v := (0 : Int32)) C.1.1 C.1.2.1 dL_section_15 (by decide) ?_
  exact ql_iret C S hr hlocks dL_section_16 ⟨Nat.le_of_ble_eq_true rfl, Nat.le_of_ble_eq_true rfl⟩ w
def qw_L_enactedOn (rp0 : Option Nat) (xp1 : Int32) (rp2 : Option Nat) (h : ql_H) (Q : Int32 → ql_H → Prop) : Prop :=
ql_rv h rp0 12 fun b1 => qw_X11_enactedOn b1 xp1 h (fun x1 h =>
ql_sJ h rp2 (0 : Int32) x1.toInt64 fun h =>
Q (0 : Int32) h) (fun E h => if E = "java/util/NoSuchElementException" then (Q (1 : Int32) h) else False)
set_option maxHeartbeats 4000000 in
set_option maxRecDepth 100000 in
theorem qm_L_enactedOn (l : Launch) (hl9 : l.stackTraces = false) (D : ql_D) (h0 : ql_H) (rp0 : Option Nat) (xp1 : Int32) (rp2 : Option Nat) (Q : Int32 → ql_H → Prop) (X : String → ql_H → Prop) (w : qw_L_enactedOn rp0 xp1 rp2 h0 Q) : ql_MH D l yL_enactedOn cL_enactedOn 4 (some .int) [(0, 9, 12, 23)] ({ frames := 14, cells := 1, slots := 6, locals := 187 } : Room) h0 [va_rf rp0, .int xp1, va_rf rp2] (ql_rI Q) X 1 6 := by
  refine ql_ofWH (by decide) (by cases rp0 <;> cases rp2 <;> exact Nat.le_of_ble_eq_true rfl) ?_
  intro p e s m below meth c ls C hr hlocks hnm htab9 S hl
  rw [show lv_args 0 [va_rf rp0, .int xp1, va_rf rp2] = [(0, va_rf rp0), (1, .int xp1), (2, va_rf rp2)] from by cases rp0 <;> cases rp2 <;> rfl] at hl
  unfold qw_L_enactedOn at w
  refine ql_aload_n (r := rp2) C dL_enactedOn_0 rfl (lv_at hl 2 rfl) ?_
  refine lv_iconst (v := (0 : Int32)) C.1.1 C.1.2.1 dL_enactedOn_1 (by decide) ?_
  refine ql_aload_n (r := rp0) C dL_enactedOn_2 rfl (lv_at hl 0 rfl) ?_
  refine lv_iload_n C.1.1 C.1.2.1 dL_enactedOn_3 rfl (lv_at hl 1 rfl) ?_
  refine ql_HVI (As := [.int xp1]) (rest := [.int (0 : Int32), va_rf rp2]) C S hl qy_X11_enactedOn qi_X11_enactedOn qs_X11_enactedOn gw_1003 (ci := 12) rfl w (fun b w => qm_X11_enactedOn l hl9 D _ b xp1 _ _ w) rfl ⟨Nat.le_of_ble_eq_true rfl, Nat.le_of_ble_eq_true rfl⟩ ⟨rfl, rfl⟩ (by generalize rp2 = z0; cases z0 <;> exact Nat.le_of_ble_eq_true rfl) (fun b e9 => by cases e9; rfl) dL_enactedOn_4 ⟨Nat.le_of_ble_eq_true rfl, Nat.le_of_ble_eq_true rfl⟩ (fun E ce q9 h H locs w S g1 g2 g3 => ?_) (fun x1 h H locs S w => ?_)
  · by_cases c9 : E = "java/util/NoSuchElementException"
    · replace w := ql_if w c9
      subst c9
      refine ql_catch C htab9 [] (0, 9, 12, 23) [] rfl (fun z hz => nomatch hz) rfl (by decide) gw_804 (by decide +kernel) g1 g2 g3 (tgt := 12) rfl ?_
      refine ql_astore_n (lv' := [(3, va_rf (some q9)), (0, va_rf rp0), (1, .int xp1), (2, va_rf rp2)]) C dL_enactedOn_12 rfl hl (by decide) (by generalize rp2 = z9; cases z9 <;> rfl) (fun ls hl => ?_)
      refine lv_iconst (v := (1 : Int32)) C.1.1 C.1.2.1 dL_enactedOn_13 (by decide) ?_
      exact ql_iret C S hr hlocks dL_enactedOn_14 ⟨Nat.le_of_ble_eq_true rfl, Nat.le_of_ble_eq_true rfl⟩ w
    replace w := ql_ifn w c9
    clear c9
    exact w.elim
  refine W.cs (cells' := 1) (slots' := 6) rfl rfl ?_
  refine lv_i2l C.1.1 C.1.2.1 dL_enactedOn_7 rfl ?_
  refine ql_last C S dL_enactedOn_8 w (fun h H locs S w => ?_)
  refine lv_goto (tgt := 15) C.1.1 C.1.2.1 dL_enactedOn_9 (by decide) ?_
  refine lv_iconst (v := (0 : Int32)) C.1.1 C.1.2.1 dL_enactedOn_15 (by decide) ?_
  exact ql_iret C S hr hlocks dL_enactedOn_16 ⟨Nat.le_of_ble_eq_true rfl, Nat.le_of_ble_eq_true rfl⟩ w
def qw_L_sunset (rp0 : Option Nat) (xp1 : Int32) (rp2 : Option Nat) (h : ql_H) (Q : Int32 → ql_H → Prop) : Prop :=
ql_rv h rp0 12 fun b1 => qw_X11_sunset b1 xp1 h (fun x1 h =>
ql_sJ h rp2 (0 : Int32) x1.toInt64 fun h =>
Q (0 : Int32) h) (fun E h => if E = "java/util/NoSuchElementException" then (Q (1 : Int32) h) else False)
set_option maxHeartbeats 4000000 in
set_option maxRecDepth 100000 in
theorem qm_L_sunset (l : Launch) (hl9 : l.stackTraces = false) (D : ql_D) (h0 : ql_H) (rp0 : Option Nat) (xp1 : Int32) (rp2 : Option Nat) (Q : Int32 → ql_H → Prop) (X : String → ql_H → Prop) (w : qw_L_sunset rp0 xp1 rp2 h0 Q) : ql_MH D l yL_sunset cL_sunset 4 (some .int) [(0, 9, 12, 23)] ({ frames := 16, cells := 2, slots := 12, locals := 217 } : Room) h0 [va_rf rp0, .int xp1, va_rf rp2] (ql_rI Q) X 2 12 := by
  refine ql_ofWH (by decide) (by cases rp0 <;> cases rp2 <;> exact Nat.le_of_ble_eq_true rfl) ?_
  intro p e s m below meth c ls C hr hlocks hnm htab9 S hl
  rw [show lv_args 0 [va_rf rp0, .int xp1, va_rf rp2] = [(0, va_rf rp0), (1, .int xp1), (2, va_rf rp2)] from by cases rp0 <;> cases rp2 <;> rfl] at hl
  unfold qw_L_sunset at w
  refine ql_aload_n (r := rp2) C dL_sunset_0 rfl (lv_at hl 2 rfl) ?_
  refine lv_iconst (v := (0 : Int32)) C.1.1 C.1.2.1 dL_sunset_1 (by decide) ?_
  refine ql_aload_n (r := rp0) C dL_sunset_2 rfl (lv_at hl 0 rfl) ?_
  refine lv_iload_n C.1.1 C.1.2.1 dL_sunset_3 rfl (lv_at hl 1 rfl) ?_
  refine ql_HVI (As := [.int xp1]) (rest := [.int (0 : Int32), va_rf rp2]) C S hl qy_X11_sunset qi_X11_sunset qs_X11_sunset gw_1010 (ci := 12) rfl w (fun b w => qm_X11_sunset l hl9 D _ b xp1 _ _ w) rfl ⟨Nat.le_of_ble_eq_true rfl, Nat.le_of_ble_eq_true rfl⟩ ⟨rfl, rfl⟩ (by generalize rp2 = z0; cases z0 <;> exact Nat.le_of_ble_eq_true rfl) (fun b e9 => by cases e9; rfl) dL_sunset_4 ⟨Nat.le_of_ble_eq_true rfl, Nat.le_of_ble_eq_true rfl⟩ (fun E ce q9 h H locs w S g1 g2 g3 => ?_) (fun x1 h H locs S w => ?_)
  · by_cases c9 : E = "java/util/NoSuchElementException"
    · replace w := ql_if w c9
      subst c9
      refine ql_catch C htab9 [] (0, 9, 12, 23) [] rfl (fun z hz => nomatch hz) rfl (by decide) gw_804 (by decide +kernel) g1 g2 g3 (tgt := 12) rfl ?_
      refine ql_astore_n (lv' := [(3, va_rf (some q9)), (0, va_rf rp0), (1, .int xp1), (2, va_rf rp2)]) C dL_sunset_12 rfl hl (by decide) (by generalize rp2 = z9; cases z9 <;> rfl) (fun ls hl => ?_)
      refine lv_iconst (v := (1 : Int32)) C.1.1 C.1.2.1 dL_sunset_13 (by decide) ?_
      exact ql_iret C S hr hlocks dL_sunset_14 ⟨Nat.le_of_ble_eq_true rfl, Nat.le_of_ble_eq_true rfl⟩ w
    replace w := ql_ifn w c9
    clear c9
    exact w.elim
  refine W.cs (cells' := 2) (slots' := 12) rfl rfl ?_
  refine lv_i2l C.1.1 C.1.2.1 dL_sunset_7 rfl ?_
  refine ql_last C S dL_sunset_8 w (fun h H locs S w => ?_)
  refine lv_goto (tgt := 15) C.1.1 C.1.2.1 dL_sunset_9 (by decide) ?_
  refine lv_iconst (v := (0 : Int32)) C.1.1 C.1.2.1 dL_sunset_15 (by decide) ?_
  exact ql_iret C S hr hlocks dL_sunset_16 ⟨Nat.le_of_ble_eq_true rfl, Nat.le_of_ble_eq_true rfl⟩ w
def qw_L_isInForce_16 (Q : Int32 → ql_H → Prop) (rs0 : Option Nat) (xs1 : Int32) (js2 : Int64) (h : ql_H) : Prop :=
ql_sJ h rs0 xs1 js2 fun h =>
Q (0 : Int32) h
def qw_L_isInForce (rp0 : Option Nat) (xp1 : Int32) (xp2 : Int32) (rp3 : Option Nat) (h : ql_H) (Q : Int32 → ql_H → Prop) : Prop :=
ql_rv h rp0 12 fun b1 => qw_X11_isInForce b1 xp1 xp2 h (fun x1 h =>
if x1 = 0 then (qw_L_isInForce_16 Q rp3 (0 : Int32) (0 : Int64) h) else (qw_L_isInForce_16 Q rp3 (0 : Int32) (1 : Int64) h)) (fun E h => if E = "java/util/NoSuchElementException" then (Q (1 : Int32) h) else False)
set_option maxHeartbeats 4000000 in
set_option maxRecDepth 100000 in
theorem qm_L_isInForce (l : Launch) (hl9 : l.stackTraces = false) (D : ql_D) (h0 : ql_H) (rp0 : Option Nat) (xp1 : Int32) (xp2 : Int32) (rp3 : Option Nat) (Q : Int32 → ql_H → Prop) (X : String → ql_H → Prop) (w : qw_L_isInForce rp0 xp1 xp2 rp3 h0 Q) : ql_MH D l yL_isInForce cL_isInForce 5 (some .int) [(0, 17, 20, 23)] ({ frames := 14, cells := 1, slots := 6, locals := 188 } : Room) h0 [va_rf rp0, .int xp1, .int xp2, va_rf rp3] (ql_rI Q) X 1 6 := by
  refine ql_ofWH (by decide) (by cases rp0 <;> cases rp3 <;> exact Nat.le_of_ble_eq_true rfl) ?_
  intro p e s m below meth c ls C hr hlocks hnm htab9 S hl
  rw [show lv_args 0 [va_rf rp0, .int xp1, .int xp2, va_rf rp3] = [(0, va_rf rp0), (1, .int xp1), (2, .int xp2), (3, va_rf rp3)] from by cases rp0 <;> cases rp3 <;> rfl] at hl
  have hB16 : ∀ (rs0 : Option Nat) (xs1 : Int32) (js2 : Int64) (h : ql_H) (H : Heap) (locs : List Loc) (ls : Array Slot), ql_S D h0 s H locs h → lv_has ls 5 [] → qw_L_isInForce_16 Q rs0 xs1 js2 h → W p l e ({ frames := 14, cells := 1, slots := 6, locals := 188 } : Room) s m ([va_rf rp0, .int xp1, .int xp2, va_rf rp3] : List Value).toArray below meth c H locs 1 6 (vx_MQ below (ql_Q D h0 (ql_rI Q)) (ql_X D h0 X) ([va_rf rp0, .int xp1, .int xp2, va_rf rp3] : List Value).toArray s 1 6 (ql_A h0)) (F0 m 16 ls [.long js2, .int xs1, va_rf rs0]) := by
    intro rs0 xs1 js2 h H locs ls S hl w
    unfold qw_L_isInForce_16 at w
    refine ql_last C S dL_isInForce_16 w (fun h H locs S w => ?_)
    refine lv_goto (tgt := 24) C.1.1 C.1.2.1 dL_isInForce_17 (by decide) ?_
    refine lv_iconst (v := (0 : Int32)) C.1.1 C.1.2.1 dL_isInForce_24 (by decide) ?_
    exact ql_iret C S hr hlocks dL_isInForce_25 ⟨Nat.le_of_ble_eq_true rfl, Nat.le_of_ble_eq_true rfl⟩ w
  unfold qw_L_isInForce at w
  refine ql_aload_n (r := rp3) C dL_isInForce_0 rfl (lv_at hl 3 rfl) ?_
  refine lv_iconst (v := (0 : Int32)) C.1.1 C.1.2.1 dL_isInForce_1 (by decide) ?_
  refine ql_aload_n (r := rp0) C dL_isInForce_2 rfl (lv_at hl 0 rfl) ?_
  refine lv_iload_n C.1.1 C.1.2.1 dL_isInForce_3 rfl (lv_at hl 1 rfl) ?_
  refine lv_iload_n C.1.1 C.1.2.1 dL_isInForce_4 rfl (lv_at hl 2 rfl) ?_
  refine ql_HVI (As := [.int xp1, .int xp2]) (rest := [.int (0 : Int32), va_rf rp3]) C S hl qy_X11_isInForce qi_X11_isInForce qs_X11_isInForce gw_1022 (ci := 12) rfl w (fun b w => qm_X11_isInForce l hl9 D _ b xp1 xp2 _ _ w) rfl ⟨Nat.le_of_ble_eq_true rfl, Nat.le_of_ble_eq_true rfl⟩ ⟨rfl, rfl⟩ (by generalize rp3 = z0; cases z0 <;> exact Nat.le_of_ble_eq_true rfl) (fun b e9 => by cases e9; rfl) dL_isInForce_5 ⟨Nat.le_of_ble_eq_true rfl, Nat.le_of_ble_eq_true rfl⟩ (fun E ce q9 h H locs w S g1 g2 g3 => ?_) (fun x1 h H locs S w => ?_)
  · by_cases c9 : E = "java/util/NoSuchElementException"
    · replace w := ql_if w c9
      subst c9
      refine ql_catch C htab9 [] (0, 17, 20, 23) [] rfl (fun z hz => nomatch hz) rfl (by decide) gw_804 (by decide +kernel) g1 g2 g3 (tgt := 20) rfl ?_
      refine ql_astore (lv' := [(4, va_rf (some q9)), (0, va_rf rp0), (1, .int xp1), (2, .int xp2), (3, va_rf rp3)]) C dL_isInForce_20 hl (by decide) (by generalize rp3 = z9; cases z9 <;> rfl) (fun ls hl => ?_)
      refine lv_iconst (v := (1 : Int32)) C.1.1 C.1.2.1 dL_isInForce_22 (by decide) ?_
      exact ql_iret C S hr hlocks dL_isInForce_23 ⟨Nat.le_of_ble_eq_true rfl, Nat.le_of_ble_eq_true rfl⟩ w
    replace w := ql_ifn w c9
    clear c9
    exact w.elim
  refine W.cs (cells' := 1) (slots' := 6) rfl rfl ?_
  refine lv_if_eq (tgt := 15) C.1.1 C.1.2.1 dL_isInForce_8 (by decide) (fun c9 => ?_) (fun c9 => ?_)
  · replace w := ql_if w c9
    refine lv_lconst (v := (0 : Int64)) C.1.1 C.1.2.1 dL_isInForce_15 (by decide) ?_
    exact hB16 rp3 (0 : Int32) (0 : Int64) _ _ _ _ S (lv_sub hl [] rfl) w
  · replace w := ql_ifn w c9
    refine lv_lconst (v := (1 : Int64)) C.1.1 C.1.2.1 dL_isInForce_11 (by decide) ?_
    refine lv_goto (tgt := 16) C.1.1 C.1.2.1 dL_isInForce_12 (by decide) ?_
    exact hB16 rp3 (0 : Int32) (1 : Int64) _ _ _ _ S (lv_sub hl [] rfl) w
def qw_L_hasLapsed_15 (Q : Int32 → ql_H → Prop) (rs0 : Option Nat) (xs1 : Int32) (js2 : Int64) (h : ql_H) : Prop :=
ql_sJ h rs0 xs1 js2 fun h =>
Q (0 : Int32) h
def qw_L_hasLapsed (rp0 : Option Nat) (xp1 : Int32) (rp2 : Option Nat) (h : ql_H) (Q : Int32 → ql_H → Prop) : Prop :=
ql_rv h rp0 12 fun b1 => qw_X11_hasLapsed b1 xp1 h (fun x1 h =>
if x1 = 0 then (qw_L_hasLapsed_15 Q rp2 (0 : Int32) (0 : Int64) h) else (qw_L_hasLapsed_15 Q rp2 (0 : Int32) (1 : Int64) h)) (fun E h => if E = "java/util/NoSuchElementException" then (Q (1 : Int32) h) else False)
set_option maxHeartbeats 4000000 in
set_option maxRecDepth 100000 in
theorem qm_L_hasLapsed (l : Launch) (hl9 : l.stackTraces = false) (D : ql_D) (h0 : ql_H) (rp0 : Option Nat) (xp1 : Int32) (rp2 : Option Nat) (Q : Int32 → ql_H → Prop) (X : String → ql_H → Prop) (w : qw_L_hasLapsed rp0 xp1 rp2 h0 Q) : ql_MH D l yL_hasLapsed cL_hasLapsed 4 (some .int) [(0, 16, 19, 23)] ({ frames := 14, cells := 1, slots := 6, locals := 187 } : Room) h0 [va_rf rp0, .int xp1, va_rf rp2] (ql_rI Q) X 1 6 := by
  refine ql_ofWH (by decide) (by cases rp0 <;> cases rp2 <;> exact Nat.le_of_ble_eq_true rfl) ?_
  intro p e s m below meth c ls C hr hlocks hnm htab9 S hl
  rw [show lv_args 0 [va_rf rp0, .int xp1, va_rf rp2] = [(0, va_rf rp0), (1, .int xp1), (2, va_rf rp2)] from by cases rp0 <;> cases rp2 <;> rfl] at hl
  have hB15 : ∀ (rs0 : Option Nat) (xs1 : Int32) (js2 : Int64) (h : ql_H) (H : Heap) (locs : List Loc) (ls : Array Slot), ql_S D h0 s H locs h → lv_has ls 4 [] → qw_L_hasLapsed_15 Q rs0 xs1 js2 h → W p l e ({ frames := 14, cells := 1, slots := 6, locals := 187 } : Room) s m ([va_rf rp0, .int xp1, va_rf rp2] : List Value).toArray below meth c H locs 1 6 (vx_MQ below (ql_Q D h0 (ql_rI Q)) (ql_X D h0 X) ([va_rf rp0, .int xp1, va_rf rp2] : List Value).toArray s 1 6 (ql_A h0)) (F0 m 15 ls [.long js2, .int xs1, va_rf rs0]) := by
    intro rs0 xs1 js2 h H locs ls S hl w
    unfold qw_L_hasLapsed_15 at w
    refine ql_last C S dL_hasLapsed_15 w (fun h H locs S w => ?_)
    refine lv_goto (tgt := 22) C.1.1 C.1.2.1 dL_hasLapsed_16 (by decide) ?_
    refine lv_iconst (v := (0 : Int32)) C.1.1 C.1.2.1 dL_hasLapsed_22 (by decide) ?_
    exact ql_iret C S hr hlocks dL_hasLapsed_23 ⟨Nat.le_of_ble_eq_true rfl, Nat.le_of_ble_eq_true rfl⟩ w
  unfold qw_L_hasLapsed at w
  refine ql_aload_n (r := rp2) C dL_hasLapsed_0 rfl (lv_at hl 2 rfl) ?_
  refine lv_iconst (v := (0 : Int32)) C.1.1 C.1.2.1 dL_hasLapsed_1 (by decide) ?_
  refine ql_aload_n (r := rp0) C dL_hasLapsed_2 rfl (lv_at hl 0 rfl) ?_
  refine lv_iload_n C.1.1 C.1.2.1 dL_hasLapsed_3 rfl (lv_at hl 1 rfl) ?_
  refine ql_HVI (As := [.int xp1]) (rest := [.int (0 : Int32), va_rf rp2]) C S hl qy_X11_hasLapsed qi_X11_hasLapsed qs_X11_hasLapsed gw_1030 (ci := 12) rfl w (fun b w => qm_X11_hasLapsed l hl9 D _ b xp1 _ _ w) rfl ⟨Nat.le_of_ble_eq_true rfl, Nat.le_of_ble_eq_true rfl⟩ ⟨rfl, rfl⟩ (by generalize rp2 = z0; cases z0 <;> exact Nat.le_of_ble_eq_true rfl) (fun b e9 => by cases e9; rfl) dL_hasLapsed_4 ⟨Nat.le_of_ble_eq_true rfl, Nat.le_of_ble_eq_true rfl⟩ (fun E ce q9 h H locs w S g1 g2 g3 => ?_) (fun x1 h H locs S w => ?_)
  · by_cases c9 : E = "java/util/NoSuchElementException"
    · replace w := ql_if w c9
      subst c9
      refine ql_catch C htab9 [] (0, 16, 19, 23) [] rfl (fun z hz => nomatch hz) rfl (by decide) gw_804 (by decide +kernel) g1 g2 g3 (tgt := 19) rfl ?_
      refine ql_astore_n (lv' := [(3, va_rf (some q9)), (0, va_rf rp0), (1, .int xp1), (2, va_rf rp2)]) C dL_hasLapsed_19 rfl hl (by decide) (by generalize rp2 = z9; cases z9 <;> rfl) (fun ls hl => ?_)
      refine lv_iconst (v := (1 : Int32)) C.1.1 C.1.2.1 dL_hasLapsed_20 (by decide) ?_
      exact ql_iret C S hr hlocks dL_hasLapsed_21 ⟨Nat.le_of_ble_eq_true rfl, Nat.le_of_ble_eq_true rfl⟩ w
    replace w := ql_ifn w c9
    clear c9
    exact w.elim
  refine W.cs (cells' := 1) (slots' := 6) rfl rfl ?_
  refine lv_if_eq (tgt := 14) C.1.1 C.1.2.1 dL_hasLapsed_7 (by decide) (fun c9 => ?_) (fun c9 => ?_)
  · replace w := ql_if w c9
    refine lv_lconst (v := (0 : Int64)) C.1.1 C.1.2.1 dL_hasLapsed_14 (by decide) ?_
    exact hB15 rp2 (0 : Int32) (0 : Int64) _ _ _ _ S (lv_sub hl [] rfl) w
  · replace w := ql_ifn w c9
    refine lv_lconst (v := (1 : Int64)) C.1.1 C.1.2.1 dL_hasLapsed_10 (by decide) ?_
    refine lv_goto (tgt := 15) C.1.1 C.1.2.1 dL_hasLapsed_11 (by decide) ?_
    exact hB15 rp2 (0 : Int32) (1 : Int64) _ _ _ _ S (lv_sub hl [] rfl) w
def qw_L_daysUntilLapsed (rp0 : Option Nat) (xp1 : Int32) (rp2 : Option Nat) (h : ql_H) (Q : Int32 → ql_H → Prop) : Prop :=
ql_rv h rp0 12 fun b1 => qw_X11_daysUntilLapsed b1 xp1 h (fun x1 h =>
ql_sJ h rp2 (0 : Int32) x1.toInt64 fun h =>
Q (0 : Int32) h) (fun E h => if E = "java/util/NoSuchElementException" then (Q (1 : Int32) h) else False)
set_option maxHeartbeats 4000000 in
set_option maxRecDepth 100000 in
theorem qm_L_daysUntilLapsed (l : Launch) (hl9 : l.stackTraces = false) (D : ql_D) (h0 : ql_H) (rp0 : Option Nat) (xp1 : Int32) (rp2 : Option Nat) (Q : Int32 → ql_H → Prop) (X : String → ql_H → Prop) (w : qw_L_daysUntilLapsed rp0 xp1 rp2 h0 Q) : ql_MH D l yL_daysUntilLapsed cL_daysUntilLapsed 4 (some .int) [(0, 9, 12, 23)] ({ frames := 16, cells := 2, slots := 12, locals := 218 } : Room) h0 [va_rf rp0, .int xp1, va_rf rp2] (ql_rI Q) X 2 12 := by
  refine ql_ofWH (by decide) (by cases rp0 <;> cases rp2 <;> exact Nat.le_of_ble_eq_true rfl) ?_
  intro p e s m below meth c ls C hr hlocks hnm htab9 S hl
  rw [show lv_args 0 [va_rf rp0, .int xp1, va_rf rp2] = [(0, va_rf rp0), (1, .int xp1), (2, va_rf rp2)] from by cases rp0 <;> cases rp2 <;> rfl] at hl
  unfold qw_L_daysUntilLapsed at w
  refine ql_aload_n (r := rp2) C dL_daysUntilLapsed_0 rfl (lv_at hl 2 rfl) ?_
  refine lv_iconst (v := (0 : Int32)) C.1.1 C.1.2.1 dL_daysUntilLapsed_1 (by decide) ?_
  refine ql_aload_n (r := rp0) C dL_daysUntilLapsed_2 rfl (lv_at hl 0 rfl) ?_
  refine lv_iload_n C.1.1 C.1.2.1 dL_daysUntilLapsed_3 rfl (lv_at hl 1 rfl) ?_
  refine ql_HVI (As := [.int xp1]) (rest := [.int (0 : Int32), va_rf rp2]) C S hl qy_X11_daysUntilLapsed qi_X11_daysUntilLapsed qs_X11_daysUntilLapsed gw_1038 (ci := 12) rfl w (fun b w => qm_X11_daysUntilLapsed l hl9 D _ b xp1 _ _ w) rfl ⟨Nat.le_of_ble_eq_true rfl, Nat.le_of_ble_eq_true rfl⟩ ⟨rfl, rfl⟩ (by generalize rp2 = z0; cases z0 <;> exact Nat.le_of_ble_eq_true rfl) (fun b e9 => by cases e9; rfl) dL_daysUntilLapsed_4 ⟨Nat.le_of_ble_eq_true rfl, Nat.le_of_ble_eq_true rfl⟩ (fun E ce q9 h H locs w S g1 g2 g3 => ?_) (fun x1 h H locs S w => ?_)
  · by_cases c9 : E = "java/util/NoSuchElementException"
    · replace w := ql_if w c9
      subst c9
      refine ql_catch C htab9 [] (0, 9, 12, 23) [] rfl (fun z hz => nomatch hz) rfl (by decide) gw_804 (by decide +kernel) g1 g2 g3 (tgt := 12) rfl ?_
      refine ql_astore_n (lv' := [(3, va_rf (some q9)), (0, va_rf rp0), (1, .int xp1), (2, va_rf rp2)]) C dL_daysUntilLapsed_12 rfl hl (by decide) (by generalize rp2 = z9; cases z9 <;> rfl) (fun ls hl => ?_)
      refine lv_iconst (v := (1 : Int32)) C.1.1 C.1.2.1 dL_daysUntilLapsed_13 (by decide) ?_
      exact ql_iret C S hr hlocks dL_daysUntilLapsed_14 ⟨Nat.le_of_ble_eq_true rfl, Nat.le_of_ble_eq_true rfl⟩ w
    replace w := ql_ifn w c9
    clear c9
    exact w.elim
  refine W.cs (cells' := 2) (slots' := 12) rfl rfl ?_
  refine lv_i2l C.1.1 C.1.2.1 dL_daysUntilLapsed_7 rfl ?_
  refine ql_last C S dL_daysUntilLapsed_8 w (fun h H locs S w => ?_)
  refine lv_goto (tgt := 15) C.1.1 C.1.2.1 dL_daysUntilLapsed_9 (by decide) ?_
  refine lv_iconst (v := (0 : Int32)) C.1.1 C.1.2.1 dL_daysUntilLapsed_15 (by decide) ?_
  exact ql_iret C S hr hlocks dL_daysUntilLapsed_16 ⟨Nat.le_of_ble_eq_true rfl, Nat.le_of_ble_eq_true rfl⟩ w
def qw_L_length (rp0 : Option Nat) (xp1 : Int32) (rp2 : Option Nat) (h : ql_H) (Q : Int32 → ql_H → Prop) : Prop :=
ql_rv h rp0 12 fun b1 => qw_X11_length b1 xp1 h (fun x1 h =>
ql_sJ h rp2 (0 : Int32) x1.toInt64 fun h =>
Q (0 : Int32) h) (fun E h => if E = "java/util/NoSuchElementException" then (Q (1 : Int32) h) else False)
set_option maxHeartbeats 4000000 in
set_option maxRecDepth 100000 in
theorem qm_L_length (l : Launch) (hl9 : l.stackTraces = false) (D : ql_D) (h0 : ql_H) (rp0 : Option Nat) (xp1 : Int32) (rp2 : Option Nat) (Q : Int32 → ql_H → Prop) (X : String → ql_H → Prop) (w : qw_L_length rp0 xp1 rp2 h0 Q) : ql_MH D l yL_length cL_length 4 (some .int) [(0, 9, 12, 23)] ({ frames := 14, cells := 1, slots := 6, locals := 187 } : Room) h0 [va_rf rp0, .int xp1, va_rf rp2] (ql_rI Q) X 1 6 := by
  refine ql_ofWH (by decide) (by cases rp0 <;> cases rp2 <;> exact Nat.le_of_ble_eq_true rfl) ?_
  intro p e s m below meth c ls C hr hlocks hnm htab9 S hl
  rw [show lv_args 0 [va_rf rp0, .int xp1, va_rf rp2] = [(0, va_rf rp0), (1, .int xp1), (2, va_rf rp2)] from by cases rp0 <;> cases rp2 <;> rfl] at hl
  unfold qw_L_length at w
  refine ql_aload_n (r := rp2) C dL_length_0 rfl (lv_at hl 2 rfl) ?_
  refine lv_iconst (v := (0 : Int32)) C.1.1 C.1.2.1 dL_length_1 (by decide) ?_
  refine ql_aload_n (r := rp0) C dL_length_2 rfl (lv_at hl 0 rfl) ?_
  refine lv_iload_n C.1.1 C.1.2.1 dL_length_3 rfl (lv_at hl 1 rfl) ?_
  refine ql_HVI (As := [.int xp1]) (rest := [.int (0 : Int32), va_rf rp2]) C S hl qy_X11_length qi_X11_length qs_X11_length gw_1045 (ci := 12) rfl w (fun b w => qm_X11_length l hl9 D _ b xp1 _ _ w) rfl ⟨Nat.le_of_ble_eq_true rfl, Nat.le_of_ble_eq_true rfl⟩ ⟨rfl, rfl⟩ (by generalize rp2 = z0; cases z0 <;> exact Nat.le_of_ble_eq_true rfl) (fun b e9 => by cases e9; rfl) dL_length_4 ⟨Nat.le_of_ble_eq_true rfl, Nat.le_of_ble_eq_true rfl⟩ (fun E ce q9 h H locs w S g1 g2 g3 => ?_) (fun x1 h H locs S w => ?_)
  · by_cases c9 : E = "java/util/NoSuchElementException"
    · replace w := ql_if w c9
      subst c9
      refine ql_catch C htab9 [] (0, 9, 12, 23) [] rfl (fun z hz => nomatch hz) rfl (by decide) gw_804 (by decide +kernel) g1 g2 g3 (tgt := 12) rfl ?_
      refine ql_astore_n (lv' := [(3, va_rf (some q9)), (0, va_rf rp0), (1, .int xp1), (2, va_rf rp2)]) C dL_length_12 rfl hl (by decide) (by generalize rp2 = z9; cases z9 <;> rfl) (fun ls hl => ?_)
      refine lv_iconst (v := (1 : Int32)) C.1.1 C.1.2.1 dL_length_13 (by decide) ?_
      exact ql_iret C S hr hlocks dL_length_14 ⟨Nat.le_of_ble_eq_true rfl, Nat.le_of_ble_eq_true rfl⟩ w
    replace w := ql_ifn w c9
    clear c9
    exact w.elim
  refine W.cs (cells' := 1) (slots' := 6) rfl rfl ?_
  refine lv_i2l C.1.1 C.1.2.1 dL_length_7 rfl ?_
  refine ql_last C S dL_length_8 w (fun h H locs S w => ?_)
  refine lv_goto (tgt := 15) C.1.1 C.1.2.1 dL_length_9 (by decide) ?_
  refine lv_iconst (v := (0 : Int32)) C.1.1 C.1.2.1 dL_length_15 (by decide) ?_
  exact ql_iret C S hr hlocks dL_length_16 ⟨Nat.le_of_ble_eq_true rfl, Nat.le_of_ble_eq_true rfl⟩ w
def qw_L_noteAt (rp0 : Option Nat) (xp1 : Int32) (xp2 : Int32) (rp3 : Option Nat) (h : ql_H) (Q : Int32 → ql_H → Prop) : Prop :=
ql_rv h rp0 12 fun b1 => qw_X11_noteAt b1 xp1 xp2 h (fun x1 h =>
ql_sJ h rp3 (0 : Int32) x1.toInt64 fun h =>
Q (0 : Int32) h) (fun E h => if E = "java/util/NoSuchElementException" then (Q (1 : Int32) h) else if E = "java/lang/IndexOutOfBoundsException" then (Q (2 : Int32) h) else False)
set_option maxHeartbeats 4000000 in
set_option maxRecDepth 100000 in
theorem qm_L_noteAt (l : Launch) (hl9 : l.stackTraces = false) (D : ql_D) (h0 : ql_H) (rp0 : Option Nat) (xp1 : Int32) (xp2 : Int32) (rp3 : Option Nat) (Q : Int32 → ql_H → Prop) (X : String → ql_H → Prop) (w : qw_L_noteAt rp0 xp1 xp2 rp3 h0 Q) : ql_MH D l yL_noteAt cL_noteAt 5 (some .int) [(0, 10, 13, 23), (0, 10, 17, 25)] ({ frames := 14, cells := 2, slots := 12, locals := 188 } : Room) h0 [va_rf rp0, .int xp1, .int xp2, va_rf rp3] (ql_rI Q) X 2 12 := by
  refine ql_ofWH (by decide) (by cases rp0 <;> cases rp3 <;> exact Nat.le_of_ble_eq_true rfl) ?_
  intro p e s m below meth c ls C hr hlocks hnm htab9 S hl
  rw [show lv_args 0 [va_rf rp0, .int xp1, .int xp2, va_rf rp3] = [(0, va_rf rp0), (1, .int xp1), (2, .int xp2), (3, va_rf rp3)] from by cases rp0 <;> cases rp3 <;> rfl] at hl
  unfold qw_L_noteAt at w
  refine ql_aload_n (r := rp3) C dL_noteAt_0 rfl (lv_at hl 3 rfl) ?_
  refine lv_iconst (v := (0 : Int32)) C.1.1 C.1.2.1 dL_noteAt_1 (by decide) ?_
  refine ql_aload_n (r := rp0) C dL_noteAt_2 rfl (lv_at hl 0 rfl) ?_
  refine lv_iload_n C.1.1 C.1.2.1 dL_noteAt_3 rfl (lv_at hl 1 rfl) ?_
  refine lv_iload_n C.1.1 C.1.2.1 dL_noteAt_4 rfl (lv_at hl 2 rfl) ?_
  refine ql_HVI (As := [.int xp1, .int xp2]) (rest := [.int (0 : Int32), va_rf rp3]) C S hl qy_X11_noteAt qi_X11_noteAt qs_X11_noteAt gw_1053 (ci := 12) rfl w (fun b w => qm_X11_noteAt l hl9 D _ b xp1 xp2 _ _ w) rfl ⟨Nat.le_of_ble_eq_true rfl, Nat.le_of_ble_eq_true rfl⟩ ⟨rfl, rfl⟩ (by generalize rp3 = z0; cases z0 <;> exact Nat.le_of_ble_eq_true rfl) (fun b e9 => by cases e9; rfl) dL_noteAt_5 ⟨Nat.le_of_ble_eq_true rfl, Nat.le_of_ble_eq_true rfl⟩ (fun E ce q9 h H locs w S g1 g2 g3 => ?_) (fun x1 h H locs S w => ?_)
  · by_cases c9 : E = "java/util/NoSuchElementException"
    · replace w := ql_if w c9
      subst c9
      refine ql_catch C htab9 [] (0, 10, 13, 23) [(0, 10, 17, 25)] rfl (fun z hz => nomatch hz) rfl (by decide) gw_804 (by decide +kernel) g1 g2 g3 (tgt := 13) rfl ?_
      refine ql_astore (lv' := [(4, va_rf (some q9)), (0, va_rf rp0), (1, .int xp1), (2, .int xp2), (3, va_rf rp3)]) C dL_noteAt_13 hl (by decide) (by generalize rp3 = z9; cases z9 <;> rfl) (fun ls hl => ?_)
      refine lv_iconst (v := (1 : Int32)) C.1.1 C.1.2.1 dL_noteAt_15 (by decide) ?_
      exact ql_iret C S hr hlocks dL_noteAt_16 ⟨Nat.le_of_ble_eq_true rfl, Nat.le_of_ble_eq_true rfl⟩ w
    replace w := ql_ifn w c9
    clear c9
    by_cases c9 : E = "java/lang/IndexOutOfBoundsException"
    · replace w := ql_if w c9
      subst c9
      refine ql_catch C htab9 [(0, 10, 13, 23)] (0, 10, 17, 25) [] rfl (fun z hz => by rcases (show z = (0, 10, 13, 23) by simpa using hz) with rfl <;> first | exact ⟨by decide, _, gw_804, by decide +kernel⟩) rfl (by decide) gw_805 (by decide +kernel) g1 g2 g3 (tgt := 17) rfl ?_
      refine ql_astore (lv' := [(4, va_rf (some q9)), (0, va_rf rp0), (1, .int xp1), (2, .int xp2), (3, va_rf rp3)]) C dL_noteAt_17 hl (by decide) (by generalize rp3 = z9; cases z9 <;> rfl) (fun ls hl => ?_)
      refine lv_iconst (v := (2 : Int32)) C.1.1 C.1.2.1 dL_noteAt_19 (by decide) ?_
      exact ql_iret C S hr hlocks dL_noteAt_20 ⟨Nat.le_of_ble_eq_true rfl, Nat.le_of_ble_eq_true rfl⟩ w
    replace w := ql_ifn w c9
    clear c9
    exact w.elim
  refine W.cs (cells' := 2) (slots' := 12) rfl rfl ?_
  refine lv_i2l C.1.1 C.1.2.1 dL_noteAt_8 rfl ?_
  refine ql_last C S dL_noteAt_9 w (fun h H locs S w => ?_)
  refine lv_goto (tgt := 21) C.1.1 C.1.2.1 dL_noteAt_10 (by decide) ?_
  refine lv_iconst (v := (0 : Int32)) C.1.1 C.1.2.1 dL_noteAt_21 (by decide) ?_
  exact ql_iret C S hr hlocks dL_noteAt_22 ⟨Nat.le_of_ble_eq_true rfl, Nat.le_of_ble_eq_true rfl⟩ w
def qw_L_versionCount (rp0 : Option Nat) (xp1 : Int32) (rp2 : Option Nat) (h : ql_H) (Q : Int32 → ql_H → Prop) : Prop :=
ql_rv h rp0 12 fun b1 => qw_X11_versionCount b1 xp1 h (fun x1 h =>
ql_sJ h rp2 (0 : Int32) x1.toInt64 fun h =>
Q (0 : Int32) h) (fun E h => if E = "java/util/NoSuchElementException" then (Q (1 : Int32) h) else False)
set_option maxHeartbeats 4000000 in
set_option maxRecDepth 100000 in
theorem qm_L_versionCount (l : Launch) (hl9 : l.stackTraces = false) (D : ql_D) (h0 : ql_H) (rp0 : Option Nat) (xp1 : Int32) (rp2 : Option Nat) (Q : Int32 → ql_H → Prop) (X : String → ql_H → Prop) (w : qw_L_versionCount rp0 xp1 rp2 h0 Q) : ql_MH D l yL_versionCount cL_versionCount 4 (some .int) [(0, 9, 12, 23)] ({ frames := 14, cells := 1, slots := 6, locals := 187 } : Room) h0 [va_rf rp0, .int xp1, va_rf rp2] (ql_rI Q) X 1 6 := by
  refine ql_ofWH (by decide) (by cases rp0 <;> cases rp2 <;> exact Nat.le_of_ble_eq_true rfl) ?_
  intro p e s m below meth c ls C hr hlocks hnm htab9 S hl
  rw [show lv_args 0 [va_rf rp0, .int xp1, va_rf rp2] = [(0, va_rf rp0), (1, .int xp1), (2, va_rf rp2)] from by cases rp0 <;> cases rp2 <;> rfl] at hl
  unfold qw_L_versionCount at w
  refine ql_aload_n (r := rp2) C dL_versionCount_0 rfl (lv_at hl 2 rfl) ?_
  refine lv_iconst (v := (0 : Int32)) C.1.1 C.1.2.1 dL_versionCount_1 (by decide) ?_
  refine ql_aload_n (r := rp0) C dL_versionCount_2 rfl (lv_at hl 0 rfl) ?_
  refine lv_iload_n C.1.1 C.1.2.1 dL_versionCount_3 rfl (lv_at hl 1 rfl) ?_
  refine ql_HVI (As := [.int xp1]) (rest := [.int (0 : Int32), va_rf rp2]) C S hl qy_X11_versionCount qi_X11_versionCount qs_X11_versionCount gw_1064 (ci := 12) rfl w (fun b w => qm_X11_versionCount l hl9 D _ b xp1 _ _ w) rfl ⟨Nat.le_of_ble_eq_true rfl, Nat.le_of_ble_eq_true rfl⟩ ⟨rfl, rfl⟩ (by generalize rp2 = z0; cases z0 <;> exact Nat.le_of_ble_eq_true rfl) (fun b e9 => by cases e9; rfl) dL_versionCount_4 ⟨Nat.le_of_ble_eq_true rfl, Nat.le_of_ble_eq_true rfl⟩ (fun E ce q9 h H locs w S g1 g2 g3 => ?_) (fun x1 h H locs S w => ?_)
  · by_cases c9 : E = "java/util/NoSuchElementException"
    · replace w := ql_if w c9
      subst c9
      refine ql_catch C htab9 [] (0, 9, 12, 23) [] rfl (fun z hz => nomatch hz) rfl (by decide) gw_804 (by decide +kernel) g1 g2 g3 (tgt := 12) rfl ?_
      refine ql_astore_n (lv' := [(3, va_rf (some q9)), (0, va_rf rp0), (1, .int xp1), (2, va_rf rp2)]) C dL_versionCount_12 rfl hl (by decide) (by generalize rp2 = z9; cases z9 <;> rfl) (fun ls hl => ?_)
      refine lv_iconst (v := (1 : Int32)) C.1.1 C.1.2.1 dL_versionCount_13 (by decide) ?_
      exact ql_iret C S hr hlocks dL_versionCount_14 ⟨Nat.le_of_ble_eq_true rfl, Nat.le_of_ble_eq_true rfl⟩ w
    replace w := ql_ifn w c9
    clear c9
    exact w.elim
  refine W.cs (cells' := 1) (slots' := 6) rfl rfl ?_
  refine lv_i2l C.1.1 C.1.2.1 dL_versionCount_7 rfl ?_
  refine ql_last C S dL_versionCount_8 w (fun h H locs S w => ?_)
  refine lv_goto (tgt := 15) C.1.1 C.1.2.1 dL_versionCount_9 (by decide) ?_
  refine lv_iconst (v := (0 : Int32)) C.1.1 C.1.2.1 dL_versionCount_15 (by decide) ?_
  exact ql_iret C S hr hlocks dL_versionCount_16 ⟨Nat.le_of_ble_eq_true rfl, Nat.le_of_ble_eq_true rfl⟩ w
def qw_L_lengthOn (rp0 : Option Nat) (xp1 : Int32) (xp2 : Int32) (rp3 : Option Nat) (h : ql_H) (Q : Int32 → ql_H → Prop) : Prop :=
ql_rv h rp0 12 fun b1 => qw_X11_lengthOn b1 xp1 xp2 h (fun x1 h =>
ql_sJ h rp3 (0 : Int32) x1.toInt64 fun h =>
Q (0 : Int32) h) (fun E h => if E = "java/util/NoSuchElementException" then (Q (1 : Int32) h) else False)
set_option maxHeartbeats 4000000 in
set_option maxRecDepth 100000 in
theorem qm_L_lengthOn (l : Launch) (hl9 : l.stackTraces = false) (D : ql_D) (h0 : ql_H) (rp0 : Option Nat) (xp1 : Int32) (xp2 : Int32) (rp3 : Option Nat) (Q : Int32 → ql_H → Prop) (X : String → ql_H → Prop) (w : qw_L_lengthOn rp0 xp1 xp2 rp3 h0 Q) : ql_MH D l yL_lengthOn cL_lengthOn 5 (some .int) [(0, 10, 13, 23)] ({ frames := 14, cells := 2, slots := 12, locals := 188 } : Room) h0 [va_rf rp0, .int xp1, .int xp2, va_rf rp3] (ql_rI Q) X 2 12 := by
  refine ql_ofWH (by decide) (by cases rp0 <;> cases rp3 <;> exact Nat.le_of_ble_eq_true rfl) ?_
  intro p e s m below meth c ls C hr hlocks hnm htab9 S hl
  rw [show lv_args 0 [va_rf rp0, .int xp1, .int xp2, va_rf rp3] = [(0, va_rf rp0), (1, .int xp1), (2, .int xp2), (3, va_rf rp3)] from by cases rp0 <;> cases rp3 <;> rfl] at hl
  unfold qw_L_lengthOn at w
  refine ql_aload_n (r := rp3) C dL_lengthOn_0 rfl (lv_at hl 3 rfl) ?_
  refine lv_iconst (v := (0 : Int32)) C.1.1 C.1.2.1 dL_lengthOn_1 (by decide) ?_
  refine ql_aload_n (r := rp0) C dL_lengthOn_2 rfl (lv_at hl 0 rfl) ?_
  refine lv_iload_n C.1.1 C.1.2.1 dL_lengthOn_3 rfl (lv_at hl 1 rfl) ?_
  refine lv_iload_n C.1.1 C.1.2.1 dL_lengthOn_4 rfl (lv_at hl 2 rfl) ?_
  refine ql_HVI (As := [.int xp1, .int xp2]) (rest := [.int (0 : Int32), va_rf rp3]) C S hl qy_X11_lengthOn qi_X11_lengthOn qs_X11_lengthOn gw_1072 (ci := 12) rfl w (fun b w => qm_X11_lengthOn l hl9 D _ b xp1 xp2 _ _ w) rfl ⟨Nat.le_of_ble_eq_true rfl, Nat.le_of_ble_eq_true rfl⟩ ⟨rfl, rfl⟩ (by generalize rp3 = z0; cases z0 <;> exact Nat.le_of_ble_eq_true rfl) (fun b e9 => by cases e9; rfl) dL_lengthOn_5 ⟨Nat.le_of_ble_eq_true rfl, Nat.le_of_ble_eq_true rfl⟩ (fun E ce q9 h H locs w S g1 g2 g3 => ?_) (fun x1 h H locs S w => ?_)
  · by_cases c9 : E = "java/util/NoSuchElementException"
    · replace w := ql_if w c9
      subst c9
      refine ql_catch C htab9 [] (0, 10, 13, 23) [] rfl (fun z hz => nomatch hz) rfl (by decide) gw_804 (by decide +kernel) g1 g2 g3 (tgt := 13) rfl ?_
      refine ql_astore (lv' := [(4, va_rf (some q9)), (0, va_rf rp0), (1, .int xp1), (2, .int xp2), (3, va_rf rp3)]) C dL_lengthOn_13 hl (by decide) (by generalize rp3 = z9; cases z9 <;> rfl) (fun ls hl => ?_)
      refine lv_iconst (v := (1 : Int32)) C.1.1 C.1.2.1 dL_lengthOn_15 (by decide) ?_
      exact ql_iret C S hr hlocks dL_lengthOn_16 ⟨Nat.le_of_ble_eq_true rfl, Nat.le_of_ble_eq_true rfl⟩ w
    replace w := ql_ifn w c9
    clear c9
    exact w.elim
  refine W.cs (cells' := 2) (slots' := 12) rfl rfl ?_
  refine lv_i2l C.1.1 C.1.2.1 dL_lengthOn_8 rfl ?_
  refine ql_last C S dL_lengthOn_9 w (fun h H locs S w => ?_)
  refine lv_goto (tgt := 17) C.1.1 C.1.2.1 dL_lengthOn_10 (by decide) ?_
  refine lv_iconst (v := (0 : Int32)) C.1.1 C.1.2.1 dL_lengthOn_17 (by decide) ?_
  exact ql_iret C S hr hlocks dL_lengthOn_18 ⟨Nat.le_of_ble_eq_true rfl, Nat.le_of_ble_eq_true rfl⟩ w
def qw_L_noteOn (rp0 : Option Nat) (xp1 : Int32) (xp2 : Int32) (xp3 : Int32) (rp4 : Option Nat) (h : ql_H) (Q : Int32 → ql_H → Prop) : Prop :=
ql_rv h rp0 12 fun b1 => qw_X11_noteOn b1 xp1 xp2 xp3 h (fun x1 h =>
ql_sJ h rp4 (0 : Int32) x1.toInt64 fun h =>
Q (0 : Int32) h) (fun E h => if E = "java/util/NoSuchElementException" then (Q (1 : Int32) h) else if E = "java/lang/IndexOutOfBoundsException" then (Q (2 : Int32) h) else False)
set_option maxHeartbeats 4000000 in
set_option maxRecDepth 100000 in
theorem qm_L_noteOn (l : Launch) (hl9 : l.stackTraces = false) (D : ql_D) (h0 : ql_H) (rp0 : Option Nat) (xp1 : Int32) (xp2 : Int32) (xp3 : Int32) (rp4 : Option Nat) (Q : Int32 → ql_H → Prop) (X : String → ql_H → Prop) (w : qw_L_noteOn rp0 xp1 xp2 xp3 rp4 h0 Q) : ql_MH D l yL_noteOn cL_noteOn 6 (some .int) [(0, 12, 15, 23), (0, 12, 19, 25)] ({ frames := 14, cells := 3, slots := 18, locals := 189 } : Room) h0 [va_rf rp0, .int xp1, .int xp2, .int xp3, va_rf rp4] (ql_rI Q) X 3 18 := by
  refine ql_ofWH (by decide) (by cases rp0 <;> cases rp4 <;> exact Nat.le_of_ble_eq_true rfl) ?_
  intro p e s m below meth c ls C hr hlocks hnm htab9 S hl
  rw [show lv_args 0 [va_rf rp0, .int xp1, .int xp2, .int xp3, va_rf rp4] = [(0, va_rf rp0), (1, .int xp1), (2, .int xp2), (3, .int xp3), (4, va_rf rp4)] from by cases rp0 <;> cases rp4 <;> rfl] at hl
  unfold qw_L_noteOn at w
  refine ql_aload (r := rp4) C dL_noteOn_0 (lv_at hl 4 rfl) ?_
  refine lv_iconst (v := (0 : Int32)) C.1.1 C.1.2.1 dL_noteOn_2 (by decide) ?_
  refine ql_aload_n (r := rp0) C dL_noteOn_3 rfl (lv_at hl 0 rfl) ?_
  refine lv_iload_n C.1.1 C.1.2.1 dL_noteOn_4 rfl (lv_at hl 1 rfl) ?_
  refine lv_iload_n C.1.1 C.1.2.1 dL_noteOn_5 rfl (lv_at hl 2 rfl) ?_
  refine lv_iload_n C.1.1 C.1.2.1 dL_noteOn_6 rfl (lv_at hl 3 rfl) ?_
  refine ql_HVI (As := [.int xp1, .int xp2, .int xp3]) (rest := [.int (0 : Int32), va_rf rp4]) C S hl qy_X11_noteOn qi_X11_noteOn qs_X11_noteOn gw_1082 (ci := 12) rfl w (fun b w => qm_X11_noteOn l hl9 D _ b xp1 xp2 xp3 _ _ w) rfl ⟨Nat.le_of_ble_eq_true rfl, Nat.le_of_ble_eq_true rfl⟩ ⟨rfl, rfl⟩ (by generalize rp4 = z0; cases z0 <;> exact Nat.le_of_ble_eq_true rfl) (fun b e9 => by cases e9; rfl) dL_noteOn_7 ⟨Nat.le_of_ble_eq_true rfl, Nat.le_of_ble_eq_true rfl⟩ (fun E ce q9 h H locs w S g1 g2 g3 => ?_) (fun x1 h H locs S w => ?_)
  · by_cases c9 : E = "java/util/NoSuchElementException"
    · replace w := ql_if w c9
      subst c9
      refine ql_catch C htab9 [] (0, 12, 15, 23) [(0, 12, 19, 25)] rfl (fun z hz => nomatch hz) rfl (by decide) gw_804 (by decide +kernel) g1 g2 g3 (tgt := 15) rfl ?_
      refine ql_astore (lv' := [(5, va_rf (some q9)), (0, va_rf rp0), (1, .int xp1), (2, .int xp2), (3, .int xp3), (4, va_rf rp4)]) C dL_noteOn_15 hl (by decide) (by generalize rp4 = z9; cases z9 <;> rfl) (fun ls hl => ?_)
      refine lv_iconst (v := (1 : Int32)) C.1.1 C.1.2.1 dL_noteOn_17 (by decide) ?_
      exact ql_iret C S hr hlocks dL_noteOn_18 ⟨Nat.le_of_ble_eq_true rfl, Nat.le_of_ble_eq_true rfl⟩ w
    replace w := ql_ifn w c9
    clear c9
    by_cases c9 : E = "java/lang/IndexOutOfBoundsException"
    · replace w := ql_if w c9
      subst c9
      refine ql_catch C htab9 [(0, 12, 15, 23)] (0, 12, 19, 25) [] rfl (fun z hz => by rcases (show z = (0, 12, 15, 23) by simpa using hz) with rfl <;> first | exact ⟨by decide, _, gw_804, by decide +kernel⟩) rfl (by decide) gw_805 (by decide +kernel) g1 g2 g3 (tgt := 19) rfl ?_
      refine ql_astore (lv' := [(5, va_rf (some q9)), (0, va_rf rp0), (1, .int xp1), (2, .int xp2), (3, .int xp3), (4, va_rf rp4)]) C dL_noteOn_19 hl (by decide) (by generalize rp4 = z9; cases z9 <;> rfl) (fun ls hl => ?_)
      refine lv_iconst (v := (2 : Int32)) C.1.1 C.1.2.1 dL_noteOn_21 (by decide) ?_
      exact ql_iret C S hr hlocks dL_noteOn_22 ⟨Nat.le_of_ble_eq_true rfl, Nat.le_of_ble_eq_true rfl⟩ w
    replace w := ql_ifn w c9
    clear c9
    exact w.elim
  refine W.cs (cells' := 3) (slots' := 18) rfl rfl ?_
  refine lv_i2l C.1.1 C.1.2.1 dL_noteOn_10 rfl ?_
  refine ql_last C S dL_noteOn_11 w (fun h H locs S w => ?_)
  refine lv_goto (tgt := 23) C.1.1 C.1.2.1 dL_noteOn_12 (by decide) ?_
  refine lv_iconst (v := (0 : Int32)) C.1.1 C.1.2.1 dL_noteOn_23 (by decide) ?_
  exact ql_iret C S hr hlocks dL_noteOn_24 ⟨Nat.le_of_ble_eq_true rfl, Nat.le_of_ble_eq_true rfl⟩ w
def qw_L_difference (rp0 : Option Nat) (xp1 : Int32) (xp2 : Int32) (xp3 : Int32) (rp4 : Option Nat) (h : ql_H) (Q : Int32 → ql_H → Prop) : Prop :=
ql_rv h rp0 12 fun b1 => qw_X11_difference b1 xp1 xp2 xp3 h (fun x1 h =>
ql_sJ h rp4 (0 : Int32) x1.toInt64 fun h =>
Q (0 : Int32) h) (fun E h => if E = "java/util/NoSuchElementException" then (Q (1 : Int32) h) else False)
set_option maxHeartbeats 4000000 in
set_option maxRecDepth 100000 in
theorem qm_L_difference (l : Launch) (hl9 : l.stackTraces = false) (D : ql_D) (h0 : ql_H) (rp0 : Option Nat) (xp1 : Int32) (xp2 : Int32) (xp3 : Int32) (rp4 : Option Nat) (Q : Int32 → ql_H → Prop) (X : String → ql_H → Prop) (w : qw_L_difference rp0 xp1 xp2 xp3 rp4 h0 Q) : ql_MH D l yL_difference cL_difference 6 (some .int) [(0, 12, 15, 23)] ({ frames := 14, cells := 3, slots := 18, locals := 190 } : Room) h0 [va_rf rp0, .int xp1, .int xp2, .int xp3, va_rf rp4] (ql_rI Q) X 3 18 := by
  refine ql_ofWH (by decide) (by cases rp0 <;> cases rp4 <;> exact Nat.le_of_ble_eq_true rfl) ?_
  intro p e s m below meth c ls C hr hlocks hnm htab9 S hl
  rw [show lv_args 0 [va_rf rp0, .int xp1, .int xp2, .int xp3, va_rf rp4] = [(0, va_rf rp0), (1, .int xp1), (2, .int xp2), (3, .int xp3), (4, va_rf rp4)] from by cases rp0 <;> cases rp4 <;> rfl] at hl
  unfold qw_L_difference at w
  refine ql_aload (r := rp4) C dL_difference_0 (lv_at hl 4 rfl) ?_
  refine lv_iconst (v := (0 : Int32)) C.1.1 C.1.2.1 dL_difference_2 (by decide) ?_
  refine ql_aload_n (r := rp0) C dL_difference_3 rfl (lv_at hl 0 rfl) ?_
  refine lv_iload_n C.1.1 C.1.2.1 dL_difference_4 rfl (lv_at hl 1 rfl) ?_
  refine lv_iload_n C.1.1 C.1.2.1 dL_difference_5 rfl (lv_at hl 2 rfl) ?_
  refine lv_iload_n C.1.1 C.1.2.1 dL_difference_6 rfl (lv_at hl 3 rfl) ?_
  refine ql_HVI (As := [.int xp1, .int xp2, .int xp3]) (rest := [.int (0 : Int32), va_rf rp4]) C S hl qy_X11_difference qi_X11_difference qs_X11_difference gw_1089 (ci := 12) rfl w (fun b w => qm_X11_difference l hl9 D _ b xp1 xp2 xp3 _ _ w) rfl ⟨Nat.le_of_ble_eq_true rfl, Nat.le_of_ble_eq_true rfl⟩ ⟨rfl, rfl⟩ (by generalize rp4 = z0; cases z0 <;> exact Nat.le_of_ble_eq_true rfl) (fun b e9 => by cases e9; rfl) dL_difference_7 ⟨Nat.le_of_ble_eq_true rfl, Nat.le_of_ble_eq_true rfl⟩ (fun E ce q9 h H locs w S g1 g2 g3 => ?_) (fun x1 h H locs S w => ?_)
  · by_cases c9 : E = "java/util/NoSuchElementException"
    · replace w := ql_if w c9
      subst c9
      refine ql_catch C htab9 [] (0, 12, 15, 23) [] rfl (fun z hz => nomatch hz) rfl (by decide) gw_804 (by decide +kernel) g1 g2 g3 (tgt := 15) rfl ?_
      refine ql_astore (lv' := [(5, va_rf (some q9)), (0, va_rf rp0), (1, .int xp1), (2, .int xp2), (3, .int xp3), (4, va_rf rp4)]) C dL_difference_15 hl (by decide) (by generalize rp4 = z9; cases z9 <;> rfl) (fun ls hl => ?_)
      refine lv_iconst (v := (1 : Int32)) C.1.1 C.1.2.1 dL_difference_17 (by decide) ?_
      exact ql_iret C S hr hlocks dL_difference_18 ⟨Nat.le_of_ble_eq_true rfl, Nat.le_of_ble_eq_true rfl⟩ w
    replace w := ql_ifn w c9
    clear c9
    exact w.elim
  refine W.cs (cells' := 3) (slots' := 18) rfl rfl ?_
  refine lv_i2l C.1.1 C.1.2.1 dL_difference_10 rfl ?_
  refine ql_last C S dL_difference_11 w (fun h H locs S w => ?_)
  refine lv_goto (tgt := 19) C.1.1 C.1.2.1 dL_difference_12 (by decide) ?_
  refine lv_iconst (v := (0 : Int32)) C.1.1 C.1.2.1 dL_difference_19 (by decide) ?_
  exact ql_iret C S hr hlocks dL_difference_20 ⟨Nat.le_of_ble_eq_true rfl, Nat.le_of_ble_eq_true rfl⟩ w
def qw_L_differenceByEnds (rp0 : Option Nat) (xp1 : Int32) (xp2 : Int32) (xp3 : Int32) (rp4 : Option Nat) (h : ql_H) (Q : Int32 → ql_H → Prop) : Prop :=
ql_rv h rp0 12 fun b1 => qw_X11_differenceByEnds b1 xp1 xp2 xp3 h (fun x1 h =>
ql_sJ h rp4 (0 : Int32) x1.toInt64 fun h =>
Q (0 : Int32) h) (fun E h => if E = "java/util/NoSuchElementException" then (Q (1 : Int32) h) else False)
set_option maxHeartbeats 4000000 in
set_option maxRecDepth 100000 in
theorem qm_L_differenceByEnds (l : Launch) (hl9 : l.stackTraces = false) (D : ql_D) (h0 : ql_H) (rp0 : Option Nat) (xp1 : Int32) (xp2 : Int32) (xp3 : Int32) (rp4 : Option Nat) (Q : Int32 → ql_H → Prop) (X : String → ql_H → Prop) (w : qw_L_differenceByEnds rp0 xp1 xp2 xp3 rp4 h0 Q) : ql_MH D l yL_differenceByEnds cL_differenceByEnds 6 (some .int) [(0, 12, 15, 23)] ({ frames := 14, cells := 3, slots := 18, locals := 190 } : Room) h0 [va_rf rp0, .int xp1, .int xp2, .int xp3, va_rf rp4] (ql_rI Q) X 3 18 := by
  refine ql_ofWH (by decide) (by cases rp0 <;> cases rp4 <;> exact Nat.le_of_ble_eq_true rfl) ?_
  intro p e s m below meth c ls C hr hlocks hnm htab9 S hl
  rw [show lv_args 0 [va_rf rp0, .int xp1, .int xp2, .int xp3, va_rf rp4] = [(0, va_rf rp0), (1, .int xp1), (2, .int xp2), (3, .int xp3), (4, va_rf rp4)] from by cases rp0 <;> cases rp4 <;> rfl] at hl
  unfold qw_L_differenceByEnds at w
  refine ql_aload (r := rp4) C dL_differenceByEnds_0 (lv_at hl 4 rfl) ?_
  refine lv_iconst (v := (0 : Int32)) C.1.1 C.1.2.1 dL_differenceByEnds_2 (by decide) ?_
  refine ql_aload_n (r := rp0) C dL_differenceByEnds_3 rfl (lv_at hl 0 rfl) ?_
  refine lv_iload_n C.1.1 C.1.2.1 dL_differenceByEnds_4 rfl (lv_at hl 1 rfl) ?_
  refine lv_iload_n C.1.1 C.1.2.1 dL_differenceByEnds_5 rfl (lv_at hl 2 rfl) ?_
  refine lv_iload_n C.1.1 C.1.2.1 dL_differenceByEnds_6 rfl (lv_at hl 3 rfl) ?_
  refine ql_HVI (As := [.int xp1, .int xp2, .int xp3]) (rest := [.int (0 : Int32), va_rf rp4]) C S hl qy_X11_differenceByEnds qi_X11_differenceByEnds qs_X11_differenceByEnds gw_1096 (ci := 12) rfl w (fun b w => qm_X11_differenceByEnds l hl9 D _ b xp1 xp2 xp3 _ _ w) rfl ⟨Nat.le_of_ble_eq_true rfl, Nat.le_of_ble_eq_true rfl⟩ ⟨rfl, rfl⟩ (by generalize rp4 = z0; cases z0 <;> exact Nat.le_of_ble_eq_true rfl) (fun b e9 => by cases e9; rfl) dL_differenceByEnds_7 ⟨Nat.le_of_ble_eq_true rfl, Nat.le_of_ble_eq_true rfl⟩ (fun E ce q9 h H locs w S g1 g2 g3 => ?_) (fun x1 h H locs S w => ?_)
  · by_cases c9 : E = "java/util/NoSuchElementException"
    · replace w := ql_if w c9
      subst c9
      refine ql_catch C htab9 [] (0, 12, 15, 23) [] rfl (fun z hz => nomatch hz) rfl (by decide) gw_804 (by decide +kernel) g1 g2 g3 (tgt := 15) rfl ?_
      refine ql_astore (lv' := [(5, va_rf (some q9)), (0, va_rf rp0), (1, .int xp1), (2, .int xp2), (3, .int xp3), (4, va_rf rp4)]) C dL_differenceByEnds_15 hl (by decide) (by generalize rp4 = z9; cases z9 <;> rfl) (fun ls hl => ?_)
      refine lv_iconst (v := (1 : Int32)) C.1.1 C.1.2.1 dL_differenceByEnds_17 (by decide) ?_
      exact ql_iret C S hr hlocks dL_differenceByEnds_18 ⟨Nat.le_of_ble_eq_true rfl, Nat.le_of_ble_eq_true rfl⟩ w
    replace w := ql_ifn w c9
    clear c9
    exact w.elim
  refine W.cs (cells' := 3) (slots' := 18) rfl rfl ?_
  refine lv_i2l C.1.1 C.1.2.1 dL_differenceByEnds_10 rfl ?_
  refine ql_last C S dL_differenceByEnds_11 w (fun h H locs S w => ?_)
  refine lv_goto (tgt := 19) C.1.1 C.1.2.1 dL_differenceByEnds_12 (by decide) ?_
  refine lv_iconst (v := (0 : Int32)) C.1.1 C.1.2.1 dL_differenceByEnds_19 (by decide) ?_
  exact ql_iret C S hr hlocks dL_differenceByEnds_20 ⟨Nat.le_of_ble_eq_true rfl, Nat.le_of_ble_eq_true rfl⟩ w
def qw_L_citeCount (rp0 : Option Nat) (xp1 : Int32) (rp2 : Option Nat) (h : ql_H) (Q : Int32 → ql_H → Prop) : Prop :=
ql_rv h rp0 12 fun b1 => qw_X11_citeCount b1 xp1 h (fun x1 h =>
ql_sJ h rp2 (0 : Int32) x1.toInt64 fun h =>
Q (0 : Int32) h) (fun E h => if E = "java/util/NoSuchElementException" then (Q (1 : Int32) h) else False)
set_option maxHeartbeats 4000000 in
set_option maxRecDepth 100000 in
theorem qm_L_citeCount (l : Launch) (hl9 : l.stackTraces = false) (D : ql_D) (h0 : ql_H) (rp0 : Option Nat) (xp1 : Int32) (rp2 : Option Nat) (Q : Int32 → ql_H → Prop) (X : String → ql_H → Prop) (w : qw_L_citeCount rp0 xp1 rp2 h0 Q) : ql_MH D l yL_citeCount cL_citeCount 4 (some .int) [(0, 9, 12, 23)] ({ frames := 14, cells := 1, slots := 6, locals := 187 } : Room) h0 [va_rf rp0, .int xp1, va_rf rp2] (ql_rI Q) X 1 6 := by
  refine ql_ofWH (by decide) (by cases rp0 <;> cases rp2 <;> exact Nat.le_of_ble_eq_true rfl) ?_
  intro p e s m below meth c ls C hr hlocks hnm htab9 S hl
  rw [show lv_args 0 [va_rf rp0, .int xp1, va_rf rp2] = [(0, va_rf rp0), (1, .int xp1), (2, va_rf rp2)] from by cases rp0 <;> cases rp2 <;> rfl] at hl
  unfold qw_L_citeCount at w
  refine ql_aload_n (r := rp2) C dL_citeCount_0 rfl (lv_at hl 2 rfl) ?_
  refine lv_iconst (v := (0 : Int32)) C.1.1 C.1.2.1 dL_citeCount_1 (by decide) ?_
  refine ql_aload_n (r := rp0) C dL_citeCount_2 rfl (lv_at hl 0 rfl) ?_
  refine lv_iload_n C.1.1 C.1.2.1 dL_citeCount_3 rfl (lv_at hl 1 rfl) ?_
  refine ql_HVI (As := [.int xp1]) (rest := [.int (0 : Int32), va_rf rp2]) C S hl qy_X11_citeCount qi_X11_citeCount qs_X11_citeCount gw_1103 (ci := 12) rfl w (fun b w => qm_X11_citeCount l hl9 D _ b xp1 _ _ w) rfl ⟨Nat.le_of_ble_eq_true rfl, Nat.le_of_ble_eq_true rfl⟩ ⟨rfl, rfl⟩ (by generalize rp2 = z0; cases z0 <;> exact Nat.le_of_ble_eq_true rfl) (fun b e9 => by cases e9; rfl) dL_citeCount_4 ⟨Nat.le_of_ble_eq_true rfl, Nat.le_of_ble_eq_true rfl⟩ (fun E ce q9 h H locs w S g1 g2 g3 => ?_) (fun x1 h H locs S w => ?_)
  · by_cases c9 : E = "java/util/NoSuchElementException"
    · replace w := ql_if w c9
      subst c9
      refine ql_catch C htab9 [] (0, 9, 12, 23) [] rfl (fun z hz => nomatch hz) rfl (by decide) gw_804 (by decide +kernel) g1 g2 g3 (tgt := 12) rfl ?_
      refine ql_astore_n (lv' := [(3, va_rf (some q9)), (0, va_rf rp0), (1, .int xp1), (2, va_rf rp2)]) C dL_citeCount_12 rfl hl (by decide) (by generalize rp2 = z9; cases z9 <;> rfl) (fun ls hl => ?_)
      refine lv_iconst (v := (1 : Int32)) C.1.1 C.1.2.1 dL_citeCount_13 (by decide) ?_
      exact ql_iret C S hr hlocks dL_citeCount_14 ⟨Nat.le_of_ble_eq_true rfl, Nat.le_of_ble_eq_true rfl⟩ w
    replace w := ql_ifn w c9
    clear c9
    exact w.elim
  refine W.cs (cells' := 1) (slots' := 6) rfl rfl ?_
  refine lv_i2l C.1.1 C.1.2.1 dL_citeCount_7 rfl ?_
  refine ql_last C S dL_citeCount_8 w (fun h H locs S w => ?_)
  refine lv_goto (tgt := 15) C.1.1 C.1.2.1 dL_citeCount_9 (by decide) ?_
  refine lv_iconst (v := (0 : Int32)) C.1.1 C.1.2.1 dL_citeCount_15 (by decide) ?_
  exact ql_iret C S hr hlocks dL_citeCount_16 ⟨Nat.le_of_ble_eq_true rfl, Nat.le_of_ble_eq_true rfl⟩ w
def qw_L_citeAt (rp0 : Option Nat) (xp1 : Int32) (xp2 : Int32) (rp3 : Option Nat) (h : ql_H) (Q : Int32 → ql_H → Prop) : Prop :=
ql_rv h rp0 12 fun b1 => qw_X11_citeAt b1 xp1 xp2 h (fun x1 h =>
ql_sJ h rp3 (0 : Int32) x1.toInt64 fun h =>
Q (0 : Int32) h) (fun E h => if E = "java/util/NoSuchElementException" then (Q (1 : Int32) h) else if E = "java/lang/IndexOutOfBoundsException" then (Q (2 : Int32) h) else False)
set_option maxHeartbeats 4000000 in
set_option maxRecDepth 100000 in
theorem qm_L_citeAt (l : Launch) (hl9 : l.stackTraces = false) (D : ql_D) (h0 : ql_H) (rp0 : Option Nat) (xp1 : Int32) (xp2 : Int32) (rp3 : Option Nat) (Q : Int32 → ql_H → Prop) (X : String → ql_H → Prop) (w : qw_L_citeAt rp0 xp1 xp2 rp3 h0 Q) : ql_MH D l yL_citeAt cL_citeAt 5 (some .int) [(0, 10, 13, 23), (0, 10, 17, 25)] ({ frames := 14, cells := 2, slots := 12, locals := 189 } : Room) h0 [va_rf rp0, .int xp1, .int xp2, va_rf rp3] (ql_rI Q) X 2 12 := by
  refine ql_ofWH (by decide) (by cases rp0 <;> cases rp3 <;> exact Nat.le_of_ble_eq_true rfl) ?_
  intro p e s m below meth c ls C hr hlocks hnm htab9 S hl
  rw [show lv_args 0 [va_rf rp0, .int xp1, .int xp2, va_rf rp3] = [(0, va_rf rp0), (1, .int xp1), (2, .int xp2), (3, va_rf rp3)] from by cases rp0 <;> cases rp3 <;> rfl] at hl
  unfold qw_L_citeAt at w
  refine ql_aload_n (r := rp3) C dL_citeAt_0 rfl (lv_at hl 3 rfl) ?_
  refine lv_iconst (v := (0 : Int32)) C.1.1 C.1.2.1 dL_citeAt_1 (by decide) ?_
  refine ql_aload_n (r := rp0) C dL_citeAt_2 rfl (lv_at hl 0 rfl) ?_
  refine lv_iload_n C.1.1 C.1.2.1 dL_citeAt_3 rfl (lv_at hl 1 rfl) ?_
  refine lv_iload_n C.1.1 C.1.2.1 dL_citeAt_4 rfl (lv_at hl 2 rfl) ?_
  refine ql_HVI (As := [.int xp1, .int xp2]) (rest := [.int (0 : Int32), va_rf rp3]) C S hl qy_X11_citeAt qi_X11_citeAt qs_X11_citeAt gw_1111 (ci := 12) rfl w (fun b w => qm_X11_citeAt l hl9 D _ b xp1 xp2 _ _ w) rfl ⟨Nat.le_of_ble_eq_true rfl, Nat.le_of_ble_eq_true rfl⟩ ⟨rfl, rfl⟩ (by generalize rp3 = z0; cases z0 <;> exact Nat.le_of_ble_eq_true rfl) (fun b e9 => by cases e9; rfl) dL_citeAt_5 ⟨Nat.le_of_ble_eq_true rfl, Nat.le_of_ble_eq_true rfl⟩ (fun E ce q9 h H locs w S g1 g2 g3 => ?_) (fun x1 h H locs S w => ?_)
  · by_cases c9 : E = "java/util/NoSuchElementException"
    · replace w := ql_if w c9
      subst c9
      refine ql_catch C htab9 [] (0, 10, 13, 23) [(0, 10, 17, 25)] rfl (fun z hz => nomatch hz) rfl (by decide) gw_804 (by decide +kernel) g1 g2 g3 (tgt := 13) rfl ?_
      refine ql_astore (lv' := [(4, va_rf (some q9)), (0, va_rf rp0), (1, .int xp1), (2, .int xp2), (3, va_rf rp3)]) C dL_citeAt_13 hl (by decide) (by generalize rp3 = z9; cases z9 <;> rfl) (fun ls hl => ?_)
      refine lv_iconst (v := (1 : Int32)) C.1.1 C.1.2.1 dL_citeAt_15 (by decide) ?_
      exact ql_iret C S hr hlocks dL_citeAt_16 ⟨Nat.le_of_ble_eq_true rfl, Nat.le_of_ble_eq_true rfl⟩ w
    replace w := ql_ifn w c9
    clear c9
    by_cases c9 : E = "java/lang/IndexOutOfBoundsException"
    · replace w := ql_if w c9
      subst c9
      refine ql_catch C htab9 [(0, 10, 13, 23)] (0, 10, 17, 25) [] rfl (fun z hz => by rcases (show z = (0, 10, 13, 23) by simpa using hz) with rfl <;> first | exact ⟨by decide, _, gw_804, by decide +kernel⟩) rfl (by decide) gw_805 (by decide +kernel) g1 g2 g3 (tgt := 17) rfl ?_
      refine ql_astore (lv' := [(4, va_rf (some q9)), (0, va_rf rp0), (1, .int xp1), (2, .int xp2), (3, va_rf rp3)]) C dL_citeAt_17 hl (by decide) (by generalize rp3 = z9; cases z9 <;> rfl) (fun ls hl => ?_)
      refine lv_iconst (v := (2 : Int32)) C.1.1 C.1.2.1 dL_citeAt_19 (by decide) ?_
      exact ql_iret C S hr hlocks dL_citeAt_20 ⟨Nat.le_of_ble_eq_true rfl, Nat.le_of_ble_eq_true rfl⟩ w
    replace w := ql_ifn w c9
    clear c9
    exact w.elim
  refine W.cs (cells' := 2) (slots' := 12) rfl rfl ?_
  refine lv_i2l C.1.1 C.1.2.1 dL_citeAt_8 rfl ?_
  refine ql_last C S dL_citeAt_9 w (fun h H locs S w => ?_)
  refine lv_goto (tgt := 21) C.1.1 C.1.2.1 dL_citeAt_10 (by decide) ?_
  refine lv_iconst (v := (0 : Int32)) C.1.1 C.1.2.1 dL_citeAt_21 (by decide) ?_
  exact ql_iret C S hr hlocks dL_citeAt_22 ⟨Nat.le_of_ble_eq_true rfl, Nat.le_of_ble_eq_true rfl⟩ w
def qw_L_citesIndirectly_16 (Q : Int32 → ql_H → Prop) (rs0 : Option Nat) (xs1 : Int32) (js2 : Int64) (h : ql_H) : Prop :=
ql_sJ h rs0 xs1 js2 fun h =>
Q (0 : Int32) h
def qw_L_citesIndirectly (rp0 : Option Nat) (xp1 : Int32) (xp2 : Int32) (rp3 : Option Nat) (h : ql_H) (Q : Int32 → ql_H → Prop) : Prop :=
ql_rv h rp0 12 fun b1 => qw_X11_citesIndirectly b1 xp1 xp2 h (fun x1 h =>
if x1 = 0 then (qw_L_citesIndirectly_16 Q rp3 (0 : Int32) (0 : Int64) h) else (qw_L_citesIndirectly_16 Q rp3 (0 : Int32) (1 : Int64) h)) (fun E h => if E = "java/util/NoSuchElementException" then (Q (1 : Int32) h) else False)
set_option maxHeartbeats 4000000 in
set_option maxRecDepth 100000 in
theorem qm_L_citesIndirectly (l : Launch) (hl9 : l.stackTraces = false) (D : ql_D) (h0 : ql_H) (rp0 : Option Nat) (xp1 : Int32) (xp2 : Int32) (rp3 : Option Nat) (Q : Int32 → ql_H → Prop) (X : String → ql_H → Prop) (w : qw_L_citesIndirectly rp0 xp1 xp2 rp3 h0 Q) : ql_MH D l yL_citesIndirectly cL_citesIndirectly 5 (some .int) [(0, 17, 20, 23)] ({ frames := 12, cells := 2, slots := 12, locals := 174 } : Room) h0 [va_rf rp0, .int xp1, .int xp2, va_rf rp3] (ql_rI Q) X 2 12 := by
  refine ql_ofWH (by decide) (by cases rp0 <;> cases rp3 <;> exact Nat.le_of_ble_eq_true rfl) ?_
  intro p e s m below meth c ls C hr hlocks hnm htab9 S hl
  rw [show lv_args 0 [va_rf rp0, .int xp1, .int xp2, va_rf rp3] = [(0, va_rf rp0), (1, .int xp1), (2, .int xp2), (3, va_rf rp3)] from by cases rp0 <;> cases rp3 <;> rfl] at hl
  have hB16 : ∀ (rs0 : Option Nat) (xs1 : Int32) (js2 : Int64) (h : ql_H) (H : Heap) (locs : List Loc) (ls : Array Slot), ql_S D h0 s H locs h → lv_has ls 5 [] → qw_L_citesIndirectly_16 Q rs0 xs1 js2 h → W p l e ({ frames := 12, cells := 2, slots := 12, locals := 174 } : Room) s m ([va_rf rp0, .int xp1, .int xp2, va_rf rp3] : List Value).toArray below meth c H locs 2 12 (vx_MQ below (ql_Q D h0 (ql_rI Q)) (ql_X D h0 X) ([va_rf rp0, .int xp1, .int xp2, va_rf rp3] : List Value).toArray s 2 12 (ql_A h0)) (F0 m 16 ls [.long js2, .int xs1, va_rf rs0]) := by
    intro rs0 xs1 js2 h H locs ls S hl w
    unfold qw_L_citesIndirectly_16 at w
    refine ql_last C S dL_citesIndirectly_16 w (fun h H locs S w => ?_)
    refine lv_goto (tgt := 24) C.1.1 C.1.2.1 dL_citesIndirectly_17 (by decide) ?_
    refine lv_iconst (v := (0 : Int32)) C.1.1 C.1.2.1 dL_citesIndirectly_24 (by decide) ?_
    exact ql_iret C S hr hlocks dL_citesIndirectly_25 ⟨Nat.le_of_ble_eq_true rfl, Nat.le_of_ble_eq_true rfl⟩ w
  unfold qw_L_citesIndirectly at w
  refine ql_aload_n (r := rp3) C dL_citesIndirectly_0 rfl (lv_at hl 3 rfl) ?_
  refine lv_iconst (v := (0 : Int32)) C.1.1 C.1.2.1 dL_citesIndirectly_1 (by decide) ?_
  refine ql_aload_n (r := rp0) C dL_citesIndirectly_2 rfl (lv_at hl 0 rfl) ?_
  refine lv_iload_n C.1.1 C.1.2.1 dL_citesIndirectly_3 rfl (lv_at hl 1 rfl) ?_
  refine lv_iload_n C.1.1 C.1.2.1 dL_citesIndirectly_4 rfl (lv_at hl 2 rfl) ?_
  refine ql_HVI (As := [.int xp1, .int xp2]) (rest := [.int (0 : Int32), va_rf rp3]) C S hl qy_X11_citesIndirectly qi_X11_citesIndirectly qs_X11_citesIndirectly gw_1119 (ci := 12) rfl w (fun b w => qm_X11_citesIndirectly l hl9 D _ b xp1 xp2 _ _ w) rfl ⟨Nat.le_of_ble_eq_true rfl, Nat.le_of_ble_eq_true rfl⟩ ⟨rfl, rfl⟩ (by generalize rp3 = z0; cases z0 <;> exact Nat.le_of_ble_eq_true rfl) (fun b e9 => by cases e9; rfl) dL_citesIndirectly_5 ⟨Nat.le_of_ble_eq_true rfl, Nat.le_of_ble_eq_true rfl⟩ (fun E ce q9 h H locs w S g1 g2 g3 => ?_) (fun x1 h H locs S w => ?_)
  · by_cases c9 : E = "java/util/NoSuchElementException"
    · replace w := ql_if w c9
      subst c9
      refine ql_catch C htab9 [] (0, 17, 20, 23) [] rfl (fun z hz => nomatch hz) rfl (by decide) gw_804 (by decide +kernel) g1 g2 g3 (tgt := 20) rfl ?_
      refine ql_astore (lv' := [(4, va_rf (some q9)), (0, va_rf rp0), (1, .int xp1), (2, .int xp2), (3, va_rf rp3)]) C dL_citesIndirectly_20 hl (by decide) (by generalize rp3 = z9; cases z9 <;> rfl) (fun ls hl => ?_)
      refine lv_iconst (v := (1 : Int32)) C.1.1 C.1.2.1 dL_citesIndirectly_22 (by decide) ?_
      exact ql_iret C S hr hlocks dL_citesIndirectly_23 ⟨Nat.le_of_ble_eq_true rfl, Nat.le_of_ble_eq_true rfl⟩ w
    replace w := ql_ifn w c9
    clear c9
    exact w.elim
  refine W.cs (cells' := 2) (slots' := 12) rfl rfl ?_
  refine lv_if_eq (tgt := 15) C.1.1 C.1.2.1 dL_citesIndirectly_8 (by decide) (fun c9 => ?_) (fun c9 => ?_)
  · replace w := ql_if w c9
    refine lv_lconst (v := (0 : Int64)) C.1.1 C.1.2.1 dL_citesIndirectly_15 (by decide) ?_
    exact hB16 rp3 (0 : Int32) (0 : Int64) _ _ _ _ S (lv_sub hl [] rfl) w
  · replace w := ql_ifn w c9
    refine lv_lconst (v := (1 : Int64)) C.1.1 C.1.2.1 dL_citesIndirectly_11 (by decide) ?_
    refine lv_goto (tgt := 16) C.1.1 C.1.2.1 dL_citesIndirectly_12 (by decide) ?_
    exact hB16 rp3 (0 : Int32) (1 : Int64) _ _ _ _ S (lv_sub hl [] rfl) w
def qw_L_citesByClosure_16 (Q : Int32 → ql_H → Prop) (rs0 : Option Nat) (xs1 : Int32) (js2 : Int64) (h : ql_H) : Prop :=
ql_sJ h rs0 xs1 js2 fun h =>
Q (0 : Int32) h
def qw_L_citesByClosure (rp0 : Option Nat) (xp1 : Int32) (xp2 : Int32) (rp3 : Option Nat) (h : ql_H) (Q : Int32 → ql_H → Prop) : Prop :=
ql_rv h rp0 12 fun b1 => qw_X11_citesByClosure b1 xp1 xp2 h (fun x1 h =>
if x1 = 0 then (qw_L_citesByClosure_16 Q rp3 (0 : Int32) (0 : Int64) h) else (qw_L_citesByClosure_16 Q rp3 (0 : Int32) (1 : Int64) h)) (fun E h => if E = "java/util/NoSuchElementException" then (Q (1 : Int32) h) else False)
set_option maxHeartbeats 4000000 in
set_option maxRecDepth 100000 in
theorem qm_L_citesByClosure (l : Launch) (hl9 : l.stackTraces = false) (D : ql_D) (h0 : ql_H) (rp0 : Option Nat) (xp1 : Int32) (xp2 : Int32) (rp3 : Option Nat) (Q : Int32 → ql_H → Prop) (X : String → ql_H → Prop) (w : qw_L_citesByClosure rp0 xp1 xp2 rp3 h0 Q) : ql_MH D l yL_citesByClosure cL_citesByClosure 5 (some .int) [(0, 17, 20, 23)] ({ frames := 12, cells := 2, slots := 12, locals := 174 } : Room) h0 [va_rf rp0, .int xp1, .int xp2, va_rf rp3] (ql_rI Q) X 2 12 := by
  refine ql_ofWH (by decide) (by cases rp0 <;> cases rp3 <;> exact Nat.le_of_ble_eq_true rfl) ?_
  intro p e s m below meth c ls C hr hlocks hnm htab9 S hl
  rw [show lv_args 0 [va_rf rp0, .int xp1, .int xp2, va_rf rp3] = [(0, va_rf rp0), (1, .int xp1), (2, .int xp2), (3, va_rf rp3)] from by cases rp0 <;> cases rp3 <;> rfl] at hl
  have hB16 : ∀ (rs0 : Option Nat) (xs1 : Int32) (js2 : Int64) (h : ql_H) (H : Heap) (locs : List Loc) (ls : Array Slot), ql_S D h0 s H locs h → lv_has ls 5 [] → qw_L_citesByClosure_16 Q rs0 xs1 js2 h → W p l e ({ frames := 12, cells := 2, slots := 12, locals := 174 } : Room) s m ([va_rf rp0, .int xp1, .int xp2, va_rf rp3] : List Value).toArray below meth c H locs 2 12 (vx_MQ below (ql_Q D h0 (ql_rI Q)) (ql_X D h0 X) ([va_rf rp0, .int xp1, .int xp2, va_rf rp3] : List Value).toArray s 2 12 (ql_A h0)) (F0 m 16 ls [.long js2, .int xs1, va_rf rs0]) := by
    intro rs0 xs1 js2 h H locs ls S hl w
    unfold qw_L_citesByClosure_16 at w
    refine ql_last C S dL_citesByClosure_16 w (fun h H locs S w => ?_)
    refine lv_goto (tgt := 24) C.1.1 C.1.2.1 dL_citesByClosure_17 (by decide) ?_
    refine lv_iconst (v := (0 : Int32)) C.1.1 C.1.2.1 dL_citesByClosure_24 (by decide) ?_
    exact ql_iret C S hr hlocks dL_citesByClosure_25 ⟨Nat.le_of_ble_eq_true rfl, Nat.le_of_ble_eq_true rfl⟩ w
  unfold qw_L_citesByClosure at w
  refine ql_aload_n (r := rp3) C dL_citesByClosure_0 rfl (lv_at hl 3 rfl) ?_
  refine lv_iconst (v := (0 : Int32)) C.1.1 C.1.2.1 dL_citesByClosure_1 (by decide) ?_
  refine ql_aload_n (r := rp0) C dL_citesByClosure_2 rfl (lv_at hl 0 rfl) ?_
  refine lv_iload_n C.1.1 C.1.2.1 dL_citesByClosure_3 rfl (lv_at hl 1 rfl) ?_
  refine lv_iload_n C.1.1 C.1.2.1 dL_citesByClosure_4 rfl (lv_at hl 2 rfl) ?_
  refine ql_HVI (As := [.int xp1, .int xp2]) (rest := [.int (0 : Int32), va_rf rp3]) C S hl qy_X11_citesByClosure qi_X11_citesByClosure qs_X11_citesByClosure gw_1132 (ci := 12) rfl w (fun b w => qm_X11_citesByClosure l hl9 D _ b xp1 xp2 _ _ w) rfl ⟨Nat.le_of_ble_eq_true rfl, Nat.le_of_ble_eq_true rfl⟩ ⟨rfl, rfl⟩ (by generalize rp3 = z0; cases z0 <;> exact Nat.le_of_ble_eq_true rfl) (fun b e9 => by cases e9; rfl) dL_citesByClosure_5 ⟨Nat.le_of_ble_eq_true rfl, Nat.le_of_ble_eq_true rfl⟩ (fun E ce q9 h H locs w S g1 g2 g3 => ?_) (fun x1 h H locs S w => ?_)
  · by_cases c9 : E = "java/util/NoSuchElementException"
    · replace w := ql_if w c9
      subst c9
      refine ql_catch C htab9 [] (0, 17, 20, 23) [] rfl (fun z hz => nomatch hz) rfl (by decide) gw_804 (by decide +kernel) g1 g2 g3 (tgt := 20) rfl ?_
      refine ql_astore (lv' := [(4, va_rf (some q9)), (0, va_rf rp0), (1, .int xp1), (2, .int xp2), (3, va_rf rp3)]) C dL_citesByClosure_20 hl (by decide) (by generalize rp3 = z9; cases z9 <;> rfl) (fun ls hl => ?_)
      refine lv_iconst (v := (1 : Int32)) C.1.1 C.1.2.1 dL_citesByClosure_22 (by decide) ?_
      exact ql_iret C S hr hlocks dL_citesByClosure_23 ⟨Nat.le_of_ble_eq_true rfl, Nat.le_of_ble_eq_true rfl⟩ w
    replace w := ql_ifn w c9
    clear c9
    exact w.elim
  refine W.cs (cells' := 2) (slots' := 12) rfl rfl ?_
  refine lv_if_eq (tgt := 15) C.1.1 C.1.2.1 dL_citesByClosure_8 (by decide) (fun c9 => ?_) (fun c9 => ?_)
  · replace w := ql_if w c9
    refine lv_lconst (v := (0 : Int64)) C.1.1 C.1.2.1 dL_citesByClosure_15 (by decide) ?_
    exact hB16 rp3 (0 : Int32) (0 : Int64) _ _ _ _ S (lv_sub hl [] rfl) w
  · replace w := ql_ifn w c9
    refine lv_lconst (v := (1 : Int64)) C.1.1 C.1.2.1 dL_citesByClosure_11 (by decide) ?_
    refine lv_goto (tgt := 16) C.1.1 C.1.2.1 dL_citesByClosure_12 (by decide) ?_
    exact hB16 rp3 (0 : Int32) (1 : Int64) _ _ _ _ S (lv_sub hl [] rfl) w
def qw_L_clauseByCites (rp0 : Option Nat) (xp1 : Int32) (rp2 : Option Nat) (h : ql_H) (Q : Int32 → ql_H → Prop) : Prop :=
ql_rv h rp0 12 fun b1 => qw_X11_clauseByCites b1 xp1 h (fun x1 h =>
ql_sJ h rp2 (0 : Int32) x1.toInt64 fun h =>
Q (0 : Int32) h) (fun E h => if E = "java/util/NoSuchElementException" then (Q (1 : Int32) h) else False)
set_option maxHeartbeats 4000000 in
set_option maxRecDepth 100000 in
theorem qm_L_clauseByCites (l : Launch) (hl9 : l.stackTraces = false) (D : ql_D) (h0 : ql_H) (rp0 : Option Nat) (xp1 : Int32) (rp2 : Option Nat) (Q : Int32 → ql_H → Prop) (X : String → ql_H → Prop) (w : qw_L_clauseByCites rp0 xp1 rp2 h0 Q) : ql_MH D l yL_clauseByCites cL_clauseByCites 4 (some .int) [(0, 9, 12, 23)] ({ frames := 10, cells := 1, slots := 6, locals := 176 } : Room) h0 [va_rf rp0, .int xp1, va_rf rp2] (ql_rI Q) X 1 6 := by
  refine ql_ofWH (by decide) (by cases rp0 <;> cases rp2 <;> exact Nat.le_of_ble_eq_true rfl) ?_
  intro p e s m below meth c ls C hr hlocks hnm htab9 S hl
  rw [show lv_args 0 [va_rf rp0, .int xp1, va_rf rp2] = [(0, va_rf rp0), (1, .int xp1), (2, va_rf rp2)] from by cases rp0 <;> cases rp2 <;> rfl] at hl
  unfold qw_L_clauseByCites at w
  refine ql_aload_n (r := rp2) C dL_clauseByCites_0 rfl (lv_at hl 2 rfl) ?_
  refine lv_iconst (v := (0 : Int32)) C.1.1 C.1.2.1 dL_clauseByCites_1 (by decide) ?_
  refine ql_aload_n (r := rp0) C dL_clauseByCites_2 rfl (lv_at hl 0 rfl) ?_
  refine lv_iload_n C.1.1 C.1.2.1 dL_clauseByCites_3 rfl (lv_at hl 1 rfl) ?_
  refine ql_HVI (As := [.int xp1]) (rest := [.int (0 : Int32), va_rf rp2]) C S hl qy_X11_clauseByCites qi_X11_clauseByCites qs_X11_clauseByCites gw_1139 (ci := 12) rfl w (fun b w => qm_X11_clauseByCites l hl9 D _ b xp1 _ _ w) rfl ⟨Nat.le_of_ble_eq_true rfl, Nat.le_of_ble_eq_true rfl⟩ ⟨rfl, rfl⟩ (by generalize rp2 = z0; cases z0 <;> exact Nat.le_of_ble_eq_true rfl) (fun b e9 => by cases e9; rfl) dL_clauseByCites_4 ⟨Nat.le_of_ble_eq_true rfl, Nat.le_of_ble_eq_true rfl⟩ (fun E ce q9 h H locs w S g1 g2 g3 => ?_) (fun x1 h H locs S w => ?_)
  · by_cases c9 : E = "java/util/NoSuchElementException"
    · replace w := ql_if w c9
      subst c9
      refine ql_catch C htab9 [] (0, 9, 12, 23) [] rfl (fun z hz => nomatch hz) rfl (by decide) gw_804 (by decide +kernel) g1 g2 g3 (tgt := 12) rfl ?_
      refine ql_astore_n (lv' := [(3, va_rf (some q9)), (0, va_rf rp0), (1, .int xp1), (2, va_rf rp2)]) C dL_clauseByCites_12 rfl hl (by decide) (by generalize rp2 = z9; cases z9 <;> rfl) (fun ls hl => ?_)
      refine lv_iconst (v := (1 : Int32)) C.1.1 C.1.2.1 dL_clauseByCites_13 (by decide) ?_
      exact ql_iret C S hr hlocks dL_clauseByCites_14 ⟨Nat.le_of_ble_eq_true rfl, Nat.le_of_ble_eq_true rfl⟩ w
    replace w := ql_ifn w c9
    clear c9
    exact w.elim
  refine W.cs (cells' := 1) (slots' := 6) rfl rfl ?_
  refine lv_i2l C.1.1 C.1.2.1 dL_clauseByCites_7 rfl ?_
  refine ql_last C S dL_clauseByCites_8 w (fun h H locs S w => ?_)
  refine lv_goto (tgt := 15) C.1.1 C.1.2.1 dL_clauseByCites_9 (by decide) ?_
  refine lv_iconst (v := (0 : Int32)) C.1.1 C.1.2.1 dL_clauseByCites_15 (by decide) ?_
  exact ql_iret C S hr hlocks dL_clauseByCites_16 ⟨Nat.le_of_ble_eq_true rfl, Nat.le_of_ble_eq_true rfl⟩ w
def qw_L_editionDay (rp0 : Option Nat) (xp1 : Int32) (rp2 : Option Nat) (h : ql_H) (Q : Int32 → ql_H → Prop) : Prop :=
ql_rv h rp0 12 fun b1 => qw_X11_editionDay b1 xp1 h (fun x1 h =>
ql_sJ h rp2 (0 : Int32) x1.toInt64 fun h =>
Q (0 : Int32) h) (fun E h => if E = "java/util/NoSuchElementException" then (Q (1 : Int32) h) else False)
set_option maxHeartbeats 4000000 in
set_option maxRecDepth 100000 in
theorem qm_L_editionDay (l : Launch) (hl9 : l.stackTraces = false) (D : ql_D) (h0 : ql_H) (rp0 : Option Nat) (xp1 : Int32) (rp2 : Option Nat) (Q : Int32 → ql_H → Prop) (X : String → ql_H → Prop) (w : qw_L_editionDay rp0 xp1 rp2 h0 Q) : ql_MH D l yL_editionDay cL_editionDay 4 (some .int) [(0, 9, 12, 23)] ({ frames := 10, cells := 1, slots := 6, locals := 164 } : Room) h0 [va_rf rp0, .int xp1, va_rf rp2] (ql_rI Q) X 1 6 := by
  refine ql_ofWH (by decide) (by cases rp0 <;> cases rp2 <;> exact Nat.le_of_ble_eq_true rfl) ?_
  intro p e s m below meth c ls C hr hlocks hnm htab9 S hl
  rw [show lv_args 0 [va_rf rp0, .int xp1, va_rf rp2] = [(0, va_rf rp0), (1, .int xp1), (2, va_rf rp2)] from by cases rp0 <;> cases rp2 <;> rfl] at hl
  unfold qw_L_editionDay at w
  refine ql_aload_n (r := rp2) C dL_editionDay_0 rfl (lv_at hl 2 rfl) ?_
  refine lv_iconst (v := (0 : Int32)) C.1.1 C.1.2.1 dL_editionDay_1 (by decide) ?_
  refine ql_aload_n (r := rp0) C dL_editionDay_2 rfl (lv_at hl 0 rfl) ?_
  refine lv_iload_n C.1.1 C.1.2.1 dL_editionDay_3 rfl (lv_at hl 1 rfl) ?_
  refine ql_HVI (As := [.int xp1]) (rest := [.int (0 : Int32), va_rf rp2]) C S hl qy_X11_editionDay qi_X11_editionDay qs_X11_editionDay gw_1154 (ci := 12) rfl w (fun b w => qm_X11_editionDay l hl9 D _ b xp1 _ _ w) rfl ⟨Nat.le_of_ble_eq_true rfl, Nat.le_of_ble_eq_true rfl⟩ ⟨rfl, rfl⟩ (by generalize rp2 = z0; cases z0 <;> exact Nat.le_of_ble_eq_true rfl) (fun b e9 => by cases e9; rfl) dL_editionDay_4 ⟨Nat.le_of_ble_eq_true rfl, Nat.le_of_ble_eq_true rfl⟩ (fun E ce q9 h H locs w S g1 g2 g3 => ?_) (fun x1 h H locs S w => ?_)
  · by_cases c9 : E = "java/util/NoSuchElementException"
    · replace w := ql_if w c9
      subst c9
      refine ql_catch C htab9 [] (0, 9, 12, 23) [] rfl (fun z hz => nomatch hz) rfl (by decide) gw_804 (by decide +kernel) g1 g2 g3 (tgt := 12) rfl ?_
      refine ql_astore_n (lv' := [(3, va_rf (some q9)), (0, va_rf rp0), (1, .int xp1), (2, va_rf rp2)]) C dL_editionDay_12 rfl hl (by decide) (by generalize rp2 = z9; cases z9 <;> rfl) (fun ls hl => ?_)
      refine lv_iconst (v := (1 : Int32)) C.1.1 C.1.2.1 dL_editionDay_13 (by decide) ?_
      exact ql_iret C S hr hlocks dL_editionDay_14 ⟨Nat.le_of_ble_eq_true rfl, Nat.le_of_ble_eq_true rfl⟩ w
    replace w := ql_ifn w c9
    clear c9
    exact w.elim
  refine W.cs (cells' := 1) (slots' := 6) rfl rfl ?_
  refine lv_i2l C.1.1 C.1.2.1 dL_editionDay_7 rfl ?_
  refine ql_last C S dL_editionDay_8 w (fun h H locs S w => ?_)
  refine lv_goto (tgt := 15) C.1.1 C.1.2.1 dL_editionDay_9 (by decide) ?_
  refine lv_iconst (v := (0 : Int32)) C.1.1 C.1.2.1 dL_editionDay_15 (by decide) ?_
  exact ql_iret C S hr hlocks dL_editionDay_16 ⟨Nat.le_of_ble_eq_true rfl, Nat.le_of_ble_eq_true rfl⟩ w
def qw_L_meanLength (rp0 : Option Nat) (rp1 : Option Nat) (h : ql_H) (Q : Int32 → ql_H → Prop) : Prop :=
ql_rv h rp0 12 fun b1 => qw_X11_meanLength b1  h (fun d1 h =>
ql_sD h rp1 (0 : Int32) d1 fun h =>
Q (0 : Int32) h) (fun E h => if E = "java/lang/ArithmeticException" then (Q (1 : Int32) h) else False)
set_option maxHeartbeats 4000000 in
set_option maxRecDepth 100000 in
theorem qm_L_meanLength (l : Launch) (hl9 : l.stackTraces = false) (D : ql_D) (h0 : ql_H) (rp0 : Option Nat) (rp1 : Option Nat) (Q : Int32 → ql_H → Prop) (X : String → ql_H → Prop) (w : qw_L_meanLength rp0 rp1 h0 Q) : ql_MH D l yL_meanLength cL_meanLength 3 (some .int) [(0, 7, 10, 122)] ({ frames := 10, cells := 1, slots := 6, locals := 170 } : Room) h0 [va_rf rp0, va_rf rp1] (ql_rI Q) X 1 6 := by
  refine ql_ofWH (by decide) (by cases rp0 <;> cases rp1 <;> exact Nat.le_of_ble_eq_true rfl) ?_
  intro p e s m below meth c ls C hr hlocks hnm htab9 S hl
  rw [show lv_args 0 [va_rf rp0, va_rf rp1] = [(0, va_rf rp0), (1, va_rf rp1)] from by cases rp0 <;> cases rp1 <;> rfl] at hl
  unfold qw_L_meanLength at w
  refine ql_aload_n (r := rp1) C dL_meanLength_0 rfl (lv_at hl 1 rfl) ?_
  refine lv_iconst (v := (0 : Int32)) C.1.1 C.1.2.1 dL_meanLength_1 (by decide) ?_
  refine ql_aload_n (r := rp0) C dL_meanLength_2 rfl (lv_at hl 0 rfl) ?_
  refine ql_HVD (As := []) (rest := [.int (0 : Int32), va_rf rp1]) C S hl qy_X11_meanLength qi_X11_meanLength qs_X11_meanLength gw_1179 (ci := 12) rfl w (fun b w => qm_X11_meanLength l hl9 D _ b _ _ w) rfl ⟨Nat.le_of_ble_eq_true rfl, Nat.le_of_ble_eq_true rfl⟩ ⟨rfl, rfl⟩ (by generalize rp1 = z0; cases z0 <;> exact Nat.le_of_ble_eq_true rfl) (fun b e9 => by cases e9; rfl) dL_meanLength_3 ⟨Nat.le_of_ble_eq_true rfl, Nat.le_of_ble_eq_true rfl⟩ (fun E ce q9 h H locs w S g1 g2 g3 => ?_) (fun d1 h H locs S w => ?_)
  · by_cases c9 : E = "java/lang/ArithmeticException"
    · replace w := ql_if w c9
      subst c9
      refine ql_catch C htab9 [] (0, 7, 10, 122) [] rfl (fun z hz => nomatch hz) rfl (by decide) gw_1165 (by decide +kernel) g1 g2 g3 (tgt := 10) rfl ?_
      refine ql_astore_n (lv' := [(2, va_rf (some q9)), (0, va_rf rp0), (1, va_rf rp1)]) C dL_meanLength_10 rfl hl (by decide) (by generalize rp1 = z9; cases z9 <;> rfl) (fun ls hl => ?_)
      refine lv_iconst (v := (1 : Int32)) C.1.1 C.1.2.1 dL_meanLength_11 (by decide) ?_
      exact ql_iret C S hr hlocks dL_meanLength_12 ⟨Nat.le_of_ble_eq_true rfl, Nat.le_of_ble_eq_true rfl⟩ w
    replace w := ql_ifn w c9
    clear c9
    exact w.elim
  refine W.cs (cells' := 1) (slots' := 6) rfl rfl ?_
  refine ql_dast C S dL_meanLength_6 w (fun h H locs S w => ?_)
  refine lv_goto (tgt := 13) C.1.1 C.1.2.1 dL_meanLength_7 (by decide) ?_
  refine lv_iconst (v := (0 : Int32)) C.1.1 C.1.2.1 dL_meanLength_13 (by decide) ?_
  exact ql_iret C S hr hlocks dL_meanLength_14 ⟨Nat.le_of_ble_eq_true rfl, Nat.le_of_ble_eq_true rfl⟩ w
def qw_L_inForceShare (rp0 : Option Nat) (rp1 : Option Nat) (h : ql_H) (Q : Int32 → ql_H → Prop) : Prop :=
ql_rv h rp0 12 fun b1 => qw_X11_inForceShare b1  h (fun f1 h =>
vf_n64 (FP.f2d f1) ∧
ql_sD h rp1 (0 : Int32) (FP.f2d f1) fun h =>
Q (0 : Int32) h) (fun E h => if E = "java/lang/ArithmeticException" then (Q (1 : Int32) h) else False)
set_option maxHeartbeats 4000000 in
set_option maxRecDepth 100000 in
theorem qm_L_inForceShare (l : Launch) (hl9 : l.stackTraces = false) (D : ql_D) (h0 : ql_H) (rp0 : Option Nat) (rp1 : Option Nat) (Q : Int32 → ql_H → Prop) (X : String → ql_H → Prop) (w : qw_L_inForceShare rp0 rp1 h0 Q) : ql_MH D l yL_inForceShare cL_inForceShare 3 (some .int) [(0, 8, 11, 122)] ({ frames := 10, cells := 1, slots := 6, locals := 168 } : Room) h0 [va_rf rp0, va_rf rp1] (ql_rI Q) X 1 6 := by
  refine ql_ofWH (by decide) (by cases rp0 <;> cases rp1 <;> exact Nat.le_of_ble_eq_true rfl) ?_
  intro p e s m below meth c ls C hr hlocks hnm htab9 S hl
  rw [show lv_args 0 [va_rf rp0, va_rf rp1] = [(0, va_rf rp0), (1, va_rf rp1)] from by cases rp0 <;> cases rp1 <;> rfl] at hl
  unfold qw_L_inForceShare at w
  refine ql_aload_n (r := rp1) C dL_inForceShare_0 rfl (lv_at hl 1 rfl) ?_
  refine lv_iconst (v := (0 : Int32)) C.1.1 C.1.2.1 dL_inForceShare_1 (by decide) ?_
  refine ql_aload_n (r := rp0) C dL_inForceShare_2 rfl (lv_at hl 0 rfl) ?_
  refine ql_HVF (As := []) (rest := [.int (0 : Int32), va_rf rp1]) C S hl qy_X11_inForceShare qi_X11_inForceShare qs_X11_inForceShare gw_1195 (ci := 12) rfl w (fun b w => qm_X11_inForceShare l hl9 D _ b _ _ w) rfl ⟨Nat.le_of_ble_eq_true rfl, Nat.le_of_ble_eq_true rfl⟩ ⟨rfl, rfl⟩ (by generalize rp1 = z0; cases z0 <;> exact Nat.le_of_ble_eq_true rfl) (fun b e9 => by cases e9; rfl) dL_inForceShare_3 ⟨Nat.le_of_ble_eq_true rfl, Nat.le_of_ble_eq_true rfl⟩ (fun E ce q9 h H locs w S g1 g2 g3 => ?_) (fun f1 h H locs S w => ?_)
  · by_cases c9 : E = "java/lang/ArithmeticException"
    · replace w := ql_if w c9
      subst c9
      refine ql_catch C htab9 [] (0, 8, 11, 122) [] rfl (fun z hz => nomatch hz) rfl (by decide) gw_1165 (by decide +kernel) g1 g2 g3 (tgt := 11) rfl ?_
      refine ql_astore_n (lv' := [(2, va_rf (some q9)), (0, va_rf rp0), (1, va_rf rp1)]) C dL_inForceShare_11 rfl hl (by decide) (by generalize rp1 = z9; cases z9 <;> rfl) (fun ls hl => ?_)
      refine lv_iconst (v := (1 : Int32)) C.1.1 C.1.2.1 dL_inForceShare_12 (by decide) ?_
      exact ql_iret C S hr hlocks dL_inForceShare_13 ⟨Nat.le_of_ble_eq_true rfl, Nat.le_of_ble_eq_true rfl⟩ w
    replace w := ql_ifn w c9
    clear c9
    exact w.elim
  refine W.cs (cells' := 1) (slots' := 6) rfl rfl ?_
  refine lv_f2d C.1.1 C.1.2.1 dL_inForceShare_6 w.1 ?_
  replace w := w.2
  refine ql_dast C S dL_inForceShare_7 w (fun h H locs S w => ?_)
  refine lv_goto (tgt := 14) C.1.1 C.1.2.1 dL_inForceShare_8 (by decide) ?_
  refine lv_iconst (v := (0 : Int32)) C.1.1 C.1.2.1 dL_inForceShare_14 (by decide) ?_
  exact ql_iret C S hr hlocks dL_inForceShare_15 ⟨Nat.le_of_ble_eq_true rfl, Nat.le_of_ble_eq_true rfl⟩ w
def qw_L_renderClause (σ : Nat → Nat) (rp0 : Option Nat) (xp1 : Int32) (rp2 : Option Nat) (h : ql_H) (Q : Int32 → ql_H → Prop) : Prop :=
ql_rv h rp0 12 fun b1 => qw_X11_renderClause σ b1 xp1 h (fun x1 h =>
ql_sJ h rp2 (0 : Int32) x1.toInt64 fun h =>
Q (0 : Int32) h) (fun E h => if E = "java/util/NoSuchElementException" then (Q (1 : Int32) h) else False)
set_option maxHeartbeats 4000000 in
set_option maxRecDepth 100000 in
theorem qm_L_renderClause (l : Launch) (hl9 : l.stackTraces = false) (D : ql_D) (h0 : ql_H) (rp0 : Option Nat) (xp1 : Int32) (rp2 : Option Nat) (Q : Int32 → ql_H → Prop) (X : String → ql_H → Prop) (w : qw_L_renderClause D.2 rp0 xp1 rp2 h0 Q) : ql_MH D l yL_renderClause cL_renderClause 4 (some .int) [(0, 9, 12, 23)] ({ frames := 18, cells := 21, slots := 5126, locals := 291 } : Room) h0 [va_rf rp0, .int xp1, va_rf rp2] (ql_rI Q) X 21 5126 := by
  refine ql_ofWH (by decide) (by cases rp0 <;> cases rp2 <;> exact Nat.le_of_ble_eq_true rfl) ?_
  intro p e s m below meth c ls C hr hlocks hnm htab9 S hl
  rw [show lv_args 0 [va_rf rp0, .int xp1, va_rf rp2] = [(0, va_rf rp0), (1, .int xp1), (2, va_rf rp2)] from by cases rp0 <;> cases rp2 <;> rfl] at hl
  unfold qw_L_renderClause at w
  refine ql_aload_n (r := rp2) C dL_renderClause_0 rfl (lv_at hl 2 rfl) ?_
  refine lv_iconst (v := (0 : Int32)) C.1.1 C.1.2.1 dL_renderClause_1 (by decide) ?_
  refine ql_aload_n (r := rp0) C dL_renderClause_2 rfl (lv_at hl 0 rfl) ?_
  refine lv_iload_n C.1.1 C.1.2.1 dL_renderClause_3 rfl (lv_at hl 1 rfl) ?_
  refine ql_HVI (As := [.int xp1]) (rest := [.int (0 : Int32), va_rf rp2]) C S hl qy_X11_renderClause qi_X11_renderClause qs_X11_renderClause gw_1202 (ci := 12) rfl w (fun b w => qm_X11_renderClause l hl9 D _ b xp1 _ _ w) rfl ⟨Nat.le_of_ble_eq_true rfl, Nat.le_of_ble_eq_true rfl⟩ ⟨rfl, rfl⟩ (by generalize rp2 = z0; cases z0 <;> exact Nat.le_of_ble_eq_true rfl) (fun b e9 => by cases e9; rfl) dL_renderClause_4 ⟨Nat.le_of_ble_eq_true rfl, Nat.le_of_ble_eq_true rfl⟩ (fun E ce q9 h H locs w S g1 g2 g3 => ?_) (fun x1 h H locs S w => ?_)
  · by_cases c9 : E = "java/util/NoSuchElementException"
    · replace w := ql_if w c9
      subst c9
      refine ql_catch C htab9 [] (0, 9, 12, 23) [] rfl (fun z hz => nomatch hz) rfl (by decide) gw_804 (by decide +kernel) g1 g2 g3 (tgt := 12) rfl ?_
      refine ql_astore_n (lv' := [(3, va_rf (some q9)), (0, va_rf rp0), (1, .int xp1), (2, va_rf rp2)]) C dL_renderClause_12 rfl hl (by decide) (by generalize rp2 = z9; cases z9 <;> rfl) (fun ls hl => ?_)
      refine lv_iconst (v := (1 : Int32)) C.1.1 C.1.2.1 dL_renderClause_13 (by decide) ?_
      exact ql_iret C S hr hlocks dL_renderClause_14 ⟨Nat.le_of_ble_eq_true rfl, Nat.le_of_ble_eq_true rfl⟩ w
    replace w := ql_ifn w c9
    clear c9
    exact w.elim
  refine W.cs (cells' := 21) (slots' := 5126) rfl rfl ?_
  refine lv_i2l C.1.1 C.1.2.1 dL_renderClause_7 rfl ?_
  refine ql_last C S dL_renderClause_8 w (fun h H locs S w => ?_)
  refine lv_goto (tgt := 15) C.1.1 C.1.2.1 dL_renderClause_9 (by decide) ?_
  refine lv_iconst (v := (0 : Int32)) C.1.1 C.1.2.1 dL_renderClause_15 (by decide) ?_
  exact ql_iret C S hr hlocks dL_renderClause_16 ⟨Nat.le_of_ble_eq_true rfl, Nat.le_of_ble_eq_true rfl⟩ w
def qw_L_outputAt (rp0 : Option Nat) (xp1 : Int32) (rp2 : Option Nat) (h : ql_H) (Q : Int32 → ql_H → Prop) : Prop :=
ql_rv h rp0 12 fun b1 => qw_X11_outputAt b1 xp1 h (fun x1 h =>
ql_sJ h rp2 (0 : Int32) x1.toInt64 fun h =>
Q (0 : Int32) h) (fun E h => if E = "java/lang/IndexOutOfBoundsException" then (Q (1 : Int32) h) else False)
set_option maxHeartbeats 4000000 in
set_option maxRecDepth 100000 in
theorem qm_L_outputAt (l : Launch) (hl9 : l.stackTraces = false) (D : ql_D) (h0 : ql_H) (rp0 : Option Nat) (xp1 : Int32) (rp2 : Option Nat) (Q : Int32 → ql_H → Prop) (X : String → ql_H → Prop) (w : qw_L_outputAt rp0 xp1 rp2 h0 Q) : ql_MH D l yL_outputAt cL_outputAt 4 (some .int) [(0, 9, 12, 25)] ({ frames := 12, cells := 1, slots := 6, locals := 197 } : Room) h0 [va_rf rp0, .int xp1, va_rf rp2] (ql_rI Q) X 1 6 := by
  refine ql_ofWH (by decide) (by cases rp0 <;> cases rp2 <;> exact Nat.le_of_ble_eq_true rfl) ?_
  intro p e s m below meth c ls C hr hlocks hnm htab9 S hl
  rw [show lv_args 0 [va_rf rp0, .int xp1, va_rf rp2] = [(0, va_rf rp0), (1, .int xp1), (2, va_rf rp2)] from by cases rp0 <;> cases rp2 <;> rfl] at hl
  unfold qw_L_outputAt at w
  refine ql_aload_n (r := rp2) C dL_outputAt_0 rfl (lv_at hl 2 rfl) ?_
  refine lv_iconst (v := (0 : Int32)) C.1.1 C.1.2.1 dL_outputAt_1 (by decide) ?_
  refine ql_aload_n (r := rp0) C dL_outputAt_2 rfl (lv_at hl 0 rfl) ?_
  refine lv_iload_n C.1.1 C.1.2.1 dL_outputAt_3 rfl (lv_at hl 1 rfl) ?_
  refine ql_HVI (As := [.int xp1]) (rest := [.int (0 : Int32), va_rf rp2]) C S hl qy_X11_outputAt qi_X11_outputAt qs_X11_outputAt gw_1493 (ci := 12) rfl w (fun b w => qm_X11_outputAt l hl9 D _ b xp1 _ _ w) rfl ⟨Nat.le_of_ble_eq_true rfl, Nat.le_of_ble_eq_true rfl⟩ ⟨rfl, rfl⟩ (by generalize rp2 = z0; cases z0 <;> exact Nat.le_of_ble_eq_true rfl) (fun b e9 => by cases e9; rfl) dL_outputAt_4 ⟨Nat.le_of_ble_eq_true rfl, Nat.le_of_ble_eq_true rfl⟩ (fun E ce q9 h H locs w S g1 g2 g3 => ?_) (fun x1 h H locs S w => ?_)
  · by_cases c9 : E = "java/lang/IndexOutOfBoundsException"
    · replace w := ql_if w c9
      subst c9
      refine ql_catch C htab9 [] (0, 9, 12, 25) [] rfl (fun z hz => nomatch hz) rfl (by decide) gw_805 (by decide +kernel) g1 g2 g3 (tgt := 12) rfl ?_
      refine ql_astore_n (lv' := [(3, va_rf (some q9)), (0, va_rf rp0), (1, .int xp1), (2, va_rf rp2)]) C dL_outputAt_12 rfl hl (by decide) (by generalize rp2 = z9; cases z9 <;> rfl) (fun ls hl => ?_)
      refine lv_iconst (v := (1 : Int32)) C.1.1 C.1.2.1 dL_outputAt_13 (by decide) ?_
      exact ql_iret C S hr hlocks dL_outputAt_14 ⟨Nat.le_of_ble_eq_true rfl, Nat.le_of_ble_eq_true rfl⟩ w
    replace w := ql_ifn w c9
    clear c9
    exact w.elim
  refine W.cs (cells' := 1) (slots' := 6) rfl rfl ?_
  refine lv_i2l C.1.1 C.1.2.1 dL_outputAt_7 rfl ?_
  refine ql_last C S dL_outputAt_8 w (fun h H locs S w => ?_)
  refine lv_goto (tgt := 15) C.1.1 C.1.2.1 dL_outputAt_9 (by decide) ?_
  refine lv_iconst (v := (0 : Int32)) C.1.1 C.1.2.1 dL_outputAt_15 (by decide) ?_
  exact ql_iret C S hr hlocks dL_outputAt_16 ⟨Nat.le_of_ble_eq_true rfl, Nat.le_of_ble_eq_true rfl⟩ w
def qw_L_type (rp0 : Option Nat) (xp1 : Int32) (rp2 : Option Nat) (h : ql_H) (Q : Int32 → ql_H → Prop) : Prop :=
ql_rv h rp0 12 fun b1 => qw_X11_type b1 xp1 h (fun x1 h =>
ql_sJ h rp2 (0 : Int32) x1.toInt64 fun h =>
Q (0 : Int32) h) (fun E h => if E = "java/lang/IllegalArgumentException" then (Q (1 : Int32) h) else if E = "java/lang/IllegalStateException" then (Q (2 : Int32) h) else False)
set_option maxHeartbeats 4000000 in
set_option maxRecDepth 100000 in
theorem qm_L_type (l : Launch) (hl9 : l.stackTraces = false) (D : ql_D) (h0 : ql_H) (rp0 : Option Nat) (xp1 : Int32) (rp2 : Option Nat) (Q : Int32 → ql_H → Prop) (X : String → ql_H → Prop) (w : qw_L_type rp0 xp1 rp2 h0 Q) : ql_MH D l yL_type cL_type 4 (some .int) [(0, 9, 12, 13), (0, 9, 15, 15)] ({ frames := 18, cells := 1, slots := 256, locals := 287 } : Room) h0 [va_rf rp0, .int xp1, va_rf rp2] (ql_rI Q) X 1 256 := by
  refine ql_ofWH (by decide) (by cases rp0 <;> cases rp2 <;> exact Nat.le_of_ble_eq_true rfl) ?_
  intro p e s m below meth c ls C hr hlocks hnm htab9 S hl
  rw [show lv_args 0 [va_rf rp0, .int xp1, va_rf rp2] = [(0, va_rf rp0), (1, .int xp1), (2, va_rf rp2)] from by cases rp0 <;> cases rp2 <;> rfl] at hl
  unfold qw_L_type at w
  refine ql_aload_n (r := rp2) C dL_type_0 rfl (lv_at hl 2 rfl) ?_
  refine lv_iconst (v := (0 : Int32)) C.1.1 C.1.2.1 dL_type_1 (by decide) ?_
  refine ql_aload_n (r := rp0) C dL_type_2 rfl (lv_at hl 0 rfl) ?_
  refine lv_iload_n C.1.1 C.1.2.1 dL_type_3 rfl (lv_at hl 1 rfl) ?_
  refine ql_HVI (As := [.int xp1]) (rest := [.int (0 : Int32), va_rf rp2]) C S hl qy_X11_type qi_X11_type qs_X11_type gw_1510 (ci := 12) rfl w (fun b w => qm_X11_type l hl9 D _ b xp1 _ _ w) rfl ⟨Nat.le_of_ble_eq_true rfl, Nat.le_of_ble_eq_true rfl⟩ ⟨rfl, rfl⟩ (by generalize rp2 = z0; cases z0 <;> exact Nat.le_of_ble_eq_true rfl) (fun b e9 => by cases e9; rfl) dL_type_4 ⟨Nat.le_of_ble_eq_true rfl, Nat.le_of_ble_eq_true rfl⟩ (fun E ce q9 h H locs w S g1 g2 g3 => ?_) (fun x1 h H locs S w => ?_)
  · by_cases c9 : E = "java/lang/IllegalArgumentException"
    · replace w := ql_if w c9
      subst c9
      refine ql_catch C htab9 [] (0, 9, 12, 13) [(0, 9, 15, 15)] rfl (fun z hz => nomatch hz) rfl (by decide) gw_772 (by decide +kernel) g1 g2 g3 (tgt := 12) rfl ?_
      refine ql_astore_n (lv' := [(3, va_rf (some q9)), (0, va_rf rp0), (1, .int xp1), (2, va_rf rp2)]) C dL_type_12 rfl hl (by decide) (by generalize rp2 = z9; cases z9 <;> rfl) (fun ls hl => ?_)
      refine lv_iconst (v := (1 : Int32)) C.1.1 C.1.2.1 dL_type_13 (by decide) ?_
      exact ql_iret C S hr hlocks dL_type_14 ⟨Nat.le_of_ble_eq_true rfl, Nat.le_of_ble_eq_true rfl⟩ w
    replace w := ql_ifn w c9
    clear c9
    by_cases c9 : E = "java/lang/IllegalStateException"
    · replace w := ql_if w c9
      subst c9
      refine ql_catch C htab9 [(0, 9, 12, 13)] (0, 9, 15, 15) [] rfl (fun z hz => by rcases (show z = (0, 9, 12, 13) by simpa using hz) with rfl <;> first | exact ⟨by decide, _, gw_772, by decide +kernel⟩) rfl (by decide) gw_773 (by decide +kernel) g1 g2 g3 (tgt := 15) rfl ?_
      refine ql_astore_n (lv' := [(3, va_rf (some q9)), (0, va_rf rp0), (1, .int xp1), (2, va_rf rp2)]) C dL_type_15 rfl hl (by decide) (by generalize rp2 = z9; cases z9 <;> rfl) (fun ls hl => ?_)
      refine lv_iconst (v := (2 : Int32)) C.1.1 C.1.2.1 dL_type_16 (by decide) ?_
      exact ql_iret C S hr hlocks dL_type_17 ⟨Nat.le_of_ble_eq_true rfl, Nat.le_of_ble_eq_true rfl⟩ w
    replace w := ql_ifn w c9
    clear c9
    exact w.elim
  refine W.cs (cells' := 1) (slots' := 256) rfl rfl ?_
  refine lv_i2l C.1.1 C.1.2.1 dL_type_7 rfl ?_
  refine ql_last C S dL_type_8 w (fun h H locs S w => ?_)
  refine lv_goto (tgt := 18) C.1.1 C.1.2.1 dL_type_9 (by decide) ?_
  refine lv_iconst (v := (0 : Int32)) C.1.1 C.1.2.1 dL_type_18 (by decide) ?_
  exact ql_iret C S hr hlocks dL_type_19 ⟨Nat.le_of_ble_eq_true rfl, Nat.le_of_ble_eq_true rfl⟩ w
def qw_L_runScript (σ : Nat → Nat) (rp0 : Option Nat) (rp1 : Option Nat) (h : ql_H) (Q : Int32 → ql_H → Prop) : Prop :=
ql_rv h rp0 12 fun b1 => qw_X11_runScript σ b1  h (fun x1 h =>
ql_sJ h rp1 (0 : Int32) x1.toInt64 fun h =>
Q (0 : Int32) h) (fun E h => if E = "java/lang/IllegalArgumentException" then (Q (1 : Int32) h) else if E = "java/lang/IllegalStateException" then (Q (2 : Int32) h) else False)
set_option maxHeartbeats 4000000 in
set_option maxRecDepth 100000 in
theorem qm_L_runScript (l : Launch) (hl9 : l.stackTraces = false) (D : ql_D) (h0 : ql_H) (rp0 : Option Nat) (rp1 : Option Nat) (Q : Int32 → ql_H → Prop) (X : String → ql_H → Prop) (w : qw_L_runScript D.2 rp0 rp1 h0 Q) : ql_MH D l yL_runScript cL_runScript 3 (some .int) [(0, 8, 11, 13), (0, 8, 14, 15)] ({ frames := 22, cells := 2, slots := 262, locals := 352 } : Room) h0 [va_rf rp0, va_rf rp1] (ql_rI Q) X 2 262 := by
  refine ql_ofWH (by decide) (by cases rp0 <;> cases rp1 <;> exact Nat.le_of_ble_eq_true rfl) ?_
  intro p e s m below meth c ls C hr hlocks hnm htab9 S hl
  rw [show lv_args 0 [va_rf rp0, va_rf rp1] = [(0, va_rf rp0), (1, va_rf rp1)] from by cases rp0 <;> cases rp1 <;> rfl] at hl
  unfold qw_L_runScript at w
  refine ql_aload_n (r := rp1) C dL_runScript_0 rfl (lv_at hl 1 rfl) ?_
  refine lv_iconst (v := (0 : Int32)) C.1.1 C.1.2.1 dL_runScript_1 (by decide) ?_
  refine ql_aload_n (r := rp0) C dL_runScript_2 rfl (lv_at hl 0 rfl) ?_
  refine ql_HVI (As := []) (rest := [.int (0 : Int32), va_rf rp1]) C S hl qy_X11_runScript qi_X11_runScript qs_X11_runScript gw_1527 (ci := 12) rfl w (fun b w => qm_X11_runScript l hl9 D _ b _ _ w) rfl ⟨Nat.le_of_ble_eq_true rfl, Nat.le_of_ble_eq_true rfl⟩ ⟨rfl, rfl⟩ (by generalize rp1 = z0; cases z0 <;> exact Nat.le_of_ble_eq_true rfl) (fun b e9 => by cases e9; rfl) dL_runScript_3 ⟨Nat.le_of_ble_eq_true rfl, Nat.le_of_ble_eq_true rfl⟩ (fun E ce q9 h H locs w S g1 g2 g3 => ?_) (fun x1 h H locs S w => ?_)
  · by_cases c9 : E = "java/lang/IllegalArgumentException"
    · replace w := ql_if w c9
      subst c9
      refine ql_catch C htab9 [] (0, 8, 11, 13) [(0, 8, 14, 15)] rfl (fun z hz => nomatch hz) rfl (by decide) gw_772 (by decide +kernel) g1 g2 g3 (tgt := 11) rfl ?_
      refine ql_astore_n (lv' := [(2, va_rf (some q9)), (0, va_rf rp0), (1, va_rf rp1)]) C dL_runScript_11 rfl hl (by decide) (by generalize rp1 = z9; cases z9 <;> rfl) (fun ls hl => ?_)
      refine lv_iconst (v := (1 : Int32)) C.1.1 C.1.2.1 dL_runScript_12 (by decide) ?_
      exact ql_iret C S hr hlocks dL_runScript_13 ⟨Nat.le_of_ble_eq_true rfl, Nat.le_of_ble_eq_true rfl⟩ w
    replace w := ql_ifn w c9
    clear c9
    by_cases c9 : E = "java/lang/IllegalStateException"
    · replace w := ql_if w c9
      subst c9
      refine ql_catch C htab9 [(0, 8, 11, 13)] (0, 8, 14, 15) [] rfl (fun z hz => by rcases (show z = (0, 8, 11, 13) by simpa using hz) with rfl <;> first | exact ⟨by decide, _, gw_772, by decide +kernel⟩) rfl (by decide) gw_773 (by decide +kernel) g1 g2 g3 (tgt := 14) rfl ?_
      refine ql_astore_n (lv' := [(2, va_rf (some q9)), (0, va_rf rp0), (1, va_rf rp1)]) C dL_runScript_14 rfl hl (by decide) (by generalize rp1 = z9; cases z9 <;> rfl) (fun ls hl => ?_)
      refine lv_iconst (v := (2 : Int32)) C.1.1 C.1.2.1 dL_runScript_15 (by decide) ?_
      exact ql_iret C S hr hlocks dL_runScript_16 ⟨Nat.le_of_ble_eq_true rfl, Nat.le_of_ble_eq_true rfl⟩ w
    replace w := ql_ifn w c9
    clear c9
    exact w.elim
  refine W.cs (cells' := 2) (slots' := 262) rfl rfl ?_
  refine lv_i2l C.1.1 C.1.2.1 dL_runScript_6 rfl ?_
  refine ql_last C S dL_runScript_7 w (fun h H locs S w => ?_)
  refine lv_goto (tgt := 17) C.1.1 C.1.2.1 dL_runScript_8 (by decide) ?_
  refine lv_iconst (v := (0 : Int32)) C.1.1 C.1.2.1 dL_runScript_17 (by decide) ?_
  exact ql_iret C S hr hlocks dL_runScript_18 ⟨Nat.le_of_ble_eq_true rfl, Nat.le_of_ble_eq_true rfl⟩ w
def qw_L_errorPosition (rp0 : Option Nat) (rp1 : Option Nat) (h : ql_H) (Q : Int32 → ql_H → Prop) : Prop :=
ql_rv h rp0 12 fun b1 => qw_X11_errorPosition b1  h (fun x1 h =>
ql_sJ h rp1 (0 : Int32) x1.toInt64 fun h =>
Q (0 : Int32) h) (fun E h => if E = "java/util/NoSuchElementException" then (Q (1 : Int32) h) else False)
set_option maxHeartbeats 4000000 in
set_option maxRecDepth 100000 in
theorem qm_L_errorPosition (l : Launch) (hl9 : l.stackTraces = false) (D : ql_D) (h0 : ql_H) (rp0 : Option Nat) (rp1 : Option Nat) (Q : Int32 → ql_H → Prop) (X : String → ql_H → Prop) (w : qw_L_errorPosition rp0 rp1 h0 Q) : ql_MH D l yL_errorPosition cL_errorPosition 3 (some .int) [(0, 8, 11, 23)] ({ frames := 10, cells := 1, slots := 6, locals := 129 } : Room) h0 [va_rf rp0, va_rf rp1] (ql_rI Q) X 1 6 := by
  refine ql_ofWH (by decide) (by cases rp0 <;> cases rp1 <;> exact Nat.le_of_ble_eq_true rfl) ?_
  intro p e s m below meth c ls C hr hlocks hnm htab9 S hl
  rw [show lv_args 0 [va_rf rp0, va_rf rp1] = [(0, va_rf rp0), (1, va_rf rp1)] from by cases rp0 <;> cases rp1 <;> rfl] at hl
  unfold qw_L_errorPosition at w
  refine ql_aload_n (r := rp1) C dL_errorPosition_0 rfl (lv_at hl 1 rfl) ?_
  refine lv_iconst (v := (0 : Int32)) C.1.1 C.1.2.1 dL_errorPosition_1 (by decide) ?_
  refine ql_aload_n (r := rp0) C dL_errorPosition_2 rfl (lv_at hl 0 rfl) ?_
  refine ql_HVI (As := []) (rest := [.int (0 : Int32), va_rf rp1]) C S hl qy_X11_errorPosition qi_X11_errorPosition qs_X11_errorPosition gw_1629 (ci := 12) rfl w (fun b w => qm_X11_errorPosition l hl9 D _ b _ _ w) rfl ⟨Nat.le_of_ble_eq_true rfl, Nat.le_of_ble_eq_true rfl⟩ ⟨rfl, rfl⟩ (by generalize rp1 = z0; cases z0 <;> exact Nat.le_of_ble_eq_true rfl) (fun b e9 => by cases e9; rfl) dL_errorPosition_3 ⟨Nat.le_of_ble_eq_true rfl, Nat.le_of_ble_eq_true rfl⟩ (fun E ce q9 h H locs w S g1 g2 g3 => ?_) (fun x1 h H locs S w => ?_)
  · by_cases c9 : E = "java/util/NoSuchElementException"
    · replace w := ql_if w c9
      subst c9
      refine ql_catch C htab9 [] (0, 8, 11, 23) [] rfl (fun z hz => nomatch hz) rfl (by decide) gw_804 (by decide +kernel) g1 g2 g3 (tgt := 11) rfl ?_
      refine ql_astore_n (lv' := [(2, va_rf (some q9)), (0, va_rf rp0), (1, va_rf rp1)]) C dL_errorPosition_11 rfl hl (by decide) (by generalize rp1 = z9; cases z9 <;> rfl) (fun ls hl => ?_)
      refine lv_iconst (v := (1 : Int32)) C.1.1 C.1.2.1 dL_errorPosition_12 (by decide) ?_
      exact ql_iret C S hr hlocks dL_errorPosition_13 ⟨Nat.le_of_ble_eq_true rfl, Nat.le_of_ble_eq_true rfl⟩ w
    replace w := ql_ifn w c9
    clear c9
    exact w.elim
  refine W.cs (cells' := 1) (slots' := 6) rfl rfl ?_
  refine lv_i2l C.1.1 C.1.2.1 dL_errorPosition_6 rfl ?_
  refine ql_last C S dL_errorPosition_7 w (fun h H locs S w => ?_)
  refine lv_goto (tgt := 14) C.1.1 C.1.2.1 dL_errorPosition_8 (by decide) ?_
  refine lv_iconst (v := (0 : Int32)) C.1.1 C.1.2.1 dL_errorPosition_14 (by decide) ?_
  exact ql_iret C S hr hlocks dL_errorPosition_15 ⟨Nat.le_of_ble_eq_true rfl, Nat.le_of_ble_eq_true rfl⟩ w
def qw_L_failedCommand (rp0 : Option Nat) (rp1 : Option Nat) (h : ql_H) (Q : Int32 → ql_H → Prop) : Prop :=
ql_rv h rp0 12 fun b1 => qw_X11_failedCommand b1  h (fun x1 h =>
ql_sJ h rp1 (0 : Int32) x1.toInt64 fun h =>
Q (0 : Int32) h) (fun E h => if E = "java/util/NoSuchElementException" then (Q (1 : Int32) h) else False)
set_option maxHeartbeats 4000000 in
set_option maxRecDepth 100000 in
theorem qm_L_failedCommand (l : Launch) (hl9 : l.stackTraces = false) (D : ql_D) (h0 : ql_H) (rp0 : Option Nat) (rp1 : Option Nat) (Q : Int32 → ql_H → Prop) (X : String → ql_H → Prop) (w : qw_L_failedCommand rp0 rp1 h0 Q) : ql_MH D l yL_failedCommand cL_failedCommand 3 (some .int) [(0, 8, 11, 23)] ({ frames := 10, cells := 1, slots := 6, locals := 129 } : Room) h0 [va_rf rp0, va_rf rp1] (ql_rI Q) X 1 6 := by
  refine ql_ofWH (by decide) (by cases rp0 <;> cases rp1 <;> exact Nat.le_of_ble_eq_true rfl) ?_
  intro p e s m below meth c ls C hr hlocks hnm htab9 S hl
  rw [show lv_args 0 [va_rf rp0, va_rf rp1] = [(0, va_rf rp0), (1, va_rf rp1)] from by cases rp0 <;> cases rp1 <;> rfl] at hl
  unfold qw_L_failedCommand at w
  refine ql_aload_n (r := rp1) C dL_failedCommand_0 rfl (lv_at hl 1 rfl) ?_
  refine lv_iconst (v := (0 : Int32)) C.1.1 C.1.2.1 dL_failedCommand_1 (by decide) ?_
  refine ql_aload_n (r := rp0) C dL_failedCommand_2 rfl (lv_at hl 0 rfl) ?_
  refine ql_HVI (As := []) (rest := [.int (0 : Int32), va_rf rp1]) C S hl qy_X11_failedCommand qi_X11_failedCommand qs_X11_failedCommand gw_1636 (ci := 12) rfl w (fun b w => qm_X11_failedCommand l hl9 D _ b _ _ w) rfl ⟨Nat.le_of_ble_eq_true rfl, Nat.le_of_ble_eq_true rfl⟩ ⟨rfl, rfl⟩ (by generalize rp1 = z0; cases z0 <;> exact Nat.le_of_ble_eq_true rfl) (fun b e9 => by cases e9; rfl) dL_failedCommand_3 ⟨Nat.le_of_ble_eq_true rfl, Nat.le_of_ble_eq_true rfl⟩ (fun E ce q9 h H locs w S g1 g2 g3 => ?_) (fun x1 h H locs S w => ?_)
  · by_cases c9 : E = "java/util/NoSuchElementException"
    · replace w := ql_if w c9
      subst c9
      refine ql_catch C htab9 [] (0, 8, 11, 23) [] rfl (fun z hz => nomatch hz) rfl (by decide) gw_804 (by decide +kernel) g1 g2 g3 (tgt := 11) rfl ?_
      refine ql_astore_n (lv' := [(2, va_rf (some q9)), (0, va_rf rp0), (1, va_rf rp1)]) C dL_failedCommand_11 rfl hl (by decide) (by generalize rp1 = z9; cases z9 <;> rfl) (fun ls hl => ?_)
      refine lv_iconst (v := (1 : Int32)) C.1.1 C.1.2.1 dL_failedCommand_12 (by decide) ?_
      exact ql_iret C S hr hlocks dL_failedCommand_13 ⟨Nat.le_of_ble_eq_true rfl, Nat.le_of_ble_eq_true rfl⟩ w
    replace w := ql_ifn w c9
    clear c9
    exact w.elim
  refine W.cs (cells' := 1) (slots' := 6) rfl rfl ?_
  refine lv_i2l C.1.1 C.1.2.1 dL_failedCommand_6 rfl ?_
  refine ql_last C S dL_failedCommand_7 w (fun h H locs S w => ?_)
  refine lv_goto (tgt := 14) C.1.1 C.1.2.1 dL_failedCommand_8 (by decide) ?_
  refine lv_iconst (v := (0 : Int32)) C.1.1 C.1.2.1 dL_failedCommand_14 (by decide) ?_
  exact ql_iret C S hr hlocks dL_failedCommand_15 ⟨Nat.le_of_ble_eq_true rfl, Nat.le_of_ble_eq_true rfl⟩ w
def qw_L_undo (rp0 : Option Nat) (rp1 : Option Nat) (h : ql_H) (Q : Int32 → ql_H → Prop) : Prop :=
ql_rv h rp0 12 fun b1 => qw_X11_undo b1  h (fun x1 h =>
ql_sJ h rp1 (0 : Int32) x1.toInt64 fun h =>
Q (0 : Int32) h) (fun E h => if E = "java/util/NoSuchElementException" then (Q (1 : Int32) h) else False)
set_option maxHeartbeats 4000000 in
set_option maxRecDepth 100000 in
theorem qm_L_undo (l : Launch) (hl9 : l.stackTraces = false) (D : ql_D) (h0 : ql_H) (rp0 : Option Nat) (rp1 : Option Nat) (Q : Int32 → ql_H → Prop) (X : String → ql_H → Prop) (w : qw_L_undo rp0 rp1 h0 Q) : ql_MH D l yL_undo cL_undo 3 (some .int) [(0, 8, 11, 23)] ({ frames := 11, cells := 1, slots := 6, locals := 184 } : Room) h0 [va_rf rp0, va_rf rp1] (ql_rI Q) X 1 6 := by
  refine ql_ofWH (by decide) (by cases rp0 <;> cases rp1 <;> exact Nat.le_of_ble_eq_true rfl) ?_
  intro p e s m below meth c ls C hr hlocks hnm htab9 S hl
  rw [show lv_args 0 [va_rf rp0, va_rf rp1] = [(0, va_rf rp0), (1, va_rf rp1)] from by cases rp0 <;> cases rp1 <;> rfl] at hl
  unfold qw_L_undo at w
  refine ql_aload_n (r := rp1) C dL_undo_0 rfl (lv_at hl 1 rfl) ?_
  refine lv_iconst (v := (0 : Int32)) C.1.1 C.1.2.1 dL_undo_1 (by decide) ?_
  refine ql_aload_n (r := rp0) C dL_undo_2 rfl (lv_at hl 0 rfl) ?_
  refine ql_HVI (As := []) (rest := [.int (0 : Int32), va_rf rp1]) C S hl qy_X11_undo qi_X11_undo qs_X11_undo gw_1643 (ci := 12) rfl w (fun b w => qm_X11_undo l hl9 D _ b _ _ w) rfl ⟨Nat.le_of_ble_eq_true rfl, Nat.le_of_ble_eq_true rfl⟩ ⟨rfl, rfl⟩ (by generalize rp1 = z0; cases z0 <;> exact Nat.le_of_ble_eq_true rfl) (fun b e9 => by cases e9; rfl) dL_undo_3 ⟨Nat.le_of_ble_eq_true rfl, Nat.le_of_ble_eq_true rfl⟩ (fun E ce q9 h H locs w S g1 g2 g3 => ?_) (fun x1 h H locs S w => ?_)
  · by_cases c9 : E = "java/util/NoSuchElementException"
    · replace w := ql_if w c9
      subst c9
      refine ql_catch C htab9 [] (0, 8, 11, 23) [] rfl (fun z hz => nomatch hz) rfl (by decide) gw_804 (by decide +kernel) g1 g2 g3 (tgt := 11) rfl ?_
      refine ql_astore_n (lv' := [(2, va_rf (some q9)), (0, va_rf rp0), (1, va_rf rp1)]) C dL_undo_11 rfl hl (by decide) (by generalize rp1 = z9; cases z9 <;> rfl) (fun ls hl => ?_)
      refine lv_iconst (v := (1 : Int32)) C.1.1 C.1.2.1 dL_undo_12 (by decide) ?_
      exact ql_iret C S hr hlocks dL_undo_13 ⟨Nat.le_of_ble_eq_true rfl, Nat.le_of_ble_eq_true rfl⟩ w
    replace w := ql_ifn w c9
    clear c9
    exact w.elim
  refine W.cs (cells' := 1) (slots' := 6) rfl rfl ?_
  refine lv_i2l C.1.1 C.1.2.1 dL_undo_6 rfl ?_
  refine ql_last C S dL_undo_7 w (fun h H locs S w => ?_)
  refine lv_goto (tgt := 14) C.1.1 C.1.2.1 dL_undo_8 (by decide) ?_
  refine lv_iconst (v := (0 : Int32)) C.1.1 C.1.2.1 dL_undo_14 (by decide) ?_
  exact ql_iret C S hr hlocks dL_undo_15 ⟨Nat.le_of_ble_eq_true rfl, Nat.le_of_ble_eq_true rfl⟩ w
def qw_L_restore (rp0 : Option Nat) (rp1 : Option Nat) (h : ql_H) (Q : Int32 → ql_H → Prop) : Prop :=
ql_rv h rp0 12 fun b1 => qw_X11_restore b1  h (fun x1 h =>
ql_sJ h rp1 (0 : Int32) x1.toInt64 fun h =>
Q (0 : Int32) h) (fun E h => if E = "java/lang/IllegalStateException" then (Q (1 : Int32) h) else False)
set_option maxHeartbeats 4000000 in
set_option maxRecDepth 100000 in
theorem qm_L_restore (l : Launch) (hl9 : l.stackTraces = false) (D : ql_D) (h0 : ql_H) (rp0 : Option Nat) (rp1 : Option Nat) (Q : Int32 → ql_H → Prop) (X : String → ql_H → Prop) (w : qw_L_restore rp0 rp1 h0 Q) : ql_MH D l yL_restore cL_restore 3 (some .int) [(0, 8, 11, 15)] ({ frames := 10, cells := 1, slots := 6, locals := 155 } : Room) h0 [va_rf rp0, va_rf rp1] (ql_rI Q) X 1 6 := by
  refine ql_ofWH (by decide) (by cases rp0 <;> cases rp1 <;> exact Nat.le_of_ble_eq_true rfl) ?_
  intro p e s m below meth c ls C hr hlocks hnm htab9 S hl
  rw [show lv_args 0 [va_rf rp0, va_rf rp1] = [(0, va_rf rp0), (1, va_rf rp1)] from by cases rp0 <;> cases rp1 <;> rfl] at hl
  unfold qw_L_restore at w
  refine ql_aload_n (r := rp1) C dL_restore_0 rfl (lv_at hl 1 rfl) ?_
  refine lv_iconst (v := (0 : Int32)) C.1.1 C.1.2.1 dL_restore_1 (by decide) ?_
  refine ql_aload_n (r := rp0) C dL_restore_2 rfl (lv_at hl 0 rfl) ?_
  refine ql_HVI (As := []) (rest := [.int (0 : Int32), va_rf rp1]) C S hl qy_X11_restore qi_X11_restore qs_X11_restore gw_1654 (ci := 12) rfl w (fun b w => qm_X11_restore l hl9 D _ b _ _ w) rfl ⟨Nat.le_of_ble_eq_true rfl, Nat.le_of_ble_eq_true rfl⟩ ⟨rfl, rfl⟩ (by generalize rp1 = z0; cases z0 <;> exact Nat.le_of_ble_eq_true rfl) (fun b e9 => by cases e9; rfl) dL_restore_3 ⟨Nat.le_of_ble_eq_true rfl, Nat.le_of_ble_eq_true rfl⟩ (fun E ce q9 h H locs w S g1 g2 g3 => ?_) (fun x1 h H locs S w => ?_)
  · by_cases c9 : E = "java/lang/IllegalStateException"
    · replace w := ql_if w c9
      subst c9
      refine ql_catch C htab9 [] (0, 8, 11, 15) [] rfl (fun z hz => nomatch hz) rfl (by decide) gw_773 (by decide +kernel) g1 g2 g3 (tgt := 11) rfl ?_
      refine ql_astore_n (lv' := [(2, va_rf (some q9)), (0, va_rf rp0), (1, va_rf rp1)]) C dL_restore_11 rfl hl (by decide) (by generalize rp1 = z9; cases z9 <;> rfl) (fun ls hl => ?_)
      refine lv_iconst (v := (1 : Int32)) C.1.1 C.1.2.1 dL_restore_12 (by decide) ?_
      exact ql_iret C S hr hlocks dL_restore_13 ⟨Nat.le_of_ble_eq_true rfl, Nat.le_of_ble_eq_true rfl⟩ w
    replace w := ql_ifn w c9
    clear c9
    exact w.elim
  refine W.cs (cells' := 1) (slots' := 6) rfl rfl ?_
  refine lv_i2l C.1.1 C.1.2.1 dL_restore_6 rfl ?_
  refine ql_last C S dL_restore_7 w (fun h H locs S w => ?_)
  refine lv_goto (tgt := 14) C.1.1 C.1.2.1 dL_restore_8 (by decide) ?_
  refine lv_iconst (v := (0 : Int32)) C.1.1 C.1.2.1 dL_restore_14 (by decide) ?_
  exact ql_iret C S hr hlocks dL_restore_15 ⟨Nat.le_of_ble_eq_true rfl, Nat.le_of_ble_eq_true rfl⟩ w
def qw_L_law_2957 (σ : Nat → Nat) (L9 : Nat) (xs9 : Nat → Int32) (a0 : Nat) (Q : Int32 → ql_H → Prop) (X : String → ql_H → Prop) (k28 : Option Nat → Option Nat → Option Nat → Option Nat → Int32 → ql_H → Prop) (rl1 : Option Nat) (rl2 : Option Nat) (rl3 : Option Nat) (rl4 : Option Nat) (xl5 : Int32) (h : ql_H) : Prop :=
k28 rl1 rl2 rl3 rl4 (xl5 + (4 : Int32)) h
def qw_L_law_343 (σ : Nat → Nat) (L9 : Nat) (xs9 : Nat → Int32) (a0 : Nat) (Q : Int32 → ql_H → Prop) (X : String → ql_H → Prop) (k28 : Option Nat → Option Nat → Option Nat → Option Nat → Int32 → ql_H → Prop) (rl1 : Option Nat) (rl2 : Option Nat) (rl3 : Option Nat) (rl4 : Option Nat) (xl5 : Int32) (h : ql_H) : Prop :=
qw_L_law_2957 σ L9 xs9 a0 Q X k28 rl1 rl2 rl3 rl4 xl5 h
def qw_L_law_276 (σ : Nat → Nat) (L9 : Nat) (xs9 : Nat → Int32) (a0 : Nat) (Q : Int32 → ql_H → Prop) (X : String → ql_H → Prop) (k28 : Option Nat → Option Nat → Option Nat → Option Nat → Int32 → ql_H → Prop) (rl1 : Option Nat) (rl2 : Option Nat) (rl3 : Option Nat) (rl4 : Option Nat) (xl5 : Int32) (h : ql_H) : Prop :=
vp_in (xl5 + (1 : Int32)) L9 ∧
vp_in (xl5 + (2 : Int32)) L9 ∧
qw_L_addClause rl1 (xs9 (xl5 + (1 : Int32)).toNatClampNeg) ((xs9 (xl5 + (2 : Int32)).toNatClampNeg).toUInt32 % 65536).toInt32 rl3 h (fun x1 h =>
vp_in (xl5 + (1 : Int32)) L9 ∧
vp_in (xl5 + (2 : Int32)) L9 ∧
ql_rv h rl2 13 fun b2 => qw_X12_addClause b2 (xs9 (xl5 + (1 : Int32)).toNatClampNeg) ((xs9 (xl5 + (2 : Int32)).toNatClampNeg).toUInt32 % 65536).toInt32 h (fun x2 h =>
ql_rv h rl2 13 fun b4 => qw_X12_thrown b4  h (fun x4 h =>
if x4 = x1 then (if x1 = 0 then (ql_lJ h rl3 (0 : Int32) fun j6 =>
if (lg_cmp j6 x2.toInt64) = 0 then (qw_L_law_343 σ L9 xs9 a0 Q X k28 rl1 rl2 rl3 rl4 xl5 h) else (ql_nz .boolean (0 : Int32) ∧ Q (0 : Int32) h)) else (qw_L_law_343 σ L9 xs9 a0 Q X k28 rl1 rl2 rl3 rl4 xl5 h)) else (ql_nz .boolean (0 : Int32) ∧ Q (0 : Int32) h))))
def qw_L_law_425 (σ : Nat → Nat) (L9 : Nat) (xs9 : Nat → Int32) (a0 : Nat) (Q : Int32 → ql_H → Prop) (X : String → ql_H → Prop) (k28 : Option Nat → Option Nat → Option Nat → Option Nat → Int32 → ql_H → Prop) (rl1 : Option Nat) (rl2 : Option Nat) (rl3 : Option Nat) (rl4 : Option Nat) (xl5 : Int32) (h : ql_H) : Prop :=
qw_L_law_2957 σ L9 xs9 a0 Q X k28 rl1 rl2 rl3 rl4 xl5 h
def qw_L_law_346 (σ : Nat → Nat) (L9 : Nat) (xs9 : Nat → Int32) (a0 : Nat) (Q : Int32 → ql_H → Prop) (X : String → ql_H → Prop) (k28 : Option Nat → Option Nat → Option Nat → Option Nat → Int32 → ql_H → Prop) (rl1 : Option Nat) (rl2 : Option Nat) (rl3 : Option Nat) (rl4 : Option Nat) (xl5 : Int32) (h : ql_H) : Prop :=
vp_in (xl5 + (1 : Int32)) L9 ∧
vp_in (xl5 + (2 : Int32)) L9 ∧
vp_in (xl5 + (3 : Int32)) L9 ∧
qw_L_insertNote rl1 (xs9 (xl5 + (1 : Int32)).toNatClampNeg) (xs9 (xl5 + (2 : Int32)).toNatClampNeg) ((xs9 (xl5 + (3 : Int32)).toNatClampNeg).toUInt32 % 65536).toInt32 rl3 h (fun x7 h =>
vp_in (xl5 + (1 : Int32)) L9 ∧
vp_in (xl5 + (2 : Int32)) L9 ∧
vp_in (xl5 + (3 : Int32)) L9 ∧
ql_rv h rl2 13 fun b8 => qw_X12_insertNote b8 (xs9 (xl5 + (1 : Int32)).toNatClampNeg) (xs9 (xl5 + (2 : Int32)).toNatClampNeg) ((xs9 (xl5 + (3 : Int32)).toNatClampNeg).toUInt32 % 65536).toInt32 h (fun x8 h =>
ql_rv h rl2 13 fun b10 => qw_X12_thrown b10  h (fun x10 h =>
if x10 = x7 then (if x7 = 0 then (ql_lJ h rl3 (0 : Int32) fun j12 =>
if (lg_cmp j12 x8.toInt64) = 0 then (qw_L_law_425 σ L9 xs9 a0 Q X k28 rl1 rl2 rl3 rl4 xl5 h) else (ql_nz .boolean (0 : Int32) ∧ Q (0 : Int32) h)) else (qw_L_law_425 σ L9 xs9 a0 Q X k28 rl1 rl2 rl3 rl4 xl5 h)) else (ql_nz .boolean (0 : Int32) ∧ Q (0 : Int32) h))))
def qw_L_law_507 (σ : Nat → Nat) (L9 : Nat) (xs9 : Nat → Int32) (a0 : Nat) (Q : Int32 → ql_H → Prop) (X : String → ql_H → Prop) (k28 : Option Nat → Option Nat → Option Nat → Option Nat → Int32 → ql_H → Prop) (rl1 : Option Nat) (rl2 : Option Nat) (rl3 : Option Nat) (rl4 : Option Nat) (xl5 : Int32) (h : ql_H) : Prop :=
qw_L_law_2957 σ L9 xs9 a0 Q X k28 rl1 rl2 rl3 rl4 xl5 h
def qw_L_law_428 (σ : Nat → Nat) (L9 : Nat) (xs9 : Nat → Int32) (a0 : Nat) (Q : Int32 → ql_H → Prop) (X : String → ql_H → Prop) (k28 : Option Nat → Option Nat → Option Nat → Option Nat → Int32 → ql_H → Prop) (rl1 : Option Nat) (rl2 : Option Nat) (rl3 : Option Nat) (rl4 : Option Nat) (xl5 : Int32) (h : ql_H) : Prop :=
vp_in (xl5 + (1 : Int32)) L9 ∧
vp_in (xl5 + (2 : Int32)) L9 ∧
vp_in (xl5 + (3 : Int32)) L9 ∧
qw_L_replaceNote rl1 (xs9 (xl5 + (1 : Int32)).toNatClampNeg) (xs9 (xl5 + (2 : Int32)).toNatClampNeg) ((xs9 (xl5 + (3 : Int32)).toNatClampNeg).toUInt32 % 65536).toInt32 rl3 h (fun x13 h =>
vp_in (xl5 + (1 : Int32)) L9 ∧
vp_in (xl5 + (2 : Int32)) L9 ∧
vp_in (xl5 + (3 : Int32)) L9 ∧
ql_rv h rl2 13 fun b14 => qw_X12_replaceNote b14 (xs9 (xl5 + (1 : Int32)).toNatClampNeg) (xs9 (xl5 + (2 : Int32)).toNatClampNeg) ((xs9 (xl5 + (3 : Int32)).toNatClampNeg).toUInt32 % 65536).toInt32 h (fun x14 h =>
ql_rv h rl2 13 fun b16 => qw_X12_thrown b16  h (fun x16 h =>
if x16 = x13 then (if x13 = 0 then (ql_lJ h rl3 (0 : Int32) fun j18 =>
if (lg_cmp j18 x14.toInt64) = 0 then (qw_L_law_507 σ L9 xs9 a0 Q X k28 rl1 rl2 rl3 rl4 xl5 h) else (ql_nz .boolean (0 : Int32) ∧ Q (0 : Int32) h)) else (qw_L_law_507 σ L9 xs9 a0 Q X k28 rl1 rl2 rl3 rl4 xl5 h)) else (ql_nz .boolean (0 : Int32) ∧ Q (0 : Int32) h))))
def qw_L_law_575 (σ : Nat → Nat) (L9 : Nat) (xs9 : Nat → Int32) (a0 : Nat) (Q : Int32 → ql_H → Prop) (X : String → ql_H → Prop) (k28 : Option Nat → Option Nat → Option Nat → Option Nat → Int32 → ql_H → Prop) (rl1 : Option Nat) (rl2 : Option Nat) (rl3 : Option Nat) (rl4 : Option Nat) (xl5 : Int32) (h : ql_H) : Prop :=
qw_L_law_2957 σ L9 xs9 a0 Q X k28 rl1 rl2 rl3 rl4 xl5 h
def qw_L_law_510 (σ : Nat → Nat) (L9 : Nat) (xs9 : Nat → Int32) (a0 : Nat) (Q : Int32 → ql_H → Prop) (X : String → ql_H → Prop) (k28 : Option Nat → Option Nat → Option Nat → Option Nat → Int32 → ql_H → Prop) (rl1 : Option Nat) (rl2 : Option Nat) (rl3 : Option Nat) (rl4 : Option Nat) (xl5 : Int32) (h : ql_H) : Prop :=
vp_in (xl5 + (1 : Int32)) L9 ∧
vp_in (xl5 + (2 : Int32)) L9 ∧
qw_L_deleteNote rl1 (xs9 (xl5 + (1 : Int32)).toNatClampNeg) (xs9 (xl5 + (2 : Int32)).toNatClampNeg) rl3 h (fun x19 h =>
vp_in (xl5 + (1 : Int32)) L9 ∧
vp_in (xl5 + (2 : Int32)) L9 ∧
ql_rv h rl2 13 fun b20 => qw_X12_deleteNote b20 (xs9 (xl5 + (1 : Int32)).toNatClampNeg) (xs9 (xl5 + (2 : Int32)).toNatClampNeg) h (fun x20 h =>
ql_rv h rl2 13 fun b22 => qw_X12_thrown b22  h (fun x22 h =>
if x22 = x19 then (if x19 = 0 then (ql_lJ h rl3 (0 : Int32) fun j24 =>
if (lg_cmp j24 x20.toInt64) = 0 then (qw_L_law_575 σ L9 xs9 a0 Q X k28 rl1 rl2 rl3 rl4 xl5 h) else (ql_nz .boolean (0 : Int32) ∧ Q (0 : Int32) h)) else (qw_L_law_575 σ L9 xs9 a0 Q X k28 rl1 rl2 rl3 rl4 xl5 h)) else (ql_nz .boolean (0 : Int32) ∧ Q (0 : Int32) h))))
def qw_L_law_643 (σ : Nat → Nat) (L9 : Nat) (xs9 : Nat → Int32) (a0 : Nat) (Q : Int32 → ql_H → Prop) (X : String → ql_H → Prop) (k28 : Option Nat → Option Nat → Option Nat → Option Nat → Int32 → ql_H → Prop) (rl1 : Option Nat) (rl2 : Option Nat) (rl3 : Option Nat) (rl4 : Option Nat) (xl5 : Int32) (h : ql_H) : Prop :=
qw_L_law_2957 σ L9 xs9 a0 Q X k28 rl1 rl2 rl3 rl4 xl5 h
def qw_L_law_578 (σ : Nat → Nat) (L9 : Nat) (xs9 : Nat → Int32) (a0 : Nat) (Q : Int32 → ql_H → Prop) (X : String → ql_H → Prop) (k28 : Option Nat → Option Nat → Option Nat → Option Nat → Int32 → ql_H → Prop) (rl1 : Option Nat) (rl2 : Option Nat) (rl3 : Option Nat) (rl4 : Option Nat) (xl5 : Int32) (h : ql_H) : Prop :=
vp_in (xl5 + (1 : Int32)) L9 ∧
vp_in (xl5 + (2 : Int32)) L9 ∧
qw_L_setSunset rl1 (xs9 (xl5 + (1 : Int32)).toNatClampNeg) (xs9 (xl5 + (2 : Int32)).toNatClampNeg) rl3 h (fun x25 h =>
vp_in (xl5 + (1 : Int32)) L9 ∧
vp_in (xl5 + (2 : Int32)) L9 ∧
ql_rv h rl2 13 fun b26 => qw_X12_setSunset b26 (xs9 (xl5 + (1 : Int32)).toNatClampNeg) (xs9 (xl5 + (2 : Int32)).toNatClampNeg) h (fun x26 h =>
ql_rv h rl2 13 fun b28 => qw_X12_thrown b28  h (fun x28 h =>
if x28 = x25 then (if x25 = 0 then (ql_lJ h rl3 (0 : Int32) fun j30 =>
if (lg_cmp j30 x26.toInt64) = 0 then (qw_L_law_643 σ L9 xs9 a0 Q X k28 rl1 rl2 rl3 rl4 xl5 h) else (ql_nz .boolean (0 : Int32) ∧ Q (0 : Int32) h)) else (qw_L_law_643 σ L9 xs9 a0 Q X k28 rl1 rl2 rl3 rl4 xl5 h)) else (ql_nz .boolean (0 : Int32) ∧ Q (0 : Int32) h))))
def qw_L_law_711 (σ : Nat → Nat) (L9 : Nat) (xs9 : Nat → Int32) (a0 : Nat) (Q : Int32 → ql_H → Prop) (X : String → ql_H → Prop) (k28 : Option Nat → Option Nat → Option Nat → Option Nat → Int32 → ql_H → Prop) (rl1 : Option Nat) (rl2 : Option Nat) (rl3 : Option Nat) (rl4 : Option Nat) (xl5 : Int32) (h : ql_H) : Prop :=
qw_L_law_2957 σ L9 xs9 a0 Q X k28 rl1 rl2 rl3 rl4 xl5 h
def qw_L_law_646 (σ : Nat → Nat) (L9 : Nat) (xs9 : Nat → Int32) (a0 : Nat) (Q : Int32 → ql_H → Prop) (X : String → ql_H → Prop) (k28 : Option Nat → Option Nat → Option Nat → Option Nat → Int32 → ql_H → Prop) (rl1 : Option Nat) (rl2 : Option Nat) (rl3 : Option Nat) (rl4 : Option Nat) (xl5 : Int32) (h : ql_H) : Prop :=
vp_in (xl5 + (1 : Int32)) L9 ∧
vp_in (xl5 + (2 : Int32)) L9 ∧
qw_L_cite rl1 (xs9 (xl5 + (1 : Int32)).toNatClampNeg) (xs9 (xl5 + (2 : Int32)).toNatClampNeg) rl3 h (fun x31 h =>
vp_in (xl5 + (1 : Int32)) L9 ∧
vp_in (xl5 + (2 : Int32)) L9 ∧
ql_rv h rl2 13 fun b32 => qw_X12_cite b32 (xs9 (xl5 + (1 : Int32)).toNatClampNeg) (xs9 (xl5 + (2 : Int32)).toNatClampNeg) h (fun x32 h =>
ql_rv h rl2 13 fun b34 => qw_X12_thrown b34  h (fun x34 h =>
if x34 = x31 then (if x31 = 0 then (ql_lJ h rl3 (0 : Int32) fun j36 =>
if (lg_cmp j36 x32.toInt64) = 0 then (qw_L_law_711 σ L9 xs9 a0 Q X k28 rl1 rl2 rl3 rl4 xl5 h) else (ql_nz .boolean (0 : Int32) ∧ Q (0 : Int32) h)) else (qw_L_law_711 σ L9 xs9 a0 Q X k28 rl1 rl2 rl3 rl4 xl5 h)) else (ql_nz .boolean (0 : Int32) ∧ Q (0 : Int32) h))))
def qw_L_law_779 (σ : Nat → Nat) (L9 : Nat) (xs9 : Nat → Int32) (a0 : Nat) (Q : Int32 → ql_H → Prop) (X : String → ql_H → Prop) (k28 : Option Nat → Option Nat → Option Nat → Option Nat → Int32 → ql_H → Prop) (rl1 : Option Nat) (rl2 : Option Nat) (rl3 : Option Nat) (rl4 : Option Nat) (xl5 : Int32) (h : ql_H) : Prop :=
qw_L_law_2957 σ L9 xs9 a0 Q X k28 rl1 rl2 rl3 rl4 xl5 h
def qw_L_law_714 (σ : Nat → Nat) (L9 : Nat) (xs9 : Nat → Int32) (a0 : Nat) (Q : Int32 → ql_H → Prop) (X : String → ql_H → Prop) (k28 : Option Nat → Option Nat → Option Nat → Option Nat → Int32 → ql_H → Prop) (rl1 : Option Nat) (rl2 : Option Nat) (rl3 : Option Nat) (rl4 : Option Nat) (xl5 : Int32) (h : ql_H) : Prop :=
vp_in (xl5 + (1 : Int32)) L9 ∧
vp_in (xl5 + (2 : Int32)) L9 ∧
qw_L_uncite rl1 (xs9 (xl5 + (1 : Int32)).toNatClampNeg) (xs9 (xl5 + (2 : Int32)).toNatClampNeg) rl3 h (fun x37 h =>
vp_in (xl5 + (1 : Int32)) L9 ∧
vp_in (xl5 + (2 : Int32)) L9 ∧
ql_rv h rl2 13 fun b38 => qw_X12_uncite b38 (xs9 (xl5 + (1 : Int32)).toNatClampNeg) (xs9 (xl5 + (2 : Int32)).toNatClampNeg) h (fun x38 h =>
ql_rv h rl2 13 fun b40 => qw_X12_thrown b40  h (fun x40 h =>
if x40 = x37 then (if x37 = 0 then (ql_lJ h rl3 (0 : Int32) fun j42 =>
if (lg_cmp j42 x38.toInt64) = 0 then (qw_L_law_779 σ L9 xs9 a0 Q X k28 rl1 rl2 rl3 rl4 xl5 h) else (ql_nz .boolean (0 : Int32) ∧ Q (0 : Int32) h)) else (qw_L_law_779 σ L9 xs9 a0 Q X k28 rl1 rl2 rl3 rl4 xl5 h)) else (ql_nz .boolean (0 : Int32) ∧ Q (0 : Int32) h))))
def qw_L_law_835 (σ : Nat → Nat) (L9 : Nat) (xs9 : Nat → Int32) (a0 : Nat) (Q : Int32 → ql_H → Prop) (X : String → ql_H → Prop) (k28 : Option Nat → Option Nat → Option Nat → Option Nat → Int32 → ql_H → Prop) (rl1 : Option Nat) (rl2 : Option Nat) (rl3 : Option Nat) (rl4 : Option Nat) (xl5 : Int32) (h : ql_H) : Prop :=
qw_L_law_2957 σ L9 xs9 a0 Q X k28 rl1 rl2 rl3 rl4 xl5 h
def qw_L_law_782 (σ : Nat → Nat) (L9 : Nat) (xs9 : Nat → Int32) (a0 : Nat) (Q : Int32 → ql_H → Prop) (X : String → ql_H → Prop) (k28 : Option Nat → Option Nat → Option Nat → Option Nat → Int32 → ql_H → Prop) (rl1 : Option Nat) (rl2 : Option Nat) (rl3 : Option Nat) (rl4 : Option Nat) (xl5 : Int32) (h : ql_H) : Prop :=
vp_in (xl5 + (1 : Int32)) L9 ∧
qw_L_repeal rl1 (xs9 (xl5 + (1 : Int32)).toNatClampNeg) rl3 h (fun x43 h =>
vp_in (xl5 + (1 : Int32)) L9 ∧
ql_rv h rl2 13 fun b44 => qw_X12_repeal b44 (xs9 (xl5 + (1 : Int32)).toNatClampNeg) h (fun x44 h =>
ql_rv h rl2 13 fun b46 => qw_X12_thrown b46  h (fun x46 h =>
if x46 = x43 then (if x43 = 0 then (ql_lJ h rl3 (0 : Int32) fun j48 =>
if (lg_cmp j48 x44.toInt64) = 0 then (qw_L_law_835 σ L9 xs9 a0 Q X k28 rl1 rl2 rl3 rl4 xl5 h) else (ql_nz .boolean (0 : Int32) ∧ Q (0 : Int32) h)) else (qw_L_law_835 σ L9 xs9 a0 Q X k28 rl1 rl2 rl3 rl4 xl5 h)) else (ql_nz .boolean (0 : Int32) ∧ Q (0 : Int32) h))))
def qw_L_law_838 (σ : Nat → Nat) (L9 : Nat) (xs9 : Nat → Int32) (a0 : Nat) (Q : Int32 → ql_H → Prop) (X : String → ql_H → Prop) (k28 : Option Nat → Option Nat → Option Nat → Option Nat → Int32 → ql_H → Prop) (rl1 : Option Nat) (rl2 : Option Nat) (rl3 : Option Nat) (rl4 : Option Nat) (xl5 : Int32) (h : ql_H) : Prop :=
ql_rv h rl1 12 fun b49 => qw_X11_consolidate b49  h (fun x49 h =>
ql_rv h rl2 13 fun b51 => qw_X12_consolidate b51  h (fun x51 h =>
if x49 = x51 then (qw_L_law_2957 σ L9 xs9 a0 Q X k28 rl1 rl2 rl3 rl4 xl5 h) else (ql_nz .boolean (0 : Int32) ∧ Q (0 : Int32) h))) X
def qw_L_law_904 (σ : Nat → Nat) (L9 : Nat) (xs9 : Nat → Int32) (a0 : Nat) (Q : Int32 → ql_H → Prop) (X : String → ql_H → Prop) (k28 : Option Nat → Option Nat → Option Nat → Option Nat → Int32 → ql_H → Prop) (rl1 : Option Nat) (rl2 : Option Nat) (rl3 : Option Nat) (rl4 : Option Nat) (xl5 : Int32) (h : ql_H) : Prop :=
qw_L_law_2957 σ L9 xs9 a0 Q X k28 rl1 rl2 rl3 rl4 xl5 h
def qw_L_law_851 (σ : Nat → Nat) (L9 : Nat) (xs9 : Nat → Int32) (a0 : Nat) (Q : Int32 → ql_H → Prop) (X : String → ql_H → Prop) (k28 : Option Nat → Option Nat → Option Nat → Option Nat → Int32 → ql_H → Prop) (rl1 : Option Nat) (rl2 : Option Nat) (rl3 : Option Nat) (rl4 : Option Nat) (xl5 : Int32) (h : ql_H) : Prop :=
vp_in (xl5 + (1 : Int32)) L9 ∧
qw_L_advance rl1 (xs9 (xl5 + (1 : Int32)).toNatClampNeg) rl3 h (fun x53 h =>
vp_in (xl5 + (1 : Int32)) L9 ∧
ql_rv h rl2 13 fun b54 => qw_X12_advance b54 (xs9 (xl5 + (1 : Int32)).toNatClampNeg) h (fun x54 h =>
ql_rv h rl2 13 fun b56 => qw_X12_thrown b56  h (fun x56 h =>
if x56 = x53 then (if x53 = 0 then (ql_lJ h rl3 (0 : Int32) fun j58 =>
if (lg_cmp j58 x54.toInt64) = 0 then (qw_L_law_904 σ L9 xs9 a0 Q X k28 rl1 rl2 rl3 rl4 xl5 h) else (ql_nz .boolean (0 : Int32) ∧ Q (0 : Int32) h)) else (qw_L_law_904 σ L9 xs9 a0 Q X k28 rl1 rl2 rl3 rl4 xl5 h)) else (ql_nz .boolean (0 : Int32) ∧ Q (0 : Int32) h))))
def qw_L_law_907 (σ : Nat → Nat) (L9 : Nat) (xs9 : Nat → Int32) (a0 : Nat) (Q : Int32 → ql_H → Prop) (X : String → ql_H → Prop) (k28 : Option Nat → Option Nat → Option Nat → Option Nat → Int32 → ql_H → Prop) (rl1 : Option Nat) (rl2 : Option Nat) (rl3 : Option Nat) (rl4 : Option Nat) (xl5 : Int32) (h : ql_H) : Prop :=
ql_rv h rl1 12 fun b59 => qw_X11_day b59  h (fun x59 h =>
ql_rv h rl2 13 fun b61 => qw_X12_day b61  h (fun x61 h =>
if x59 = x61 then (qw_L_law_2957 σ L9 xs9 a0 Q X k28 rl1 rl2 rl3 rl4 xl5 h) else (ql_nz .boolean (0 : Int32) ∧ Q (0 : Int32) h)))
def qw_L_law_920 (σ : Nat → Nat) (L9 : Nat) (xs9 : Nat → Int32) (a0 : Nat) (Q : Int32 → ql_H → Prop) (X : String → ql_H → Prop) (k28 : Option Nat → Option Nat → Option Nat → Option Nat → Int32 → ql_H → Prop) (rl1 : Option Nat) (rl2 : Option Nat) (rl3 : Option Nat) (rl4 : Option Nat) (xl5 : Int32) (h : ql_H) : Prop :=
ql_rv h rl1 12 fun b63 => qw_X11_clauseCount b63  h (fun x63 h =>
ql_rv h rl2 13 fun b65 => qw_X12_clauseCount b65  h (fun x65 h =>
if x63 = x65 then (qw_L_law_2957 σ L9 xs9 a0 Q X k28 rl1 rl2 rl3 rl4 xl5 h) else (ql_nz .boolean (0 : Int32) ∧ Q (0 : Int32) h)))
def qw_L_law_986 (σ : Nat → Nat) (L9 : Nat) (xs9 : Nat → Int32) (a0 : Nat) (Q : Int32 → ql_H → Prop) (X : String → ql_H → Prop) (k28 : Option Nat → Option Nat → Option Nat → Option Nat → Int32 → ql_H → Prop) (rl1 : Option Nat) (rl2 : Option Nat) (rl3 : Option Nat) (rl4 : Option Nat) (xl5 : Int32) (h : ql_H) : Prop :=
qw_L_law_2957 σ L9 xs9 a0 Q X k28 rl1 rl2 rl3 rl4 xl5 h
def qw_L_law_933 (σ : Nat → Nat) (L9 : Nat) (xs9 : Nat → Int32) (a0 : Nat) (Q : Int32 → ql_H → Prop) (X : String → ql_H → Prop) (k28 : Option Nat → Option Nat → Option Nat → Option Nat → Int32 → ql_H → Prop) (rl1 : Option Nat) (rl2 : Option Nat) (rl3 : Option Nat) (rl4 : Option Nat) (xl5 : Int32) (h : ql_H) : Prop :=
vp_in (xl5 + (1 : Int32)) L9 ∧
qw_L_clauseAt rl1 (xs9 (xl5 + (1 : Int32)).toNatClampNeg) rl3 h (fun x67 h =>
vp_in (xl5 + (1 : Int32)) L9 ∧
ql_rv h rl2 13 fun b68 => qw_X12_clauseAt b68 (xs9 (xl5 + (1 : Int32)).toNatClampNeg) h (fun x68 h =>
ql_rv h rl2 13 fun b70 => qw_X12_thrown b70  h (fun x70 h =>
if x70 = x67 then (if x67 = 0 then (ql_lJ h rl3 (0 : Int32) fun j72 =>
if (lg_cmp j72 x68.toInt64) = 0 then (qw_L_law_986 σ L9 xs9 a0 Q X k28 rl1 rl2 rl3 rl4 xl5 h) else (ql_nz .boolean (0 : Int32) ∧ Q (0 : Int32) h)) else (qw_L_law_986 σ L9 xs9 a0 Q X k28 rl1 rl2 rl3 rl4 xl5 h)) else (ql_nz .boolean (0 : Int32) ∧ Q (0 : Int32) h))))
def qw_L_law_1042 (σ : Nat → Nat) (L9 : Nat) (xs9 : Nat → Int32) (a0 : Nat) (Q : Int32 → ql_H → Prop) (X : String → ql_H → Prop) (k28 : Option Nat → Option Nat → Option Nat → Option Nat → Int32 → ql_H → Prop) (rl1 : Option Nat) (rl2 : Option Nat) (rl3 : Option Nat) (rl4 : Option Nat) (xl5 : Int32) (h : ql_H) : Prop :=
qw_L_law_2957 σ L9 xs9 a0 Q X k28 rl1 rl2 rl3 rl4 xl5 h
def qw_L_law_989 (σ : Nat → Nat) (L9 : Nat) (xs9 : Nat → Int32) (a0 : Nat) (Q : Int32 → ql_H → Prop) (X : String → ql_H → Prop) (k28 : Option Nat → Option Nat → Option Nat → Option Nat → Int32 → ql_H → Prop) (rl1 : Option Nat) (rl2 : Option Nat) (rl3 : Option Nat) (rl4 : Option Nat) (xl5 : Int32) (h : ql_H) : Prop :=
vp_in (xl5 + (1 : Int32)) L9 ∧
qw_L_clauseOfSection rl1 (xs9 (xl5 + (1 : Int32)).toNatClampNeg) rl3 h (fun x73 h =>
vp_in (xl5 + (1 : Int32)) L9 ∧
ql_rv h rl2 13 fun b74 => qw_X12_clauseOfSection b74 (xs9 (xl5 + (1 : Int32)).toNatClampNeg) h (fun x74 h =>
ql_rv h rl2 13 fun b76 => qw_X12_thrown b76  h (fun x76 h =>
if x76 = x73 then (if x73 = 0 then (ql_lJ h rl3 (0 : Int32) fun j78 =>
if (lg_cmp j78 x74.toInt64) = 0 then (qw_L_law_1042 σ L9 xs9 a0 Q X k28 rl1 rl2 rl3 rl4 xl5 h) else (ql_nz .boolean (0 : Int32) ∧ Q (0 : Int32) h)) else (qw_L_law_1042 σ L9 xs9 a0 Q X k28 rl1 rl2 rl3 rl4 xl5 h)) else (ql_nz .boolean (0 : Int32) ∧ Q (0 : Int32) h))))
def qw_L_law_1098 (σ : Nat → Nat) (L9 : Nat) (xs9 : Nat → Int32) (a0 : Nat) (Q : Int32 → ql_H → Prop) (X : String → ql_H → Prop) (k28 : Option Nat → Option Nat → Option Nat → Option Nat → Int32 → ql_H → Prop) (rl1 : Option Nat) (rl2 : Option Nat) (rl3 : Option Nat) (rl4 : Option Nat) (xl5 : Int32) (h : ql_H) : Prop :=
qw_L_law_2957 σ L9 xs9 a0 Q X k28 rl1 rl2 rl3 rl4 xl5 h
def qw_L_law_1045 (σ : Nat → Nat) (L9 : Nat) (xs9 : Nat → Int32) (a0 : Nat) (Q : Int32 → ql_H → Prop) (X : String → ql_H → Prop) (k28 : Option Nat → Option Nat → Option Nat → Option Nat → Int32 → ql_H → Prop) (rl1 : Option Nat) (rl2 : Option Nat) (rl3 : Option Nat) (rl4 : Option Nat) (xl5 : Int32) (h : ql_H) : Prop :=
vp_in (xl5 + (1 : Int32)) L9 ∧
qw_L_section rl1 (xs9 (xl5 + (1 : Int32)).toNatClampNeg) rl3 h (fun x79 h =>
vp_in (xl5 + (1 : Int32)) L9 ∧
ql_rv h rl2 13 fun b80 => qw_X12_section b80 (xs9 (xl5 + (1 : Int32)).toNatClampNeg) h (fun x80 h =>
ql_rv h rl2 13 fun b82 => qw_X12_thrown b82  h (fun x82 h =>
if x82 = x79 then (if x79 = 0 then (ql_lJ h rl3 (0 : Int32) fun j84 =>
if (lg_cmp j84 x80.toInt64) = 0 then (qw_L_law_1098 σ L9 xs9 a0 Q X k28 rl1 rl2 rl3 rl4 xl5 h) else (ql_nz .boolean (0 : Int32) ∧ Q (0 : Int32) h)) else (qw_L_law_1098 σ L9 xs9 a0 Q X k28 rl1 rl2 rl3 rl4 xl5 h)) else (ql_nz .boolean (0 : Int32) ∧ Q (0 : Int32) h))))
def qw_L_law_1154 (σ : Nat → Nat) (L9 : Nat) (xs9 : Nat → Int32) (a0 : Nat) (Q : Int32 → ql_H → Prop) (X : String → ql_H → Prop) (k28 : Option Nat → Option Nat → Option Nat → Option Nat → Int32 → ql_H → Prop) (rl1 : Option Nat) (rl2 : Option Nat) (rl3 : Option Nat) (rl4 : Option Nat) (xl5 : Int32) (h : ql_H) : Prop :=
qw_L_law_2957 σ L9 xs9 a0 Q X k28 rl1 rl2 rl3 rl4 xl5 h
def qw_L_law_1101 (σ : Nat → Nat) (L9 : Nat) (xs9 : Nat → Int32) (a0 : Nat) (Q : Int32 → ql_H → Prop) (X : String → ql_H → Prop) (k28 : Option Nat → Option Nat → Option Nat → Option Nat → Int32 → ql_H → Prop) (rl1 : Option Nat) (rl2 : Option Nat) (rl3 : Option Nat) (rl4 : Option Nat) (xl5 : Int32) (h : ql_H) : Prop :=
vp_in (xl5 + (1 : Int32)) L9 ∧
qw_L_enactedOn rl1 (xs9 (xl5 + (1 : Int32)).toNatClampNeg) rl3 h (fun x85 h =>
vp_in (xl5 + (1 : Int32)) L9 ∧
ql_rv h rl2 13 fun b86 => qw_X12_enactedOn b86 (xs9 (xl5 + (1 : Int32)).toNatClampNeg) h (fun x86 h =>
ql_rv h rl2 13 fun b88 => qw_X12_thrown b88  h (fun x88 h =>
if x88 = x85 then (if x85 = 0 then (ql_lJ h rl3 (0 : Int32) fun j90 =>
if (lg_cmp j90 x86.toInt64) = 0 then (qw_L_law_1154 σ L9 xs9 a0 Q X k28 rl1 rl2 rl3 rl4 xl5 h) else (ql_nz .boolean (0 : Int32) ∧ Q (0 : Int32) h)) else (qw_L_law_1154 σ L9 xs9 a0 Q X k28 rl1 rl2 rl3 rl4 xl5 h)) else (ql_nz .boolean (0 : Int32) ∧ Q (0 : Int32) h))))
def qw_L_law_1210 (σ : Nat → Nat) (L9 : Nat) (xs9 : Nat → Int32) (a0 : Nat) (Q : Int32 → ql_H → Prop) (X : String → ql_H → Prop) (k28 : Option Nat → Option Nat → Option Nat → Option Nat → Int32 → ql_H → Prop) (rl1 : Option Nat) (rl2 : Option Nat) (rl3 : Option Nat) (rl4 : Option Nat) (xl5 : Int32) (h : ql_H) : Prop :=
qw_L_law_2957 σ L9 xs9 a0 Q X k28 rl1 rl2 rl3 rl4 xl5 h
def qw_L_law_1157 (σ : Nat → Nat) (L9 : Nat) (xs9 : Nat → Int32) (a0 : Nat) (Q : Int32 → ql_H → Prop) (X : String → ql_H → Prop) (k28 : Option Nat → Option Nat → Option Nat → Option Nat → Int32 → ql_H → Prop) (rl1 : Option Nat) (rl2 : Option Nat) (rl3 : Option Nat) (rl4 : Option Nat) (xl5 : Int32) (h : ql_H) : Prop :=
vp_in (xl5 + (1 : Int32)) L9 ∧
qw_L_sunset rl1 (xs9 (xl5 + (1 : Int32)).toNatClampNeg) rl3 h (fun x91 h =>
vp_in (xl5 + (1 : Int32)) L9 ∧
ql_rv h rl2 13 fun b92 => qw_X12_sunset b92 (xs9 (xl5 + (1 : Int32)).toNatClampNeg) h (fun x92 h =>
ql_rv h rl2 13 fun b94 => qw_X12_thrown b94  h (fun x94 h =>
if x94 = x91 then (if x91 = 0 then (ql_lJ h rl3 (0 : Int32) fun j96 =>
if (lg_cmp j96 x92.toInt64) = 0 then (qw_L_law_1210 σ L9 xs9 a0 Q X k28 rl1 rl2 rl3 rl4 xl5 h) else (ql_nz .boolean (0 : Int32) ∧ Q (0 : Int32) h)) else (qw_L_law_1210 σ L9 xs9 a0 Q X k28 rl1 rl2 rl3 rl4 xl5 h)) else (ql_nz .boolean (0 : Int32) ∧ Q (0 : Int32) h))))
def qw_L_law_1285 (σ : Nat → Nat) (L9 : Nat) (xs9 : Nat → Int32) (a0 : Nat) (Q : Int32 → ql_H → Prop) (X : String → ql_H → Prop) (k28 : Option Nat → Option Nat → Option Nat → Option Nat → Int32 → ql_H → Prop) (rl1 : Option Nat) (rl2 : Option Nat) (rl3 : Option Nat) (rl4 : Option Nat) (xl5 : Int32) (h : ql_H) : Prop :=
qw_L_law_2957 σ L9 xs9 a0 Q X k28 rl1 rl2 rl3 rl4 xl5 h
def qw_L_law_1279 (σ : Nat → Nat) (L9 : Nat) (xs9 : Nat → Int32) (a0 : Nat) (Q : Int32 → ql_H → Prop) (X : String → ql_H → Prop) (k28 : Option Nat → Option Nat → Option Nat → Option Nat → Int32 → ql_H → Prop) (rl1 : Option Nat) (rl2 : Option Nat) (rl3 : Option Nat) (rl4 : Option Nat) (xl5 : Int32) (js0 : Int64) (js1 : Int64) (h : ql_H) : Prop :=
if (lg_cmp js0 js1) = 0 then (qw_L_law_1285 σ L9 xs9 a0 Q X k28 rl1 rl2 rl3 rl4 xl5 h) else (ql_nz .boolean (0 : Int32) ∧ Q (0 : Int32) h)
def qw_L_law_1213 (σ : Nat → Nat) (L9 : Nat) (xs9 : Nat → Int32) (a0 : Nat) (Q : Int32 → ql_H → Prop) (X : String → ql_H → Prop) (k28 : Option Nat → Option Nat → Option Nat → Option Nat → Int32 → ql_H → Prop) (rl1 : Option Nat) (rl2 : Option Nat) (rl3 : Option Nat) (rl4 : Option Nat) (xl5 : Int32) (h : ql_H) : Prop :=
vp_in (xl5 + (1 : Int32)) L9 ∧
vp_in (xl5 + (2 : Int32)) L9 ∧
qw_L_isInForce rl1 (xs9 (xl5 + (1 : Int32)).toNatClampNeg) (xs9 (xl5 + (2 : Int32)).toNatClampNeg) rl3 h (fun x97 h =>
vp_in (xl5 + (1 : Int32)) L9 ∧
vp_in (xl5 + (2 : Int32)) L9 ∧
ql_rv h rl2 13 fun b98 => qw_X12_isInForce b98 (xs9 (xl5 + (1 : Int32)).toNatClampNeg) (xs9 (xl5 + (2 : Int32)).toNatClampNeg) h (fun x98 h =>
ql_rv h rl2 13 fun b100 => qw_X12_thrown b100  h (fun x100 h =>
if x100 = x97 then (if x97 = 0 then (ql_lJ h rl3 (0 : Int32) fun j102 =>
if x98 = 0 then (qw_L_law_1279 σ L9 xs9 a0 Q X k28 rl1 rl2 rl3 rl4 xl5 j102 (0 : Int64) h) else (qw_L_law_1279 σ L9 xs9 a0 Q X k28 rl1 rl2 rl3 rl4 xl5 j102 (1 : Int64) h)) else (qw_L_law_1285 σ L9 xs9 a0 Q X k28 rl1 rl2 rl3 rl4 xl5 h)) else (ql_nz .boolean (0 : Int32) ∧ Q (0 : Int32) h))))
def qw_L_law_1348 (σ : Nat → Nat) (L9 : Nat) (xs9 : Nat → Int32) (a0 : Nat) (Q : Int32 → ql_H → Prop) (X : String → ql_H → Prop) (k28 : Option Nat → Option Nat → Option Nat → Option Nat → Int32 → ql_H → Prop) (rl1 : Option Nat) (rl2 : Option Nat) (rl3 : Option Nat) (rl4 : Option Nat) (xl5 : Int32) (h : ql_H) : Prop :=
qw_L_law_2957 σ L9 xs9 a0 Q X k28 rl1 rl2 rl3 rl4 xl5 h
def qw_L_law_1342 (σ : Nat → Nat) (L9 : Nat) (xs9 : Nat → Int32) (a0 : Nat) (Q : Int32 → ql_H → Prop) (X : String → ql_H → Prop) (k28 : Option Nat → Option Nat → Option Nat → Option Nat → Int32 → ql_H → Prop) (rl1 : Option Nat) (rl2 : Option Nat) (rl3 : Option Nat) (rl4 : Option Nat) (xl5 : Int32) (js0 : Int64) (js1 : Int64) (h : ql_H) : Prop :=
if (lg_cmp js0 js1) = 0 then (qw_L_law_1348 σ L9 xs9 a0 Q X k28 rl1 rl2 rl3 rl4 xl5 h) else (ql_nz .boolean (0 : Int32) ∧ Q (0 : Int32) h)
def qw_L_law_1288 (σ : Nat → Nat) (L9 : Nat) (xs9 : Nat → Int32) (a0 : Nat) (Q : Int32 → ql_H → Prop) (X : String → ql_H → Prop) (k28 : Option Nat → Option Nat → Option Nat → Option Nat → Int32 → ql_H → Prop) (rl1 : Option Nat) (rl2 : Option Nat) (rl3 : Option Nat) (rl4 : Option Nat) (xl5 : Int32) (h : ql_H) : Prop :=
vp_in (xl5 + (1 : Int32)) L9 ∧
qw_L_hasLapsed rl1 (xs9 (xl5 + (1 : Int32)).toNatClampNeg) rl3 h (fun x103 h =>
vp_in (xl5 + (1 : Int32)) L9 ∧
ql_rv h rl2 13 fun b104 => qw_X12_hasLapsed b104 (xs9 (xl5 + (1 : Int32)).toNatClampNeg) h (fun x104 h =>
ql_rv h rl2 13 fun b106 => qw_X12_thrown b106  h (fun x106 h =>
if x106 = x103 then (if x103 = 0 then (ql_lJ h rl3 (0 : Int32) fun j108 =>
if x104 = 0 then (qw_L_law_1342 σ L9 xs9 a0 Q X k28 rl1 rl2 rl3 rl4 xl5 j108 (0 : Int64) h) else (qw_L_law_1342 σ L9 xs9 a0 Q X k28 rl1 rl2 rl3 rl4 xl5 j108 (1 : Int64) h)) else (qw_L_law_1348 σ L9 xs9 a0 Q X k28 rl1 rl2 rl3 rl4 xl5 h)) else (ql_nz .boolean (0 : Int32) ∧ Q (0 : Int32) h))))
def qw_L_law_1351 (σ : Nat → Nat) (L9 : Nat) (xs9 : Nat → Int32) (a0 : Nat) (Q : Int32 → ql_H → Prop) (X : String → ql_H → Prop) (k28 : Option Nat → Option Nat → Option Nat → Option Nat → Int32 → ql_H → Prop) (rl1 : Option Nat) (rl2 : Option Nat) (rl3 : Option Nat) (rl4 : Option Nat) (xl5 : Int32) (h : ql_H) : Prop :=
vp_in (xl5 + (1 : Int32)) L9 ∧
ql_rv h rl1 12 fun b109 => qw_X11_inForceOn b109 (xs9 (xl5 + (1 : Int32)).toNatClampNeg) h (fun x109 h =>
vp_in (xl5 + (1 : Int32)) L9 ∧
ql_rv h rl2 13 fun b111 => qw_X12_inForceOn b111 (xs9 (xl5 + (1 : Int32)).toNatClampNeg) h (fun x111 h =>
if x109 = x111 then (qw_L_law_2957 σ L9 xs9 a0 Q X k28 rl1 rl2 rl3 rl4 xl5 h) else (ql_nz .boolean (0 : Int32) ∧ Q (0 : Int32) h)))
def qw_L_law_1429 (σ : Nat → Nat) (L9 : Nat) (xs9 : Nat → Int32) (a0 : Nat) (Q : Int32 → ql_H → Prop) (X : String → ql_H → Prop) (k28 : Option Nat → Option Nat → Option Nat → Option Nat → Int32 → ql_H → Prop) (rl1 : Option Nat) (rl2 : Option Nat) (rl3 : Option Nat) (rl4 : Option Nat) (xl5 : Int32) (h : ql_H) : Prop :=
qw_L_law_2957 σ L9 xs9 a0 Q X k28 rl1 rl2 rl3 rl4 xl5 h
def qw_L_law_1376 (σ : Nat → Nat) (L9 : Nat) (xs9 : Nat → Int32) (a0 : Nat) (Q : Int32 → ql_H → Prop) (X : String → ql_H → Prop) (k28 : Option Nat → Option Nat → Option Nat → Option Nat → Int32 → ql_H → Prop) (rl1 : Option Nat) (rl2 : Option Nat) (rl3 : Option Nat) (rl4 : Option Nat) (xl5 : Int32) (h : ql_H) : Prop :=
vp_in (xl5 + (1 : Int32)) L9 ∧
qw_L_daysUntilLapsed rl1 (xs9 (xl5 + (1 : Int32)).toNatClampNeg) rl3 h (fun x113 h =>
vp_in (xl5 + (1 : Int32)) L9 ∧
ql_rv h rl2 13 fun b114 => qw_X12_daysUntilLapsed b114 (xs9 (xl5 + (1 : Int32)).toNatClampNeg) h (fun x114 h =>
ql_rv h rl2 13 fun b116 => qw_X12_thrown b116  h (fun x116 h =>
if x116 = x113 then (if x113 = 0 then (ql_lJ h rl3 (0 : Int32) fun j118 =>
if (lg_cmp j118 x114.toInt64) = 0 then (qw_L_law_1429 σ L9 xs9 a0 Q X k28 rl1 rl2 rl3 rl4 xl5 h) else (ql_nz .boolean (0 : Int32) ∧ Q (0 : Int32) h)) else (qw_L_law_1429 σ L9 xs9 a0 Q X k28 rl1 rl2 rl3 rl4 xl5 h)) else (ql_nz .boolean (0 : Int32) ∧ Q (0 : Int32) h))))
def qw_L_law_1485 (σ : Nat → Nat) (L9 : Nat) (xs9 : Nat → Int32) (a0 : Nat) (Q : Int32 → ql_H → Prop) (X : String → ql_H → Prop) (k28 : Option Nat → Option Nat → Option Nat → Option Nat → Int32 → ql_H → Prop) (rl1 : Option Nat) (rl2 : Option Nat) (rl3 : Option Nat) (rl4 : Option Nat) (xl5 : Int32) (h : ql_H) : Prop :=
qw_L_law_2957 σ L9 xs9 a0 Q X k28 rl1 rl2 rl3 rl4 xl5 h
def qw_L_law_1432 (σ : Nat → Nat) (L9 : Nat) (xs9 : Nat → Int32) (a0 : Nat) (Q : Int32 → ql_H → Prop) (X : String → ql_H → Prop) (k28 : Option Nat → Option Nat → Option Nat → Option Nat → Int32 → ql_H → Prop) (rl1 : Option Nat) (rl2 : Option Nat) (rl3 : Option Nat) (rl4 : Option Nat) (xl5 : Int32) (h : ql_H) : Prop :=
vp_in (xl5 + (1 : Int32)) L9 ∧
qw_L_length rl1 (xs9 (xl5 + (1 : Int32)).toNatClampNeg) rl3 h (fun x119 h =>
vp_in (xl5 + (1 : Int32)) L9 ∧
ql_rv h rl2 13 fun b120 => qw_X12_length b120 (xs9 (xl5 + (1 : Int32)).toNatClampNeg) h (fun x120 h =>
ql_rv h rl2 13 fun b122 => qw_X12_thrown b122  h (fun x122 h =>
if x122 = x119 then (if x119 = 0 then (ql_lJ h rl3 (0 : Int32) fun j124 =>
if (lg_cmp j124 x120.toInt64) = 0 then (qw_L_law_1485 σ L9 xs9 a0 Q X k28 rl1 rl2 rl3 rl4 xl5 h) else (ql_nz .boolean (0 : Int32) ∧ Q (0 : Int32) h)) else (qw_L_law_1485 σ L9 xs9 a0 Q X k28 rl1 rl2 rl3 rl4 xl5 h)) else (ql_nz .boolean (0 : Int32) ∧ Q (0 : Int32) h))))
def qw_L_law_1553 (σ : Nat → Nat) (L9 : Nat) (xs9 : Nat → Int32) (a0 : Nat) (Q : Int32 → ql_H → Prop) (X : String → ql_H → Prop) (k28 : Option Nat → Option Nat → Option Nat → Option Nat → Int32 → ql_H → Prop) (rl1 : Option Nat) (rl2 : Option Nat) (rl3 : Option Nat) (rl4 : Option Nat) (xl5 : Int32) (h : ql_H) : Prop :=
qw_L_law_2957 σ L9 xs9 a0 Q X k28 rl1 rl2 rl3 rl4 xl5 h
def qw_L_law_1488 (σ : Nat → Nat) (L9 : Nat) (xs9 : Nat → Int32) (a0 : Nat) (Q : Int32 → ql_H → Prop) (X : String → ql_H → Prop) (k28 : Option Nat → Option Nat → Option Nat → Option Nat → Int32 → ql_H → Prop) (rl1 : Option Nat) (rl2 : Option Nat) (rl3 : Option Nat) (rl4 : Option Nat) (xl5 : Int32) (h : ql_H) : Prop :=
vp_in (xl5 + (1 : Int32)) L9 ∧
vp_in (xl5 + (2 : Int32)) L9 ∧
qw_L_noteAt rl1 (xs9 (xl5 + (1 : Int32)).toNatClampNeg) (xs9 (xl5 + (2 : Int32)).toNatClampNeg) rl3 h (fun x125 h =>
vp_in (xl5 + (1 : Int32)) L9 ∧
vp_in (xl5 + (2 : Int32)) L9 ∧
ql_rv h rl2 13 fun b126 => qw_X12_noteAt b126 (xs9 (xl5 + (1 : Int32)).toNatClampNeg) (xs9 (xl5 + (2 : Int32)).toNatClampNeg) h (fun x126 h =>
ql_rv h rl2 13 fun b128 => qw_X12_thrown b128  h (fun x128 h =>
if x128 = x125 then (if x125 = 0 then (ql_lJ h rl3 (0 : Int32) fun j130 =>
if (lg_cmp j130 x126.toInt64) = 0 then (qw_L_law_1553 σ L9 xs9 a0 Q X k28 rl1 rl2 rl3 rl4 xl5 h) else (ql_nz .boolean (0 : Int32) ∧ Q (0 : Int32) h)) else (qw_L_law_1553 σ L9 xs9 a0 Q X k28 rl1 rl2 rl3 rl4 xl5 h)) else (ql_nz .boolean (0 : Int32) ∧ Q (0 : Int32) h))))
def qw_L_law_1609 (σ : Nat → Nat) (L9 : Nat) (xs9 : Nat → Int32) (a0 : Nat) (Q : Int32 → ql_H → Prop) (X : String → ql_H → Prop) (k28 : Option Nat → Option Nat → Option Nat → Option Nat → Int32 → ql_H → Prop) (rl1 : Option Nat) (rl2 : Option Nat) (rl3 : Option Nat) (rl4 : Option Nat) (xl5 : Int32) (h : ql_H) : Prop :=
qw_L_law_2957 σ L9 xs9 a0 Q X k28 rl1 rl2 rl3 rl4 xl5 h
def qw_L_law_1556 (σ : Nat → Nat) (L9 : Nat) (xs9 : Nat → Int32) (a0 : Nat) (Q : Int32 → ql_H → Prop) (X : String → ql_H → Prop) (k28 : Option Nat → Option Nat → Option Nat → Option Nat → Int32 → ql_H → Prop) (rl1 : Option Nat) (rl2 : Option Nat) (rl3 : Option Nat) (rl4 : Option Nat) (xl5 : Int32) (h : ql_H) : Prop :=
vp_in (xl5 + (1 : Int32)) L9 ∧
qw_L_versionCount rl1 (xs9 (xl5 + (1 : Int32)).toNatClampNeg) rl3 h (fun x131 h =>
vp_in (xl5 + (1 : Int32)) L9 ∧
ql_rv h rl2 13 fun b132 => qw_X12_versionCount b132 (xs9 (xl5 + (1 : Int32)).toNatClampNeg) h (fun x132 h =>
ql_rv h rl2 13 fun b134 => qw_X12_thrown b134  h (fun x134 h =>
if x134 = x131 then (if x131 = 0 then (ql_lJ h rl3 (0 : Int32) fun j136 =>
if (lg_cmp j136 x132.toInt64) = 0 then (qw_L_law_1609 σ L9 xs9 a0 Q X k28 rl1 rl2 rl3 rl4 xl5 h) else (ql_nz .boolean (0 : Int32) ∧ Q (0 : Int32) h)) else (qw_L_law_1609 σ L9 xs9 a0 Q X k28 rl1 rl2 rl3 rl4 xl5 h)) else (ql_nz .boolean (0 : Int32) ∧ Q (0 : Int32) h))))
def qw_L_law_1677 (σ : Nat → Nat) (L9 : Nat) (xs9 : Nat → Int32) (a0 : Nat) (Q : Int32 → ql_H → Prop) (X : String → ql_H → Prop) (k28 : Option Nat → Option Nat → Option Nat → Option Nat → Int32 → ql_H → Prop) (rl1 : Option Nat) (rl2 : Option Nat) (rl3 : Option Nat) (rl4 : Option Nat) (xl5 : Int32) (h : ql_H) : Prop :=
qw_L_law_2957 σ L9 xs9 a0 Q X k28 rl1 rl2 rl3 rl4 xl5 h
def qw_L_law_1612 (σ : Nat → Nat) (L9 : Nat) (xs9 : Nat → Int32) (a0 : Nat) (Q : Int32 → ql_H → Prop) (X : String → ql_H → Prop) (k28 : Option Nat → Option Nat → Option Nat → Option Nat → Int32 → ql_H → Prop) (rl1 : Option Nat) (rl2 : Option Nat) (rl3 : Option Nat) (rl4 : Option Nat) (xl5 : Int32) (h : ql_H) : Prop :=
vp_in (xl5 + (1 : Int32)) L9 ∧
vp_in (xl5 + (2 : Int32)) L9 ∧
qw_L_lengthOn rl1 (xs9 (xl5 + (1 : Int32)).toNatClampNeg) (xs9 (xl5 + (2 : Int32)).toNatClampNeg) rl3 h (fun x137 h =>
vp_in (xl5 + (1 : Int32)) L9 ∧
vp_in (xl5 + (2 : Int32)) L9 ∧
ql_rv h rl2 13 fun b138 => qw_X12_lengthOn b138 (xs9 (xl5 + (1 : Int32)).toNatClampNeg) (xs9 (xl5 + (2 : Int32)).toNatClampNeg) h (fun x138 h =>
ql_rv h rl2 13 fun b140 => qw_X12_thrown b140  h (fun x140 h =>
if x140 = x137 then (if x137 = 0 then (ql_lJ h rl3 (0 : Int32) fun j142 =>
if (lg_cmp j142 x138.toInt64) = 0 then (qw_L_law_1677 σ L9 xs9 a0 Q X k28 rl1 rl2 rl3 rl4 xl5 h) else (ql_nz .boolean (0 : Int32) ∧ Q (0 : Int32) h)) else (qw_L_law_1677 σ L9 xs9 a0 Q X k28 rl1 rl2 rl3 rl4 xl5 h)) else (ql_nz .boolean (0 : Int32) ∧ Q (0 : Int32) h))))
def qw_L_law_1757 (σ : Nat → Nat) (L9 : Nat) (xs9 : Nat → Int32) (a0 : Nat) (Q : Int32 → ql_H → Prop) (X : String → ql_H → Prop) (k28 : Option Nat → Option Nat → Option Nat → Option Nat → Int32 → ql_H → Prop) (rl1 : Option Nat) (rl2 : Option Nat) (rl3 : Option Nat) (rl4 : Option Nat) (xl5 : Int32) (h : ql_H) : Prop :=
qw_L_law_2957 σ L9 xs9 a0 Q X k28 rl1 rl2 rl3 rl4 xl5 h
def qw_L_law_1680 (σ : Nat → Nat) (L9 : Nat) (xs9 : Nat → Int32) (a0 : Nat) (Q : Int32 → ql_H → Prop) (X : String → ql_H → Prop) (k28 : Option Nat → Option Nat → Option Nat → Option Nat → Int32 → ql_H → Prop) (rl1 : Option Nat) (rl2 : Option Nat) (rl3 : Option Nat) (rl4 : Option Nat) (xl5 : Int32) (h : ql_H) : Prop :=
vp_in (xl5 + (1 : Int32)) L9 ∧
vp_in (xl5 + (2 : Int32)) L9 ∧
vp_in (xl5 + (3 : Int32)) L9 ∧
qw_L_noteOn rl1 (xs9 (xl5 + (1 : Int32)).toNatClampNeg) (xs9 (xl5 + (2 : Int32)).toNatClampNeg) (xs9 (xl5 + (3 : Int32)).toNatClampNeg) rl3 h (fun x143 h =>
vp_in (xl5 + (1 : Int32)) L9 ∧
vp_in (xl5 + (2 : Int32)) L9 ∧
vp_in (xl5 + (3 : Int32)) L9 ∧
ql_rv h rl2 13 fun b144 => qw_X12_noteOn b144 (xs9 (xl5 + (1 : Int32)).toNatClampNeg) (xs9 (xl5 + (2 : Int32)).toNatClampNeg) (xs9 (xl5 + (3 : Int32)).toNatClampNeg) h (fun x144 h =>
ql_rv h rl2 13 fun b146 => qw_X12_thrown b146  h (fun x146 h =>
if x146 = x143 then (if x143 = 0 then (ql_lJ h rl3 (0 : Int32) fun j148 =>
if (lg_cmp j148 x144.toInt64) = 0 then (qw_L_law_1757 σ L9 xs9 a0 Q X k28 rl1 rl2 rl3 rl4 xl5 h) else (ql_nz .boolean (0 : Int32) ∧ Q (0 : Int32) h)) else (qw_L_law_1757 σ L9 xs9 a0 Q X k28 rl1 rl2 rl3 rl4 xl5 h)) else (ql_nz .boolean (0 : Int32) ∧ Q (0 : Int32) h))))
def qw_L_law_1837 (σ : Nat → Nat) (L9 : Nat) (xs9 : Nat → Int32) (a0 : Nat) (Q : Int32 → ql_H → Prop) (X : String → ql_H → Prop) (k28 : Option Nat → Option Nat → Option Nat → Option Nat → Int32 → ql_H → Prop) (rl1 : Option Nat) (rl2 : Option Nat) (rl3 : Option Nat) (rl4 : Option Nat) (xl5 : Int32) (h : ql_H) : Prop :=
qw_L_law_2957 σ L9 xs9 a0 Q X k28 rl1 rl2 rl3 rl4 xl5 h
def qw_L_law_1760 (σ : Nat → Nat) (L9 : Nat) (xs9 : Nat → Int32) (a0 : Nat) (Q : Int32 → ql_H → Prop) (X : String → ql_H → Prop) (k28 : Option Nat → Option Nat → Option Nat → Option Nat → Int32 → ql_H → Prop) (rl1 : Option Nat) (rl2 : Option Nat) (rl3 : Option Nat) (rl4 : Option Nat) (xl5 : Int32) (h : ql_H) : Prop :=
vp_in (xl5 + (1 : Int32)) L9 ∧
vp_in (xl5 + (2 : Int32)) L9 ∧
vp_in (xl5 + (3 : Int32)) L9 ∧
qw_L_difference rl1 (xs9 (xl5 + (1 : Int32)).toNatClampNeg) (xs9 (xl5 + (2 : Int32)).toNatClampNeg) (xs9 (xl5 + (3 : Int32)).toNatClampNeg) rl3 h (fun x149 h =>
vp_in (xl5 + (1 : Int32)) L9 ∧
vp_in (xl5 + (2 : Int32)) L9 ∧
vp_in (xl5 + (3 : Int32)) L9 ∧
ql_rv h rl2 13 fun b150 => qw_X12_difference b150 (xs9 (xl5 + (1 : Int32)).toNatClampNeg) (xs9 (xl5 + (2 : Int32)).toNatClampNeg) (xs9 (xl5 + (3 : Int32)).toNatClampNeg) h (fun x150 h =>
ql_rv h rl2 13 fun b152 => qw_X12_thrown b152  h (fun x152 h =>
if x152 = x149 then (if x149 = 0 then (ql_lJ h rl3 (0 : Int32) fun j154 =>
if (lg_cmp j154 x150.toInt64) = 0 then (qw_L_law_1837 σ L9 xs9 a0 Q X k28 rl1 rl2 rl3 rl4 xl5 h) else (ql_nz .boolean (0 : Int32) ∧ Q (0 : Int32) h)) else (qw_L_law_1837 σ L9 xs9 a0 Q X k28 rl1 rl2 rl3 rl4 xl5 h)) else (ql_nz .boolean (0 : Int32) ∧ Q (0 : Int32) h))))
def qw_L_law_1917 (σ : Nat → Nat) (L9 : Nat) (xs9 : Nat → Int32) (a0 : Nat) (Q : Int32 → ql_H → Prop) (X : String → ql_H → Prop) (k28 : Option Nat → Option Nat → Option Nat → Option Nat → Int32 → ql_H → Prop) (rl1 : Option Nat) (rl2 : Option Nat) (rl3 : Option Nat) (rl4 : Option Nat) (xl5 : Int32) (h : ql_H) : Prop :=
qw_L_law_2957 σ L9 xs9 a0 Q X k28 rl1 rl2 rl3 rl4 xl5 h
def qw_L_law_1840 (σ : Nat → Nat) (L9 : Nat) (xs9 : Nat → Int32) (a0 : Nat) (Q : Int32 → ql_H → Prop) (X : String → ql_H → Prop) (k28 : Option Nat → Option Nat → Option Nat → Option Nat → Int32 → ql_H → Prop) (rl1 : Option Nat) (rl2 : Option Nat) (rl3 : Option Nat) (rl4 : Option Nat) (xl5 : Int32) (h : ql_H) : Prop :=
vp_in (xl5 + (1 : Int32)) L9 ∧
vp_in (xl5 + (2 : Int32)) L9 ∧
vp_in (xl5 + (3 : Int32)) L9 ∧
qw_L_differenceByEnds rl1 (xs9 (xl5 + (1 : Int32)).toNatClampNeg) (xs9 (xl5 + (2 : Int32)).toNatClampNeg) (xs9 (xl5 + (3 : Int32)).toNatClampNeg) rl3 h (fun x155 h =>
vp_in (xl5 + (1 : Int32)) L9 ∧
vp_in (xl5 + (2 : Int32)) L9 ∧
vp_in (xl5 + (3 : Int32)) L9 ∧
ql_rv h rl2 13 fun b156 => qw_X12_differenceByEnds b156 (xs9 (xl5 + (1 : Int32)).toNatClampNeg) (xs9 (xl5 + (2 : Int32)).toNatClampNeg) (xs9 (xl5 + (3 : Int32)).toNatClampNeg) h (fun x156 h =>
ql_rv h rl2 13 fun b158 => qw_X12_thrown b158  h (fun x158 h =>
if x158 = x155 then (if x155 = 0 then (ql_lJ h rl3 (0 : Int32) fun j160 =>
if (lg_cmp j160 x156.toInt64) = 0 then (qw_L_law_1917 σ L9 xs9 a0 Q X k28 rl1 rl2 rl3 rl4 xl5 h) else (ql_nz .boolean (0 : Int32) ∧ Q (0 : Int32) h)) else (qw_L_law_1917 σ L9 xs9 a0 Q X k28 rl1 rl2 rl3 rl4 xl5 h)) else (ql_nz .boolean (0 : Int32) ∧ Q (0 : Int32) h))))
def qw_L_law_1920 (σ : Nat → Nat) (L9 : Nat) (xs9 : Nat → Int32) (a0 : Nat) (Q : Int32 → ql_H → Prop) (X : String → ql_H → Prop) (k28 : Option Nat → Option Nat → Option Nat → Option Nat → Int32 → ql_H → Prop) (rl1 : Option Nat) (rl2 : Option Nat) (rl3 : Option Nat) (rl4 : Option Nat) (xl5 : Int32) (h : ql_H) : Prop :=
ql_rv h rl1 12 fun b161 => qw_X11_duplicatePairs b161  h (fun x161 h =>
ql_rv h rl2 13 fun b163 => qw_X12_duplicatePairs b163  h (fun x163 h =>
if x161 = x163 then (qw_L_law_2957 σ L9 xs9 a0 Q X k28 rl1 rl2 rl3 rl4 xl5 h) else (ql_nz .boolean (0 : Int32) ∧ Q (0 : Int32) h)))
def qw_L_law_1933 (σ : Nat → Nat) (L9 : Nat) (xs9 : Nat → Int32) (a0 : Nat) (Q : Int32 → ql_H → Prop) (X : String → ql_H → Prop) (k28 : Option Nat → Option Nat → Option Nat → Option Nat → Int32 → ql_H → Prop) (rl1 : Option Nat) (rl2 : Option Nat) (rl3 : Option Nat) (rl4 : Option Nat) (xl5 : Int32) (h : ql_H) : Prop :=
ql_rv h rl1 12 fun b165 => qw_X11_duplicatePairsByComparing b165  h (fun x165 h =>
ql_rv h rl2 13 fun b167 => qw_X12_duplicatePairsByComparing b167  h (fun x167 h =>
if x165 = x167 then (qw_L_law_2957 σ L9 xs9 a0 Q X k28 rl1 rl2 rl3 rl4 xl5 h) else (ql_nz .boolean (0 : Int32) ∧ Q (0 : Int32) h)))
def qw_L_law_1999 (σ : Nat → Nat) (L9 : Nat) (xs9 : Nat → Int32) (a0 : Nat) (Q : Int32 → ql_H → Prop) (X : String → ql_H → Prop) (k28 : Option Nat → Option Nat → Option Nat → Option Nat → Int32 → ql_H → Prop) (rl1 : Option Nat) (rl2 : Option Nat) (rl3 : Option Nat) (rl4 : Option Nat) (xl5 : Int32) (h : ql_H) : Prop :=
qw_L_law_2957 σ L9 xs9 a0 Q X k28 rl1 rl2 rl3 rl4 xl5 h
def qw_L_law_1946 (σ : Nat → Nat) (L9 : Nat) (xs9 : Nat → Int32) (a0 : Nat) (Q : Int32 → ql_H → Prop) (X : String → ql_H → Prop) (k28 : Option Nat → Option Nat → Option Nat → Option Nat → Int32 → ql_H → Prop) (rl1 : Option Nat) (rl2 : Option Nat) (rl3 : Option Nat) (rl4 : Option Nat) (xl5 : Int32) (h : ql_H) : Prop :=
vp_in (xl5 + (1 : Int32)) L9 ∧
qw_L_citeCount rl1 (xs9 (xl5 + (1 : Int32)).toNatClampNeg) rl3 h (fun x169 h =>
vp_in (xl5 + (1 : Int32)) L9 ∧
ql_rv h rl2 13 fun b170 => qw_X12_citeCount b170 (xs9 (xl5 + (1 : Int32)).toNatClampNeg) h (fun x170 h =>
ql_rv h rl2 13 fun b172 => qw_X12_thrown b172  h (fun x172 h =>
if x172 = x169 then (if x169 = 0 then (ql_lJ h rl3 (0 : Int32) fun j174 =>
if (lg_cmp j174 x170.toInt64) = 0 then (qw_L_law_1999 σ L9 xs9 a0 Q X k28 rl1 rl2 rl3 rl4 xl5 h) else (ql_nz .boolean (0 : Int32) ∧ Q (0 : Int32) h)) else (qw_L_law_1999 σ L9 xs9 a0 Q X k28 rl1 rl2 rl3 rl4 xl5 h)) else (ql_nz .boolean (0 : Int32) ∧ Q (0 : Int32) h))))
def qw_L_law_2067 (σ : Nat → Nat) (L9 : Nat) (xs9 : Nat → Int32) (a0 : Nat) (Q : Int32 → ql_H → Prop) (X : String → ql_H → Prop) (k28 : Option Nat → Option Nat → Option Nat → Option Nat → Int32 → ql_H → Prop) (rl1 : Option Nat) (rl2 : Option Nat) (rl3 : Option Nat) (rl4 : Option Nat) (xl5 : Int32) (h : ql_H) : Prop :=
qw_L_law_2957 σ L9 xs9 a0 Q X k28 rl1 rl2 rl3 rl4 xl5 h
def qw_L_law_2002 (σ : Nat → Nat) (L9 : Nat) (xs9 : Nat → Int32) (a0 : Nat) (Q : Int32 → ql_H → Prop) (X : String → ql_H → Prop) (k28 : Option Nat → Option Nat → Option Nat → Option Nat → Int32 → ql_H → Prop) (rl1 : Option Nat) (rl2 : Option Nat) (rl3 : Option Nat) (rl4 : Option Nat) (xl5 : Int32) (h : ql_H) : Prop :=
vp_in (xl5 + (1 : Int32)) L9 ∧
vp_in (xl5 + (2 : Int32)) L9 ∧
qw_L_citeAt rl1 (xs9 (xl5 + (1 : Int32)).toNatClampNeg) (xs9 (xl5 + (2 : Int32)).toNatClampNeg) rl3 h (fun x175 h =>
vp_in (xl5 + (1 : Int32)) L9 ∧
vp_in (xl5 + (2 : Int32)) L9 ∧
ql_rv h rl2 13 fun b176 => qw_X12_citeAt b176 (xs9 (xl5 + (1 : Int32)).toNatClampNeg) (xs9 (xl5 + (2 : Int32)).toNatClampNeg) h (fun x176 h =>
ql_rv h rl2 13 fun b178 => qw_X12_thrown b178  h (fun x178 h =>
if x178 = x175 then (if x175 = 0 then (ql_lJ h rl3 (0 : Int32) fun j180 =>
if (lg_cmp j180 x176.toInt64) = 0 then (qw_L_law_2067 σ L9 xs9 a0 Q X k28 rl1 rl2 rl3 rl4 xl5 h) else (ql_nz .boolean (0 : Int32) ∧ Q (0 : Int32) h)) else (qw_L_law_2067 σ L9 xs9 a0 Q X k28 rl1 rl2 rl3 rl4 xl5 h)) else (ql_nz .boolean (0 : Int32) ∧ Q (0 : Int32) h))))
def qw_L_law_2070 (σ : Nat → Nat) (L9 : Nat) (xs9 : Nat → Int32) (a0 : Nat) (Q : Int32 → ql_H → Prop) (X : String → ql_H → Prop) (k28 : Option Nat → Option Nat → Option Nat → Option Nat → Int32 → ql_H → Prop) (rl1 : Option Nat) (rl2 : Option Nat) (rl3 : Option Nat) (rl4 : Option Nat) (xl5 : Int32) (h : ql_H) : Prop :=
ql_rv h rl1 12 fun b181 => qw_X11_brokenCites b181  h (fun x181 h =>
ql_rv h rl2 13 fun b183 => qw_X12_brokenCites b183  h (fun x183 h =>
if x181 = x183 then (qw_L_law_2957 σ L9 xs9 a0 Q X k28 rl1 rl2 rl3 rl4 xl5 h) else (ql_nz .boolean (0 : Int32) ∧ Q (0 : Int32) h)))
def qw_L_law_2155 (σ : Nat → Nat) (L9 : Nat) (xs9 : Nat → Int32) (a0 : Nat) (Q : Int32 → ql_H → Prop) (X : String → ql_H → Prop) (k28 : Option Nat → Option Nat → Option Nat → Option Nat → Int32 → ql_H → Prop) (rl1 : Option Nat) (rl2 : Option Nat) (rl3 : Option Nat) (rl4 : Option Nat) (xl5 : Int32) (h : ql_H) : Prop :=
qw_L_law_2957 σ L9 xs9 a0 Q X k28 rl1 rl2 rl3 rl4 xl5 h
def qw_L_law_2149 (σ : Nat → Nat) (L9 : Nat) (xs9 : Nat → Int32) (a0 : Nat) (Q : Int32 → ql_H → Prop) (X : String → ql_H → Prop) (k28 : Option Nat → Option Nat → Option Nat → Option Nat → Int32 → ql_H → Prop) (rl1 : Option Nat) (rl2 : Option Nat) (rl3 : Option Nat) (rl4 : Option Nat) (xl5 : Int32) (js0 : Int64) (js1 : Int64) (h : ql_H) : Prop :=
if (lg_cmp js0 js1) = 0 then (qw_L_law_2155 σ L9 xs9 a0 Q X k28 rl1 rl2 rl3 rl4 xl5 h) else (ql_nz .boolean (0 : Int32) ∧ Q (0 : Int32) h)
def qw_L_law_2083 (σ : Nat → Nat) (L9 : Nat) (xs9 : Nat → Int32) (a0 : Nat) (Q : Int32 → ql_H → Prop) (X : String → ql_H → Prop) (k28 : Option Nat → Option Nat → Option Nat → Option Nat → Int32 → ql_H → Prop) (rl1 : Option Nat) (rl2 : Option Nat) (rl3 : Option Nat) (rl4 : Option Nat) (xl5 : Int32) (h : ql_H) : Prop :=
vp_in (xl5 + (1 : Int32)) L9 ∧
vp_in (xl5 + (2 : Int32)) L9 ∧
qw_L_citesIndirectly rl1 (xs9 (xl5 + (1 : Int32)).toNatClampNeg) (xs9 (xl5 + (2 : Int32)).toNatClampNeg) rl3 h (fun x185 h =>
vp_in (xl5 + (1 : Int32)) L9 ∧
vp_in (xl5 + (2 : Int32)) L9 ∧
ql_rv h rl2 13 fun b186 => qw_X12_citesIndirectly b186 (xs9 (xl5 + (1 : Int32)).toNatClampNeg) (xs9 (xl5 + (2 : Int32)).toNatClampNeg) h (fun x186 h =>
ql_rv h rl2 13 fun b188 => qw_X12_thrown b188  h (fun x188 h =>
if x188 = x185 then (if x185 = 0 then (ql_lJ h rl3 (0 : Int32) fun j190 =>
if x186 = 0 then (qw_L_law_2149 σ L9 xs9 a0 Q X k28 rl1 rl2 rl3 rl4 xl5 j190 (0 : Int64) h) else (qw_L_law_2149 σ L9 xs9 a0 Q X k28 rl1 rl2 rl3 rl4 xl5 j190 (1 : Int64) h)) else (qw_L_law_2155 σ L9 xs9 a0 Q X k28 rl1 rl2 rl3 rl4 xl5 h)) else (ql_nz .boolean (0 : Int32) ∧ Q (0 : Int32) h))))
def qw_L_law_2230 (σ : Nat → Nat) (L9 : Nat) (xs9 : Nat → Int32) (a0 : Nat) (Q : Int32 → ql_H → Prop) (X : String → ql_H → Prop) (k28 : Option Nat → Option Nat → Option Nat → Option Nat → Int32 → ql_H → Prop) (rl1 : Option Nat) (rl2 : Option Nat) (rl3 : Option Nat) (rl4 : Option Nat) (xl5 : Int32) (h : ql_H) : Prop :=
qw_L_law_2957 σ L9 xs9 a0 Q X k28 rl1 rl2 rl3 rl4 xl5 h
def qw_L_law_2224 (σ : Nat → Nat) (L9 : Nat) (xs9 : Nat → Int32) (a0 : Nat) (Q : Int32 → ql_H → Prop) (X : String → ql_H → Prop) (k28 : Option Nat → Option Nat → Option Nat → Option Nat → Int32 → ql_H → Prop) (rl1 : Option Nat) (rl2 : Option Nat) (rl3 : Option Nat) (rl4 : Option Nat) (xl5 : Int32) (js0 : Int64) (js1 : Int64) (h : ql_H) : Prop :=
if (lg_cmp js0 js1) = 0 then (qw_L_law_2230 σ L9 xs9 a0 Q X k28 rl1 rl2 rl3 rl4 xl5 h) else (ql_nz .boolean (0 : Int32) ∧ Q (0 : Int32) h)
def qw_L_law_2158 (σ : Nat → Nat) (L9 : Nat) (xs9 : Nat → Int32) (a0 : Nat) (Q : Int32 → ql_H → Prop) (X : String → ql_H → Prop) (k28 : Option Nat → Option Nat → Option Nat → Option Nat → Int32 → ql_H → Prop) (rl1 : Option Nat) (rl2 : Option Nat) (rl3 : Option Nat) (rl4 : Option Nat) (xl5 : Int32) (h : ql_H) : Prop :=
vp_in (xl5 + (1 : Int32)) L9 ∧
vp_in (xl5 + (2 : Int32)) L9 ∧
qw_L_citesByClosure rl1 (xs9 (xl5 + (1 : Int32)).toNatClampNeg) (xs9 (xl5 + (2 : Int32)).toNatClampNeg) rl3 h (fun x191 h =>
vp_in (xl5 + (1 : Int32)) L9 ∧
vp_in (xl5 + (2 : Int32)) L9 ∧
ql_rv h rl2 13 fun b192 => qw_X12_citesByClosure b192 (xs9 (xl5 + (1 : Int32)).toNatClampNeg) (xs9 (xl5 + (2 : Int32)).toNatClampNeg) h (fun x192 h =>
ql_rv h rl2 13 fun b194 => qw_X12_thrown b194  h (fun x194 h =>
if x194 = x191 then (if x191 = 0 then (ql_lJ h rl3 (0 : Int32) fun j196 =>
if x192 = 0 then (qw_L_law_2224 σ L9 xs9 a0 Q X k28 rl1 rl2 rl3 rl4 xl5 j196 (0 : Int64) h) else (qw_L_law_2224 σ L9 xs9 a0 Q X k28 rl1 rl2 rl3 rl4 xl5 j196 (1 : Int64) h)) else (qw_L_law_2230 σ L9 xs9 a0 Q X k28 rl1 rl2 rl3 rl4 xl5 h)) else (ql_nz .boolean (0 : Int32) ∧ Q (0 : Int32) h))))
def qw_L_law_2286 (σ : Nat → Nat) (L9 : Nat) (xs9 : Nat → Int32) (a0 : Nat) (Q : Int32 → ql_H → Prop) (X : String → ql_H → Prop) (k28 : Option Nat → Option Nat → Option Nat → Option Nat → Int32 → ql_H → Prop) (rl1 : Option Nat) (rl2 : Option Nat) (rl3 : Option Nat) (rl4 : Option Nat) (xl5 : Int32) (h : ql_H) : Prop :=
qw_L_law_2957 σ L9 xs9 a0 Q X k28 rl1 rl2 rl3 rl4 xl5 h
def qw_L_law_2233 (σ : Nat → Nat) (L9 : Nat) (xs9 : Nat → Int32) (a0 : Nat) (Q : Int32 → ql_H → Prop) (X : String → ql_H → Prop) (k28 : Option Nat → Option Nat → Option Nat → Option Nat → Int32 → ql_H → Prop) (rl1 : Option Nat) (rl2 : Option Nat) (rl3 : Option Nat) (rl4 : Option Nat) (xl5 : Int32) (h : ql_H) : Prop :=
vp_in (xl5 + (1 : Int32)) L9 ∧
qw_L_clauseByCites rl1 (xs9 (xl5 + (1 : Int32)).toNatClampNeg) rl3 h (fun x197 h =>
vp_in (xl5 + (1 : Int32)) L9 ∧
ql_rv h rl2 13 fun b198 => qw_X12_clauseByCites b198 (xs9 (xl5 + (1 : Int32)).toNatClampNeg) h (fun x198 h =>
ql_rv h rl2 13 fun b200 => qw_X12_thrown b200  h (fun x200 h =>
if x200 = x197 then (if x197 = 0 then (ql_lJ h rl3 (0 : Int32) fun j202 =>
if (lg_cmp j202 x198.toInt64) = 0 then (qw_L_law_2286 σ L9 xs9 a0 Q X k28 rl1 rl2 rl3 rl4 xl5 h) else (ql_nz .boolean (0 : Int32) ∧ Q (0 : Int32) h)) else (qw_L_law_2286 σ L9 xs9 a0 Q X k28 rl1 rl2 rl3 rl4 xl5 h)) else (ql_nz .boolean (0 : Int32) ∧ Q (0 : Int32) h))))
def qw_L_law_2289 (σ : Nat → Nat) (L9 : Nat) (xs9 : Nat → Int32) (a0 : Nat) (Q : Int32 → ql_H → Prop) (X : String → ql_H → Prop) (k28 : Option Nat → Option Nat → Option Nat → Option Nat → Int32 → ql_H → Prop) (rl1 : Option Nat) (rl2 : Option Nat) (rl3 : Option Nat) (rl4 : Option Nat) (xl5 : Int32) (h : ql_H) : Prop :=
ql_rv h rl1 12 fun b203 => qw_X11_addedTotal b203  h (fun x203 h =>
ql_rv h rl2 13 fun b205 => qw_X12_addedTotal b205  h (fun x205 h =>
if x203 = x205 then (qw_L_law_2957 σ L9 xs9 a0 Q X k28 rl1 rl2 rl3 rl4 xl5 h) else (ql_nz .boolean (0 : Int32) ∧ Q (0 : Int32) h)))
def qw_L_law_2302 (σ : Nat → Nat) (L9 : Nat) (xs9 : Nat → Int32) (a0 : Nat) (Q : Int32 → ql_H → Prop) (X : String → ql_H → Prop) (k28 : Option Nat → Option Nat → Option Nat → Option Nat → Int32 → ql_H → Prop) (rl1 : Option Nat) (rl2 : Option Nat) (rl3 : Option Nat) (rl4 : Option Nat) (xl5 : Int32) (h : ql_H) : Prop :=
ql_rv h rl1 12 fun b207 => qw_X11_amendmentTotal b207  h (fun x207 h =>
ql_rv h rl2 13 fun b209 => qw_X12_amendmentTotal b209  h (fun x209 h =>
if x207 = x209 then (qw_L_law_2957 σ L9 xs9 a0 Q X k28 rl1 rl2 rl3 rl4 xl5 h) else (ql_nz .boolean (0 : Int32) ∧ Q (0 : Int32) h)))
def qw_L_law_2315 (σ : Nat → Nat) (L9 : Nat) (xs9 : Nat → Int32) (a0 : Nat) (Q : Int32 → ql_H → Prop) (X : String → ql_H → Prop) (k28 : Option Nat → Option Nat → Option Nat → Option Nat → Int32 → ql_H → Prop) (rl1 : Option Nat) (rl2 : Option Nat) (rl3 : Option Nat) (rl4 : Option Nat) (xl5 : Int32) (h : ql_H) : Prop :=
ql_rv h rl1 12 fun b211 => qw_X11_repealedTotal b211  h (fun x211 h =>
ql_rv h rl2 13 fun b213 => qw_X12_repealedTotal b213  h (fun x213 h =>
if x211 = x213 then (qw_L_law_2957 σ L9 xs9 a0 Q X k28 rl1 rl2 rl3 rl4 xl5 h) else (ql_nz .boolean (0 : Int32) ∧ Q (0 : Int32) h)))
def qw_L_law_2328 (σ : Nat → Nat) (L9 : Nat) (xs9 : Nat → Int32) (a0 : Nat) (Q : Int32 → ql_H → Prop) (X : String → ql_H → Prop) (k28 : Option Nat → Option Nat → Option Nat → Option Nat → Int32 → ql_H → Prop) (rl1 : Option Nat) (rl2 : Option Nat) (rl3 : Option Nat) (rl4 : Option Nat) (xl5 : Int32) (h : ql_H) : Prop :=
ql_rv h rl1 12 fun b215 => qw_X11_consolidatedTotal b215  h (fun x215 h =>
ql_rv h rl2 13 fun b217 => qw_X12_consolidatedTotal b217  h (fun x217 h =>
if x215 = x217 then (qw_L_law_2957 σ L9 xs9 a0 Q X k28 rl1 rl2 rl3 rl4 xl5 h) else (ql_nz .boolean (0 : Int32) ∧ Q (0 : Int32) h)))
def qw_L_law_2341 (σ : Nat → Nat) (L9 : Nat) (xs9 : Nat → Int32) (a0 : Nat) (Q : Int32 → ql_H → Prop) (X : String → ql_H → Prop) (k28 : Option Nat → Option Nat → Option Nat → Option Nat → Int32 → ql_H → Prop) (rl1 : Option Nat) (rl2 : Option Nat) (rl3 : Option Nat) (rl4 : Option Nat) (xl5 : Int32) (h : ql_H) : Prop :=
ql_rv h rl1 12 fun b219 => qw_X11_editionCount b219  h (fun x219 h =>
ql_rv h rl2 13 fun b221 => qw_X12_editionCount b221  h (fun x221 h =>
if x219 = x221 then (qw_L_law_2957 σ L9 xs9 a0 Q X k28 rl1 rl2 rl3 rl4 xl5 h) else (ql_nz .boolean (0 : Int32) ∧ Q (0 : Int32) h)))
def qw_L_law_2407 (σ : Nat → Nat) (L9 : Nat) (xs9 : Nat → Int32) (a0 : Nat) (Q : Int32 → ql_H → Prop) (X : String → ql_H → Prop) (k28 : Option Nat → Option Nat → Option Nat → Option Nat → Int32 → ql_H → Prop) (rl1 : Option Nat) (rl2 : Option Nat) (rl3 : Option Nat) (rl4 : Option Nat) (xl5 : Int32) (h : ql_H) : Prop :=
qw_L_law_2957 σ L9 xs9 a0 Q X k28 rl1 rl2 rl3 rl4 xl5 h
def qw_L_law_2354 (σ : Nat → Nat) (L9 : Nat) (xs9 : Nat → Int32) (a0 : Nat) (Q : Int32 → ql_H → Prop) (X : String → ql_H → Prop) (k28 : Option Nat → Option Nat → Option Nat → Option Nat → Int32 → ql_H → Prop) (rl1 : Option Nat) (rl2 : Option Nat) (rl3 : Option Nat) (rl4 : Option Nat) (xl5 : Int32) (h : ql_H) : Prop :=
vp_in (xl5 + (1 : Int32)) L9 ∧
qw_L_editionDay rl1 (xs9 (xl5 + (1 : Int32)).toNatClampNeg) rl3 h (fun x223 h =>
vp_in (xl5 + (1 : Int32)) L9 ∧
ql_rv h rl2 13 fun b224 => qw_X12_editionDay b224 (xs9 (xl5 + (1 : Int32)).toNatClampNeg) h (fun x224 h =>
ql_rv h rl2 13 fun b226 => qw_X12_thrown b226  h (fun x226 h =>
if x226 = x223 then (if x223 = 0 then (ql_lJ h rl3 (0 : Int32) fun j228 =>
if (lg_cmp j228 x224.toInt64) = 0 then (qw_L_law_2407 σ L9 xs9 a0 Q X k28 rl1 rl2 rl3 rl4 xl5 h) else (ql_nz .boolean (0 : Int32) ∧ Q (0 : Int32) h)) else (qw_L_law_2407 σ L9 xs9 a0 Q X k28 rl1 rl2 rl3 rl4 xl5 h)) else (ql_nz .boolean (0 : Int32) ∧ Q (0 : Int32) h))))
def qw_L_law_2472 (σ : Nat → Nat) (L9 : Nat) (xs9 : Nat → Int32) (a0 : Nat) (Q : Int32 → ql_H → Prop) (X : String → ql_H → Prop) (k28 : Option Nat → Option Nat → Option Nat → Option Nat → Int32 → ql_H → Prop) (rl1 : Option Nat) (rl2 : Option Nat) (rl3 : Option Nat) (rl4 : Option Nat) (xl5 : Int32) (h : ql_H) : Prop :=
qw_L_law_2957 σ L9 xs9 a0 Q X k28 rl1 rl2 rl3 rl4 xl5 h
def qw_L_law_2410 (σ : Nat → Nat) (L9 : Nat) (xs9 : Nat → Int32) (a0 : Nat) (Q : Int32 → ql_H → Prop) (X : String → ql_H → Prop) (k28 : Option Nat → Option Nat → Option Nat → Option Nat → Int32 → ql_H → Prop) (rl1 : Option Nat) (rl2 : Option Nat) (rl3 : Option Nat) (rl4 : Option Nat) (xl5 : Int32) (h : ql_H) : Prop :=
qw_L_meanLength rl1 rl4 h (fun x229 h =>
ql_rv h rl2 13 fun b230 => qw_X12_meanLength b230  h (fun d230 h =>
ql_rv h rl2 13 fun b232 => qw_X12_thrown b232  h (fun x232 h =>
if x232 = x229 then (if x229 = 0 then (ql_lD h rl4 (0 : Int32) fun d234 =>
if (Op.cmpValue (FP.dcmp d234 d230) .l) = 0 then (qw_L_law_2472 σ L9 xs9 a0 Q X k28 rl1 rl2 rl3 rl4 xl5 h) else (ql_lD h rl4 (0 : Int32) fun d235 =>
ql_lD h rl4 (0 : Int32) fun d236 =>
if (Op.cmpValue (FP.dcmp d235 d236) .l) = 0 then (ql_nz .boolean (0 : Int32) ∧ Q (0 : Int32) h) else (if (Op.cmpValue (FP.dcmp d230 d230) .l) = 0 then (ql_nz .boolean (0 : Int32) ∧ Q (0 : Int32) h) else (qw_L_law_2472 σ L9 xs9 a0 Q X k28 rl1 rl2 rl3 rl4 xl5 h)))) else (qw_L_law_2472 σ L9 xs9 a0 Q X k28 rl1 rl2 rl3 rl4 xl5 h)) else (ql_nz .boolean (0 : Int32) ∧ Q (0 : Int32) h))))
def qw_L_law_2538 (σ : Nat → Nat) (L9 : Nat) (xs9 : Nat → Int32) (a0 : Nat) (Q : Int32 → ql_H → Prop) (X : String → ql_H → Prop) (k28 : Option Nat → Option Nat → Option Nat → Option Nat → Int32 → ql_H → Prop) (rl1 : Option Nat) (rl2 : Option Nat) (rl3 : Option Nat) (rl4 : Option Nat) (xl5 : Int32) (h : ql_H) : Prop :=
qw_L_law_2957 σ L9 xs9 a0 Q X k28 rl1 rl2 rl3 rl4 xl5 h
def qw_L_law_2475 (σ : Nat → Nat) (L9 : Nat) (xs9 : Nat → Int32) (a0 : Nat) (Q : Int32 → ql_H → Prop) (X : String → ql_H → Prop) (k28 : Option Nat → Option Nat → Option Nat → Option Nat → Int32 → ql_H → Prop) (rl1 : Option Nat) (rl2 : Option Nat) (rl3 : Option Nat) (rl4 : Option Nat) (xl5 : Int32) (h : ql_H) : Prop :=
qw_L_inForceShare rl1 rl4 h (fun x237 h =>
ql_rv h rl2 13 fun b238 => qw_X12_inForceShare b238  h (fun f238 h =>
ql_rv h rl2 13 fun b240 => qw_X12_thrown b240  h (fun x240 h =>
if x240 = x237 then (if x237 = 0 then (ql_lD h rl4 (0 : Int32) fun d242 =>
vf_n64 (FP.f2d f238) ∧
if (Op.cmpValue (FP.dcmp d242 (FP.f2d f238)) .l) = 0 then (qw_L_law_2538 σ L9 xs9 a0 Q X k28 rl1 rl2 rl3 rl4 xl5 h) else (ql_lD h rl4 (0 : Int32) fun d243 =>
ql_lD h rl4 (0 : Int32) fun d244 =>
if (Op.cmpValue (FP.dcmp d243 d244) .l) = 0 then (ql_nz .boolean (0 : Int32) ∧ Q (0 : Int32) h) else (if (Op.cmpValue (FP.fcmp f238 f238) .l) = 0 then (ql_nz .boolean (0 : Int32) ∧ Q (0 : Int32) h) else (qw_L_law_2538 σ L9 xs9 a0 Q X k28 rl1 rl2 rl3 rl4 xl5 h)))) else (qw_L_law_2538 σ L9 xs9 a0 Q X k28 rl1 rl2 rl3 rl4 xl5 h)) else (ql_nz .boolean (0 : Int32) ∧ Q (0 : Int32) h))))
def qw_L_law_2541 (σ : Nat → Nat) (L9 : Nat) (xs9 : Nat → Int32) (a0 : Nat) (Q : Int32 → ql_H → Prop) (X : String → ql_H → Prop) (k28 : Option Nat → Option Nat → Option Nat → Option Nat → Int32 → ql_H → Prop) (rl1 : Option Nat) (rl2 : Option Nat) (rl3 : Option Nat) (rl4 : Option Nat) (xl5 : Int32) (h : ql_H) : Prop :=
ql_rv h rl1 12 fun b245 => qw_X11_isConsistent b245  h (fun x245 h =>
ql_rv h rl2 13 fun b247 => qw_X12_isConsistent b247  h (fun x247 h =>
if x245 = x247 then (qw_L_law_2957 σ L9 xs9 a0 Q X k28 rl1 rl2 rl3 rl4 xl5 h) else (ql_nz .boolean (0 : Int32) ∧ Q (0 : Int32) h)))
def qw_L_law_2607 (σ : Nat → Nat) (L9 : Nat) (xs9 : Nat → Int32) (a0 : Nat) (Q : Int32 → ql_H → Prop) (X : String → ql_H → Prop) (k28 : Option Nat → Option Nat → Option Nat → Option Nat → Int32 → ql_H → Prop) (rl1 : Option Nat) (rl2 : Option Nat) (rl3 : Option Nat) (rl4 : Option Nat) (xl5 : Int32) (h : ql_H) : Prop :=
qw_L_law_2957 σ L9 xs9 a0 Q X k28 rl1 rl2 rl3 rl4 xl5 h
def qw_L_law_2554 (σ : Nat → Nat) (L9 : Nat) (xs9 : Nat → Int32) (a0 : Nat) (Q : Int32 → ql_H → Prop) (X : String → ql_H → Prop) (k28 : Option Nat → Option Nat → Option Nat → Option Nat → Int32 → ql_H → Prop) (rl1 : Option Nat) (rl2 : Option Nat) (rl3 : Option Nat) (rl4 : Option Nat) (xl5 : Int32) (h : ql_H) : Prop :=
vp_in (xl5 + (1 : Int32)) L9 ∧
qw_L_renderClause σ rl1 (xs9 (xl5 + (1 : Int32)).toNatClampNeg) rl3 h (fun x249 h =>
vp_in (xl5 + (1 : Int32)) L9 ∧
ql_rv h rl2 13 fun b250 => qw_X12_renderClause b250 (xs9 (xl5 + (1 : Int32)).toNatClampNeg) h (fun x250 h =>
ql_rv h rl2 13 fun b252 => qw_X12_thrown b252  h (fun x252 h =>
if x252 = x249 then (if x249 = 0 then (ql_lJ h rl3 (0 : Int32) fun j254 =>
if (lg_cmp j254 x250.toInt64) = 0 then (qw_L_law_2607 σ L9 xs9 a0 Q X k28 rl1 rl2 rl3 rl4 xl5 h) else (ql_nz .boolean (0 : Int32) ∧ Q (0 : Int32) h)) else (qw_L_law_2607 σ L9 xs9 a0 Q X k28 rl1 rl2 rl3 rl4 xl5 h)) else (ql_nz .boolean (0 : Int32) ∧ Q (0 : Int32) h))))
def qw_L_law_2663 (σ : Nat → Nat) (L9 : Nat) (xs9 : Nat → Int32) (a0 : Nat) (Q : Int32 → ql_H → Prop) (X : String → ql_H → Prop) (k28 : Option Nat → Option Nat → Option Nat → Option Nat → Int32 → ql_H → Prop) (rl1 : Option Nat) (rl2 : Option Nat) (rl3 : Option Nat) (rl4 : Option Nat) (xl5 : Int32) (h : ql_H) : Prop :=
qw_L_law_2957 σ L9 xs9 a0 Q X k28 rl1 rl2 rl3 rl4 xl5 h
def qw_L_law_2610 (σ : Nat → Nat) (L9 : Nat) (xs9 : Nat → Int32) (a0 : Nat) (Q : Int32 → ql_H → Prop) (X : String → ql_H → Prop) (k28 : Option Nat → Option Nat → Option Nat → Option Nat → Int32 → ql_H → Prop) (rl1 : Option Nat) (rl2 : Option Nat) (rl3 : Option Nat) (rl4 : Option Nat) (xl5 : Int32) (h : ql_H) : Prop :=
vp_in (xl5 + (1 : Int32)) L9 ∧
qw_L_outputAt rl1 (xs9 (xl5 + (1 : Int32)).toNatClampNeg) rl3 h (fun x255 h =>
vp_in (xl5 + (1 : Int32)) L9 ∧
ql_rv h rl2 13 fun b256 => qw_X12_outputAt b256 (xs9 (xl5 + (1 : Int32)).toNatClampNeg) h (fun x256 h =>
ql_rv h rl2 13 fun b258 => qw_X12_thrown b258  h (fun x258 h =>
if x258 = x255 then (if x255 = 0 then (ql_lJ h rl3 (0 : Int32) fun j260 =>
if (lg_cmp j260 x256.toInt64) = 0 then (qw_L_law_2663 σ L9 xs9 a0 Q X k28 rl1 rl2 rl3 rl4 xl5 h) else (ql_nz .boolean (0 : Int32) ∧ Q (0 : Int32) h)) else (qw_L_law_2663 σ L9 xs9 a0 Q X k28 rl1 rl2 rl3 rl4 xl5 h)) else (ql_nz .boolean (0 : Int32) ∧ Q (0 : Int32) h))))
def qw_L_law_2721 (σ : Nat → Nat) (L9 : Nat) (xs9 : Nat → Int32) (a0 : Nat) (Q : Int32 → ql_H → Prop) (X : String → ql_H → Prop) (k28 : Option Nat → Option Nat → Option Nat → Option Nat → Int32 → ql_H → Prop) (rl1 : Option Nat) (rl2 : Option Nat) (rl3 : Option Nat) (rl4 : Option Nat) (xl5 : Int32) (h : ql_H) : Prop :=
qw_L_law_2957 σ L9 xs9 a0 Q X k28 rl1 rl2 rl3 rl4 xl5 h
def qw_L_law_2666 (σ : Nat → Nat) (L9 : Nat) (xs9 : Nat → Int32) (a0 : Nat) (Q : Int32 → ql_H → Prop) (X : String → ql_H → Prop) (k28 : Option Nat → Option Nat → Option Nat → Option Nat → Int32 → ql_H → Prop) (rl1 : Option Nat) (rl2 : Option Nat) (rl3 : Option Nat) (rl4 : Option Nat) (xl5 : Int32) (h : ql_H) : Prop :=
vp_in (xl5 + (1 : Int32)) L9 ∧
qw_L_type rl1 ((xs9 (xl5 + (1 : Int32)).toNatClampNeg).toUInt32 % 65536).toInt32 rl3 h (fun x261 h =>
vp_in (xl5 + (1 : Int32)) L9 ∧
ql_rv h rl2 13 fun b262 => qw_X12_type b262 ((xs9 (xl5 + (1 : Int32)).toNatClampNeg).toUInt32 % 65536).toInt32 h (fun x262 h =>
ql_rv h rl2 13 fun b264 => qw_X12_thrown b264  h (fun x264 h =>
if x264 = x261 then (if x261 = 0 then (ql_lJ h rl3 (0 : Int32) fun j266 =>
if (lg_cmp j266 x262.toInt64) = 0 then (qw_L_law_2721 σ L9 xs9 a0 Q X k28 rl1 rl2 rl3 rl4 xl5 h) else (ql_nz .boolean (0 : Int32) ∧ Q (0 : Int32) h)) else (qw_L_law_2721 σ L9 xs9 a0 Q X k28 rl1 rl2 rl3 rl4 xl5 h)) else (ql_nz .boolean (0 : Int32) ∧ Q (0 : Int32) h))))
def qw_L_law_2765 (σ : Nat → Nat) (L9 : Nat) (xs9 : Nat → Int32) (a0 : Nat) (Q : Int32 → ql_H → Prop) (X : String → ql_H → Prop) (k28 : Option Nat → Option Nat → Option Nat → Option Nat → Int32 → ql_H → Prop) (rl1 : Option Nat) (rl2 : Option Nat) (rl3 : Option Nat) (rl4 : Option Nat) (xl5 : Int32) (h : ql_H) : Prop :=
qw_L_law_2957 σ L9 xs9 a0 Q X k28 rl1 rl2 rl3 rl4 xl5 h
def qw_L_law_2724 (σ : Nat → Nat) (L9 : Nat) (xs9 : Nat → Int32) (a0 : Nat) (Q : Int32 → ql_H → Prop) (X : String → ql_H → Prop) (k28 : Option Nat → Option Nat → Option Nat → Option Nat → Int32 → ql_H → Prop) (rl1 : Option Nat) (rl2 : Option Nat) (rl3 : Option Nat) (rl4 : Option Nat) (xl5 : Int32) (h : ql_H) : Prop :=
qw_L_runScript σ rl1 rl3 h (fun x267 h =>
ql_rv h rl2 13 fun b268 => qw_X12_runScript σ b268  h (fun x268 h =>
ql_rv h rl2 13 fun b270 => qw_X12_thrown b270  h (fun x270 h =>
if x270 = x267 then (if x267 = 0 then (ql_lJ h rl3 (0 : Int32) fun j272 =>
if (lg_cmp j272 x268.toInt64) = 0 then (qw_L_law_2765 σ L9 xs9 a0 Q X k28 rl1 rl2 rl3 rl4 xl5 h) else (ql_nz .boolean (0 : Int32) ∧ Q (0 : Int32) h)) else (qw_L_law_2765 σ L9 xs9 a0 Q X k28 rl1 rl2 rl3 rl4 xl5 h)) else (ql_nz .boolean (0 : Int32) ∧ Q (0 : Int32) h))))
def qw_L_law_2809 (σ : Nat → Nat) (L9 : Nat) (xs9 : Nat → Int32) (a0 : Nat) (Q : Int32 → ql_H → Prop) (X : String → ql_H → Prop) (k28 : Option Nat → Option Nat → Option Nat → Option Nat → Int32 → ql_H → Prop) (rl1 : Option Nat) (rl2 : Option Nat) (rl3 : Option Nat) (rl4 : Option Nat) (xl5 : Int32) (h : ql_H) : Prop :=
qw_L_law_2957 σ L9 xs9 a0 Q X k28 rl1 rl2 rl3 rl4 xl5 h
def qw_L_law_2768 (σ : Nat → Nat) (L9 : Nat) (xs9 : Nat → Int32) (a0 : Nat) (Q : Int32 → ql_H → Prop) (X : String → ql_H → Prop) (k28 : Option Nat → Option Nat → Option Nat → Option Nat → Int32 → ql_H → Prop) (rl1 : Option Nat) (rl2 : Option Nat) (rl3 : Option Nat) (rl4 : Option Nat) (xl5 : Int32) (h : ql_H) : Prop :=
qw_L_errorPosition rl1 rl3 h (fun x273 h =>
ql_rv h rl2 13 fun b274 => qw_X12_errorPosition b274  h (fun x274 h =>
ql_rv h rl2 13 fun b276 => qw_X12_thrown b276  h (fun x276 h =>
if x276 = x273 then (if x273 = 0 then (ql_lJ h rl3 (0 : Int32) fun j278 =>
if (lg_cmp j278 x274.toInt64) = 0 then (qw_L_law_2809 σ L9 xs9 a0 Q X k28 rl1 rl2 rl3 rl4 xl5 h) else (ql_nz .boolean (0 : Int32) ∧ Q (0 : Int32) h)) else (qw_L_law_2809 σ L9 xs9 a0 Q X k28 rl1 rl2 rl3 rl4 xl5 h)) else (ql_nz .boolean (0 : Int32) ∧ Q (0 : Int32) h))))
def qw_L_law_2853 (σ : Nat → Nat) (L9 : Nat) (xs9 : Nat → Int32) (a0 : Nat) (Q : Int32 → ql_H → Prop) (X : String → ql_H → Prop) (k28 : Option Nat → Option Nat → Option Nat → Option Nat → Int32 → ql_H → Prop) (rl1 : Option Nat) (rl2 : Option Nat) (rl3 : Option Nat) (rl4 : Option Nat) (xl5 : Int32) (h : ql_H) : Prop :=
qw_L_law_2957 σ L9 xs9 a0 Q X k28 rl1 rl2 rl3 rl4 xl5 h
def qw_L_law_2812 (σ : Nat → Nat) (L9 : Nat) (xs9 : Nat → Int32) (a0 : Nat) (Q : Int32 → ql_H → Prop) (X : String → ql_H → Prop) (k28 : Option Nat → Option Nat → Option Nat → Option Nat → Int32 → ql_H → Prop) (rl1 : Option Nat) (rl2 : Option Nat) (rl3 : Option Nat) (rl4 : Option Nat) (xl5 : Int32) (h : ql_H) : Prop :=
qw_L_failedCommand rl1 rl3 h (fun x279 h =>
ql_rv h rl2 13 fun b280 => qw_X12_failedCommand b280  h (fun x280 h =>
ql_rv h rl2 13 fun b282 => qw_X12_thrown b282  h (fun x282 h =>
if x282 = x279 then (if x279 = 0 then (ql_lJ h rl3 (0 : Int32) fun j284 =>
if (lg_cmp j284 x280.toInt64) = 0 then (qw_L_law_2853 σ L9 xs9 a0 Q X k28 rl1 rl2 rl3 rl4 xl5 h) else (ql_nz .boolean (0 : Int32) ∧ Q (0 : Int32) h)) else (qw_L_law_2853 σ L9 xs9 a0 Q X k28 rl1 rl2 rl3 rl4 xl5 h)) else (ql_nz .boolean (0 : Int32) ∧ Q (0 : Int32) h))))
def qw_L_law_2897 (σ : Nat → Nat) (L9 : Nat) (xs9 : Nat → Int32) (a0 : Nat) (Q : Int32 → ql_H → Prop) (X : String → ql_H → Prop) (k28 : Option Nat → Option Nat → Option Nat → Option Nat → Int32 → ql_H → Prop) (rl1 : Option Nat) (rl2 : Option Nat) (rl3 : Option Nat) (rl4 : Option Nat) (xl5 : Int32) (h : ql_H) : Prop :=
qw_L_law_2957 σ L9 xs9 a0 Q X k28 rl1 rl2 rl3 rl4 xl5 h
def qw_L_law_2856 (σ : Nat → Nat) (L9 : Nat) (xs9 : Nat → Int32) (a0 : Nat) (Q : Int32 → ql_H → Prop) (X : String → ql_H → Prop) (k28 : Option Nat → Option Nat → Option Nat → Option Nat → Int32 → ql_H → Prop) (rl1 : Option Nat) (rl2 : Option Nat) (rl3 : Option Nat) (rl4 : Option Nat) (xl5 : Int32) (h : ql_H) : Prop :=
qw_L_undo rl1 rl3 h (fun x285 h =>
ql_rv h rl2 13 fun b286 => qw_X12_undo b286  h (fun x286 h =>
ql_rv h rl2 13 fun b288 => qw_X12_thrown b288  h (fun x288 h =>
if x288 = x285 then (if x285 = 0 then (ql_lJ h rl3 (0 : Int32) fun j290 =>
if (lg_cmp j290 x286.toInt64) = 0 then (qw_L_law_2897 σ L9 xs9 a0 Q X k28 rl1 rl2 rl3 rl4 xl5 h) else (ql_nz .boolean (0 : Int32) ∧ Q (0 : Int32) h)) else (qw_L_law_2897 σ L9 xs9 a0 Q X k28 rl1 rl2 rl3 rl4 xl5 h)) else (ql_nz .boolean (0 : Int32) ∧ Q (0 : Int32) h))))
def qw_L_law_2900 (σ : Nat → Nat) (L9 : Nat) (xs9 : Nat → Int32) (a0 : Nat) (Q : Int32 → ql_H → Prop) (X : String → ql_H → Prop) (k28 : Option Nat → Option Nat → Option Nat → Option Nat → Int32 → ql_H → Prop) (rl1 : Option Nat) (rl2 : Option Nat) (rl3 : Option Nat) (rl4 : Option Nat) (xl5 : Int32) (h : ql_H) : Prop :=
ql_rv h rl1 12 fun b291 => qw_X11_save b291  h (fun x291 h =>
ql_rv h rl2 13 fun b293 => qw_X12_save b293  h (fun x293 h =>
if x291 = x293 then (qw_L_law_2957 σ L9 xs9 a0 Q X k28 rl1 rl2 rl3 rl4 xl5 h) else (ql_nz .boolean (0 : Int32) ∧ Q (0 : Int32) h)))
def qw_L_law_2954 (σ : Nat → Nat) (L9 : Nat) (xs9 : Nat → Int32) (a0 : Nat) (Q : Int32 → ql_H → Prop) (X : String → ql_H → Prop) (k28 : Option Nat → Option Nat → Option Nat → Option Nat → Int32 → ql_H → Prop) (rl1 : Option Nat) (rl2 : Option Nat) (rl3 : Option Nat) (rl4 : Option Nat) (xl5 : Int32) (h : ql_H) : Prop :=
qw_L_law_2957 σ L9 xs9 a0 Q X k28 rl1 rl2 rl3 rl4 xl5 h
def qw_L_law_2913 (σ : Nat → Nat) (L9 : Nat) (xs9 : Nat → Int32) (a0 : Nat) (Q : Int32 → ql_H → Prop) (X : String → ql_H → Prop) (k28 : Option Nat → Option Nat → Option Nat → Option Nat → Int32 → ql_H → Prop) (rl1 : Option Nat) (rl2 : Option Nat) (rl3 : Option Nat) (rl4 : Option Nat) (xl5 : Int32) (h : ql_H) : Prop :=
qw_L_restore rl1 rl3 h (fun x295 h =>
ql_rv h rl2 13 fun b296 => qw_X12_restore b296  h (fun x296 h =>
ql_rv h rl2 13 fun b298 => qw_X12_thrown b298  h (fun x298 h =>
if x298 = x295 then (if x295 = 0 then (ql_lJ h rl3 (0 : Int32) fun j300 =>
if (lg_cmp j300 x296.toInt64) = 0 then (qw_L_law_2954 σ L9 xs9 a0 Q X k28 rl1 rl2 rl3 rl4 xl5 h) else (ql_nz .boolean (0 : Int32) ∧ Q (0 : Int32) h)) else (qw_L_law_2954 σ L9 xs9 a0 Q X k28 rl1 rl2 rl3 rl4 xl5 h)) else (ql_nz .boolean (0 : Int32) ∧ Q (0 : Int32) h))))
def qw_L_law_28 (σ : Nat → Nat) (L9 : Nat) (xs9 : Nat → Int32) (a0 : Nat) (Q : Int32 → ql_H → Prop) (X : String → ql_H → Prop) : Nat → Option Nat → Option Nat → Option Nat → Option Nat → Int32 → ql_H → Prop
  | 0, _, _, _, _, _, _ => False
  | n + 1, rl1, rl2, rl3, rl4, xl5, h =>
    if ((nI L9) - (4 : Int32)) < xl5 then (ql_nz .boolean (1 : Int32) ∧ Q (1 : Int32) h) else (vp_in xl5 L9 ∧
    if ((xs9 xl5.toNatClampNeg) &&& (63 : Int32)) = (0 : Int32) then (qw_L_law_276 σ L9 xs9 a0 Q X (qw_L_law_28 σ L9 xs9 a0 Q X n) rl1 rl2 rl3 rl4 xl5 h) else if ((xs9 xl5.toNatClampNeg) &&& (63 : Int32)) = (1 : Int32) then (qw_L_law_346 σ L9 xs9 a0 Q X (qw_L_law_28 σ L9 xs9 a0 Q X n) rl1 rl2 rl3 rl4 xl5 h) else if ((xs9 xl5.toNatClampNeg) &&& (63 : Int32)) = (2 : Int32) then (qw_L_law_428 σ L9 xs9 a0 Q X (qw_L_law_28 σ L9 xs9 a0 Q X n) rl1 rl2 rl3 rl4 xl5 h) else if ((xs9 xl5.toNatClampNeg) &&& (63 : Int32)) = (3 : Int32) then (qw_L_law_510 σ L9 xs9 a0 Q X (qw_L_law_28 σ L9 xs9 a0 Q X n) rl1 rl2 rl3 rl4 xl5 h) else if ((xs9 xl5.toNatClampNeg) &&& (63 : Int32)) = (4 : Int32) then (qw_L_law_578 σ L9 xs9 a0 Q X (qw_L_law_28 σ L9 xs9 a0 Q X n) rl1 rl2 rl3 rl4 xl5 h) else if ((xs9 xl5.toNatClampNeg) &&& (63 : Int32)) = (5 : Int32) then (qw_L_law_646 σ L9 xs9 a0 Q X (qw_L_law_28 σ L9 xs9 a0 Q X n) rl1 rl2 rl3 rl4 xl5 h) else if ((xs9 xl5.toNatClampNeg) &&& (63 : Int32)) = (6 : Int32) then (qw_L_law_714 σ L9 xs9 a0 Q X (qw_L_law_28 σ L9 xs9 a0 Q X n) rl1 rl2 rl3 rl4 xl5 h) else if ((xs9 xl5.toNatClampNeg) &&& (63 : Int32)) = (7 : Int32) then (qw_L_law_782 σ L9 xs9 a0 Q X (qw_L_law_28 σ L9 xs9 a0 Q X n) rl1 rl2 rl3 rl4 xl5 h) else if ((xs9 xl5.toNatClampNeg) &&& (63 : Int32)) = (8 : Int32) then (qw_L_law_838 σ L9 xs9 a0 Q X (qw_L_law_28 σ L9 xs9 a0 Q X n) rl1 rl2 rl3 rl4 xl5 h) else if ((xs9 xl5.toNatClampNeg) &&& (63 : Int32)) = (9 : Int32) then (qw_L_law_851 σ L9 xs9 a0 Q X (qw_L_law_28 σ L9 xs9 a0 Q X n) rl1 rl2 rl3 rl4 xl5 h) else if ((xs9 xl5.toNatClampNeg) &&& (63 : Int32)) = (10 : Int32) then (qw_L_law_907 σ L9 xs9 a0 Q X (qw_L_law_28 σ L9 xs9 a0 Q X n) rl1 rl2 rl3 rl4 xl5 h) else if ((xs9 xl5.toNatClampNeg) &&& (63 : Int32)) = (11 : Int32) then (qw_L_law_920 σ L9 xs9 a0 Q X (qw_L_law_28 σ L9 xs9 a0 Q X n) rl1 rl2 rl3 rl4 xl5 h) else if ((xs9 xl5.toNatClampNeg) &&& (63 : Int32)) = (12 : Int32) then (qw_L_law_933 σ L9 xs9 a0 Q X (qw_L_law_28 σ L9 xs9 a0 Q X n) rl1 rl2 rl3 rl4 xl5 h) else if ((xs9 xl5.toNatClampNeg) &&& (63 : Int32)) = (13 : Int32) then (qw_L_law_989 σ L9 xs9 a0 Q X (qw_L_law_28 σ L9 xs9 a0 Q X n) rl1 rl2 rl3 rl4 xl5 h) else if ((xs9 xl5.toNatClampNeg) &&& (63 : Int32)) = (14 : Int32) then (qw_L_law_1045 σ L9 xs9 a0 Q X (qw_L_law_28 σ L9 xs9 a0 Q X n) rl1 rl2 rl3 rl4 xl5 h) else if ((xs9 xl5.toNatClampNeg) &&& (63 : Int32)) = (15 : Int32) then (qw_L_law_1101 σ L9 xs9 a0 Q X (qw_L_law_28 σ L9 xs9 a0 Q X n) rl1 rl2 rl3 rl4 xl5 h) else if ((xs9 xl5.toNatClampNeg) &&& (63 : Int32)) = (16 : Int32) then (qw_L_law_1157 σ L9 xs9 a0 Q X (qw_L_law_28 σ L9 xs9 a0 Q X n) rl1 rl2 rl3 rl4 xl5 h) else if ((xs9 xl5.toNatClampNeg) &&& (63 : Int32)) = (17 : Int32) then (qw_L_law_1213 σ L9 xs9 a0 Q X (qw_L_law_28 σ L9 xs9 a0 Q X n) rl1 rl2 rl3 rl4 xl5 h) else if ((xs9 xl5.toNatClampNeg) &&& (63 : Int32)) = (18 : Int32) then (qw_L_law_1288 σ L9 xs9 a0 Q X (qw_L_law_28 σ L9 xs9 a0 Q X n) rl1 rl2 rl3 rl4 xl5 h) else if ((xs9 xl5.toNatClampNeg) &&& (63 : Int32)) = (19 : Int32) then (qw_L_law_1351 σ L9 xs9 a0 Q X (qw_L_law_28 σ L9 xs9 a0 Q X n) rl1 rl2 rl3 rl4 xl5 h) else if ((xs9 xl5.toNatClampNeg) &&& (63 : Int32)) = (20 : Int32) then (qw_L_law_1376 σ L9 xs9 a0 Q X (qw_L_law_28 σ L9 xs9 a0 Q X n) rl1 rl2 rl3 rl4 xl5 h) else if ((xs9 xl5.toNatClampNeg) &&& (63 : Int32)) = (21 : Int32) then (qw_L_law_1432 σ L9 xs9 a0 Q X (qw_L_law_28 σ L9 xs9 a0 Q X n) rl1 rl2 rl3 rl4 xl5 h) else if ((xs9 xl5.toNatClampNeg) &&& (63 : Int32)) = (22 : Int32) then (qw_L_law_1488 σ L9 xs9 a0 Q X (qw_L_law_28 σ L9 xs9 a0 Q X n) rl1 rl2 rl3 rl4 xl5 h) else if ((xs9 xl5.toNatClampNeg) &&& (63 : Int32)) = (23 : Int32) then (qw_L_law_1556 σ L9 xs9 a0 Q X (qw_L_law_28 σ L9 xs9 a0 Q X n) rl1 rl2 rl3 rl4 xl5 h) else if ((xs9 xl5.toNatClampNeg) &&& (63 : Int32)) = (24 : Int32) then (qw_L_law_1612 σ L9 xs9 a0 Q X (qw_L_law_28 σ L9 xs9 a0 Q X n) rl1 rl2 rl3 rl4 xl5 h) else if ((xs9 xl5.toNatClampNeg) &&& (63 : Int32)) = (25 : Int32) then (qw_L_law_1680 σ L9 xs9 a0 Q X (qw_L_law_28 σ L9 xs9 a0 Q X n) rl1 rl2 rl3 rl4 xl5 h) else if ((xs9 xl5.toNatClampNeg) &&& (63 : Int32)) = (26 : Int32) then (qw_L_law_1760 σ L9 xs9 a0 Q X (qw_L_law_28 σ L9 xs9 a0 Q X n) rl1 rl2 rl3 rl4 xl5 h) else if ((xs9 xl5.toNatClampNeg) &&& (63 : Int32)) = (27 : Int32) then (qw_L_law_1840 σ L9 xs9 a0 Q X (qw_L_law_28 σ L9 xs9 a0 Q X n) rl1 rl2 rl3 rl4 xl5 h) else if ((xs9 xl5.toNatClampNeg) &&& (63 : Int32)) = (28 : Int32) then (qw_L_law_1920 σ L9 xs9 a0 Q X (qw_L_law_28 σ L9 xs9 a0 Q X n) rl1 rl2 rl3 rl4 xl5 h) else if ((xs9 xl5.toNatClampNeg) &&& (63 : Int32)) = (29 : Int32) then (qw_L_law_1933 σ L9 xs9 a0 Q X (qw_L_law_28 σ L9 xs9 a0 Q X n) rl1 rl2 rl3 rl4 xl5 h) else if ((xs9 xl5.toNatClampNeg) &&& (63 : Int32)) = (30 : Int32) then (qw_L_law_1946 σ L9 xs9 a0 Q X (qw_L_law_28 σ L9 xs9 a0 Q X n) rl1 rl2 rl3 rl4 xl5 h) else if ((xs9 xl5.toNatClampNeg) &&& (63 : Int32)) = (31 : Int32) then (qw_L_law_2002 σ L9 xs9 a0 Q X (qw_L_law_28 σ L9 xs9 a0 Q X n) rl1 rl2 rl3 rl4 xl5 h) else if ((xs9 xl5.toNatClampNeg) &&& (63 : Int32)) = (32 : Int32) then (qw_L_law_2070 σ L9 xs9 a0 Q X (qw_L_law_28 σ L9 xs9 a0 Q X n) rl1 rl2 rl3 rl4 xl5 h) else if ((xs9 xl5.toNatClampNeg) &&& (63 : Int32)) = (33 : Int32) then (qw_L_law_2083 σ L9 xs9 a0 Q X (qw_L_law_28 σ L9 xs9 a0 Q X n) rl1 rl2 rl3 rl4 xl5 h) else if ((xs9 xl5.toNatClampNeg) &&& (63 : Int32)) = (34 : Int32) then (qw_L_law_2158 σ L9 xs9 a0 Q X (qw_L_law_28 σ L9 xs9 a0 Q X n) rl1 rl2 rl3 rl4 xl5 h) else if ((xs9 xl5.toNatClampNeg) &&& (63 : Int32)) = (35 : Int32) then (qw_L_law_2233 σ L9 xs9 a0 Q X (qw_L_law_28 σ L9 xs9 a0 Q X n) rl1 rl2 rl3 rl4 xl5 h) else if ((xs9 xl5.toNatClampNeg) &&& (63 : Int32)) = (36 : Int32) then (qw_L_law_2289 σ L9 xs9 a0 Q X (qw_L_law_28 σ L9 xs9 a0 Q X n) rl1 rl2 rl3 rl4 xl5 h) else if ((xs9 xl5.toNatClampNeg) &&& (63 : Int32)) = (37 : Int32) then (qw_L_law_2302 σ L9 xs9 a0 Q X (qw_L_law_28 σ L9 xs9 a0 Q X n) rl1 rl2 rl3 rl4 xl5 h) else if ((xs9 xl5.toNatClampNeg) &&& (63 : Int32)) = (38 : Int32) then (qw_L_law_2315 σ L9 xs9 a0 Q X (qw_L_law_28 σ L9 xs9 a0 Q X n) rl1 rl2 rl3 rl4 xl5 h) else if ((xs9 xl5.toNatClampNeg) &&& (63 : Int32)) = (39 : Int32) then (qw_L_law_2328 σ L9 xs9 a0 Q X (qw_L_law_28 σ L9 xs9 a0 Q X n) rl1 rl2 rl3 rl4 xl5 h) else if ((xs9 xl5.toNatClampNeg) &&& (63 : Int32)) = (40 : Int32) then (qw_L_law_2341 σ L9 xs9 a0 Q X (qw_L_law_28 σ L9 xs9 a0 Q X n) rl1 rl2 rl3 rl4 xl5 h) else if ((xs9 xl5.toNatClampNeg) &&& (63 : Int32)) = (41 : Int32) then (qw_L_law_2354 σ L9 xs9 a0 Q X (qw_L_law_28 σ L9 xs9 a0 Q X n) rl1 rl2 rl3 rl4 xl5 h) else if ((xs9 xl5.toNatClampNeg) &&& (63 : Int32)) = (42 : Int32) then (qw_L_law_2410 σ L9 xs9 a0 Q X (qw_L_law_28 σ L9 xs9 a0 Q X n) rl1 rl2 rl3 rl4 xl5 h) else if ((xs9 xl5.toNatClampNeg) &&& (63 : Int32)) = (43 : Int32) then (qw_L_law_2475 σ L9 xs9 a0 Q X (qw_L_law_28 σ L9 xs9 a0 Q X n) rl1 rl2 rl3 rl4 xl5 h) else if ((xs9 xl5.toNatClampNeg) &&& (63 : Int32)) = (44 : Int32) then (qw_L_law_2541 σ L9 xs9 a0 Q X (qw_L_law_28 σ L9 xs9 a0 Q X n) rl1 rl2 rl3 rl4 xl5 h) else if ((xs9 xl5.toNatClampNeg) &&& (63 : Int32)) = (45 : Int32) then (qw_L_law_2554 σ L9 xs9 a0 Q X (qw_L_law_28 σ L9 xs9 a0 Q X n) rl1 rl2 rl3 rl4 xl5 h) else if ((xs9 xl5.toNatClampNeg) &&& (63 : Int32)) = (46 : Int32) then (qw_L_law_2610 σ L9 xs9 a0 Q X (qw_L_law_28 σ L9 xs9 a0 Q X n) rl1 rl2 rl3 rl4 xl5 h) else if ((xs9 xl5.toNatClampNeg) &&& (63 : Int32)) = (47 : Int32) then (qw_L_law_2666 σ L9 xs9 a0 Q X (qw_L_law_28 σ L9 xs9 a0 Q X n) rl1 rl2 rl3 rl4 xl5 h) else if ((xs9 xl5.toNatClampNeg) &&& (63 : Int32)) = (48 : Int32) then (qw_L_law_2724 σ L9 xs9 a0 Q X (qw_L_law_28 σ L9 xs9 a0 Q X n) rl1 rl2 rl3 rl4 xl5 h) else if ((xs9 xl5.toNatClampNeg) &&& (63 : Int32)) = (49 : Int32) then (qw_L_law_2768 σ L9 xs9 a0 Q X (qw_L_law_28 σ L9 xs9 a0 Q X n) rl1 rl2 rl3 rl4 xl5 h) else if ((xs9 xl5.toNatClampNeg) &&& (63 : Int32)) = (50 : Int32) then (qw_L_law_2812 σ L9 xs9 a0 Q X (qw_L_law_28 σ L9 xs9 a0 Q X n) rl1 rl2 rl3 rl4 xl5 h) else if ((xs9 xl5.toNatClampNeg) &&& (63 : Int32)) = (51 : Int32) then (qw_L_law_2856 σ L9 xs9 a0 Q X (qw_L_law_28 σ L9 xs9 a0 Q X n) rl1 rl2 rl3 rl4 xl5 h) else if ((xs9 xl5.toNatClampNeg) &&& (63 : Int32)) = (52 : Int32) then (qw_L_law_2900 σ L9 xs9 a0 Q X (qw_L_law_28 σ L9 xs9 a0 Q X n) rl1 rl2 rl3 rl4 xl5 h) else if ((xs9 xl5.toNatClampNeg) &&& (63 : Int32)) = (53 : Int32) then (qw_L_law_2913 σ L9 xs9 a0 Q X (qw_L_law_28 σ L9 xs9 a0 Q X n) rl1 rl2 rl3 rl4 xl5 h) else (qw_L_law_2957 σ L9 xs9 a0 Q X (qw_L_law_28 σ L9 xs9 a0 Q X n) rl1 rl2 rl3 rl4 xl5 h))
def qw_L_law (σ : Nat → Nat) (L9 : Nat) (xs9 : Nat → Int32) (a0 : Nat) (h : ql_H) (Q : Int32 → ql_H → Prop) (X : String → ql_H → Prop) : Prop :=
ql_nw h (.inr (12, [.null, .null, .int 0, .null, .null, .int 0, .int 0, .null, .null, .null, .null])) fun r301 h =>
ql_nn r301 fun b301 => qw_X11_init σ b301  h (fun h =>
ql_nw h (.inr (13, [.null, .null, .null, .null, .int 0, .int 0, .int 0, .int 0, .null, .int 0, .int 0, .int 0, .null, .int 0, .null, .null, .int 0, .null, .int 0])) fun r303 h =>
ql_nn r303 fun b303 => qw_X12_init b303  h (fun h =>
ql_nw h (.inl (1, 1, .inr (.inl (fun _ => 0)))) fun r305 h =>
ql_nw h (.inl (4, 1, .inr (.inr (.inr (.inl (fun _ => 0)))))) fun r306 h =>
qw_L_law_28 σ L9 xs9 a0 Q X 513 r301 r303 r305 r306 (0 : Int32) h))
set_option maxHeartbeats 4000000 in
set_option maxRecDepth 100000 in
theorem qm_L_law (l : Launch) (hl9 : l.stackTraces = false) (D : ql_D) (h0 : ql_H) (L9 : Nat) (xs9 : Nat → Int32) (a0 : Nat) (Q : Int32 → ql_H → Prop) (X : String → ql_H → Prop) (w : qw_L_law D.2 L9 xs9 a0 h0 Q X) (p : Program) (e : Env) (s : State) (m : MethodId) (below : List Frame) (meth : Method) (c : Code) (ls : Array Slot) (C : ql_C D h0 p m c cL_law 9 s [.ref a0].toArray "ClauseLedgerLaw") (hr : meth.sig.returnType = some .boolean) (hlocks : meth.locks = false) (htab : ∀ x ∈ c.exceptionTable.toList, False) (S : ql_S D h0 s s.heap [] h0) (hX : va_X a0 L9 xs9 s s.heap ∧ a0 < s.heap.size ∧ ¬ ql_A h0 a0) (hl : lv_has ls 9 (lv_args 0 [.ref a0])) :
    W p l e ({ frames := 2048, cells := 603072, slots := 7190633, locals := 94400 } : Room) s m [.ref a0].toArray below meth c s.heap [] 0 0 (vx_MQ below (ql_Q D h0 (ql_rI Q)) (ql_X D h0 X) [.ref a0].toArray s 603072 7190633 (ql_A h0)) (F0 m 0 ls []) := by
  have hl : lv_has ls 9 [(0, .ref a0)] := hl
  have hB2957 : ∀ n : Nat, n + 1 ≤ 513 → ∀ (k28 : Option Nat → Option Nat → Option Nat → Option Nat → Int32 → ql_H → Prop) (hk28 : ∀ (rl1 : Option Nat) (rl2 : Option Nat) (rl3 : Option Nat) (rl4 : Option Nat) (xl5 : Int32) (h : ql_H) (H : Heap) (locs : List Loc) (ls : Array Slot), ql_S D h0 s H locs h → lv_has ls 9 [(0, .ref a0), (1, va_rf rl1), (2, va_rf rl2), (3, va_rf rl3), (4, va_rf rl4), (5, .int xl5)] → k28 rl1 rl2 rl3 rl4 xl5 h → W p l e ({ frames := 2048, cells := 603072, slots := 7190633, locals := 94400 } : Room) s m ([.ref a0] : List Value).toArray below meth c H locs (1032 + (513 - n) * 21) (15200 + (513 - n) * 5126) (vx_MQ below (ql_Q D h0 (ql_rI Q)) (ql_X D h0 X) ([.ref a0] : List Value).toArray s 603072 7190633 (ql_A h0)) (F0 m 28 ls [])) , ∀ (rl1 : Option Nat) (rl2 : Option Nat) (rl3 : Option Nat) (rl4 : Option Nat) (xl5 : Int32) (h : ql_H) (H : Heap) (locs : List Loc) (ls : Array Slot), ql_S D h0 s H locs h → lv_has ls 9 [(0, .ref a0), (1, va_rf rl1), (2, va_rf rl2), (3, va_rf rl3), (4, va_rf rl4), (5, .int xl5)] → qw_L_law_2957 D.2 L9 xs9 a0 Q X k28 rl1 rl2 rl3 rl4 xl5 h → W p l e ({ frames := 2048, cells := 603072, slots := 7190633, locals := 94400 } : Room) s m ([.ref a0] : List Value).toArray below meth c H locs (1053 + (513 - (n + 1)) * 21) (20326 + (513 - (n + 1)) * 5126) (vx_MQ below (ql_Q D h0 (ql_rI Q)) (ql_X D h0 X) ([.ref a0] : List Value).toArray s 603072 7190633 (ql_A h0)) (F0 m 2957 ls []) := by
    intro n hn9 k28 hk28 rl1 rl2 rl3 rl4 xl5 h H locs ls S hl w
    unfold qw_L_law_2957 at w
    refine lv_iinc (v := (xl5 + (4 : Int32))) (lv' := [(5, .int (xl5 + (4 : Int32))), (0, .ref a0), (1, va_rf rl1), (2, va_rf rl2), (3, va_rf rl3), (4, va_rf rl4)]) C.1.1 C.1.2.1 dL_law_2957 hl (k := 5) rfl rfl (by decide) (by generalize rl4 = z9; cases z9 <;> rfl) (fun ls hl => ?_)
    refine lv_goto (tgt := 28) C.1.1 C.1.2.1 dL_law_2960 (by decide) ?_
    refine W.cs (cells' := (1032 + (513 - n) * 21)) (slots' := (15200 + (513 - n) * 5126)) (by omega) (by omega) ?_
    exact hk28 rl1 rl2 rl3 rl4 (xl5 + (4 : Int32)) _ _ _ _ S (lv_sub hl [1, 2, 3, 4, 5, 0] rfl) w
  have hB343 : ∀ n : Nat, n + 1 ≤ 513 → ∀ (k28 : Option Nat → Option Nat → Option Nat → Option Nat → Int32 → ql_H → Prop) (hk28 : ∀ (rl1 : Option Nat) (rl2 : Option Nat) (rl3 : Option Nat) (rl4 : Option Nat) (xl5 : Int32) (h : ql_H) (H : Heap) (locs : List Loc) (ls : Array Slot), ql_S D h0 s H locs h → lv_has ls 9 [(0, .ref a0), (1, va_rf rl1), (2, va_rf rl2), (3, va_rf rl3), (4, va_rf rl4), (5, .int xl5)] → k28 rl1 rl2 rl3 rl4 xl5 h → W p l e ({ frames := 2048, cells := 603072, slots := 7190633, locals := 94400 } : Room) s m ([.ref a0] : List Value).toArray below meth c H locs (1032 + (513 - n) * 21) (15200 + (513 - n) * 5126) (vx_MQ below (ql_Q D h0 (ql_rI Q)) (ql_X D h0 X) ([.ref a0] : List Value).toArray s 603072 7190633 (ql_A h0)) (F0 m 28 ls [])) , ∀ (rl1 : Option Nat) (rl2 : Option Nat) (rl3 : Option Nat) (rl4 : Option Nat) (xl5 : Int32) (h : ql_H) (H : Heap) (locs : List Loc) (ls : Array Slot), ql_S D h0 s H locs h → lv_has ls 9 [(0, .ref a0), (1, va_rf rl1), (2, va_rf rl2), (3, va_rf rl3), (4, va_rf rl4), (5, .int xl5)] → qw_L_law_343 D.2 L9 xs9 a0 Q X k28 rl1 rl2 rl3 rl4 xl5 h → W p l e ({ frames := 2048, cells := 603072, slots := 7190633, locals := 94400 } : Room) s m ([.ref a0] : List Value).toArray below meth c H locs (1033 + (513 - (n + 1)) * 21) (15206 + (513 - (n + 1)) * 5126) (vx_MQ below (ql_Q D h0 (ql_rI Q)) (ql_X D h0 X) ([.ref a0] : List Value).toArray s 603072 7190633 (ql_A h0)) (F0 m 343 ls []) := by
    intro n hn9 k28 hk28 rl1 rl2 rl3 rl4 xl5 h H locs ls S hl w
    unfold qw_L_law_343 at w
    refine lv_goto (tgt := 2957) C.1.1 C.1.2.1 dL_law_343 (by decide) ?_
    refine W.cs (cells' := (1053 + (513 - (n + 1)) * 21)) (slots' := (20326 + (513 - (n + 1)) * 5126)) (by omega) (by omega) ?_
    exact hB2957 n hn9 k28 hk28 rl1 rl2 rl3 rl4 xl5 _ _ _ _ S (lv_sub hl [0, 1, 2, 3, 4, 5] rfl) w
  have hB276 : ∀ n : Nat, n + 1 ≤ 513 → ∀ (k28 : Option Nat → Option Nat → Option Nat → Option Nat → Int32 → ql_H → Prop) (hk28 : ∀ (rl1 : Option Nat) (rl2 : Option Nat) (rl3 : Option Nat) (rl4 : Option Nat) (xl5 : Int32) (h : ql_H) (H : Heap) (locs : List Loc) (ls : Array Slot), ql_S D h0 s H locs h → lv_has ls 9 [(0, .ref a0), (1, va_rf rl1), (2, va_rf rl2), (3, va_rf rl3), (4, va_rf rl4), (5, .int xl5)] → k28 rl1 rl2 rl3 rl4 xl5 h → W p l e ({ frames := 2048, cells := 603072, slots := 7190633, locals := 94400 } : Room) s m ([.ref a0] : List Value).toArray below meth c H locs (1032 + (513 - n) * 21) (15200 + (513 - n) * 5126) (vx_MQ below (ql_Q D h0 (ql_rI Q)) (ql_X D h0 X) ([.ref a0] : List Value).toArray s 603072 7190633 (ql_A h0)) (F0 m 28 ls [])) , ∀ (rl1 : Option Nat) (rl2 : Option Nat) (rl3 : Option Nat) (rl4 : Option Nat) (xl5 : Int32) (h : ql_H) (H : Heap) (locs : List Loc) (ls : Array Slot), ql_S D h0 s H locs h → lv_has ls 9 [(0, .ref a0), (1, va_rf rl1), (2, va_rf rl2), (3, va_rf rl3), (4, va_rf rl4), (5, .int xl5)] → qw_L_law_276 D.2 L9 xs9 a0 Q X k28 rl1 rl2 rl3 rl4 xl5 h → W p l e ({ frames := 2048, cells := 603072, slots := 7190633, locals := 94400 } : Room) s m ([.ref a0] : List Value).toArray below meth c H locs (1032 + (513 - (n + 1)) * 21) (15200 + (513 - (n + 1)) * 5126) (vx_MQ below (ql_Q D h0 (ql_rI Q)) (ql_X D h0 X) ([.ref a0] : List Value).toArray s 603072 7190633 (ql_A h0)) (F0 m 276 ls []) := by
    intro n hn9 k28 hk28 rl1 rl2 rl3 rl4 xl5 h H locs ls S hl w
    unfold qw_L_law_276 at w
    refine ql_aload_n (r := rl1) C dL_law_276 rfl (lv_at hl 1 rfl) ?_
    refine ql_aload_n (r := (some a0)) C dL_law_277 rfl (lv_at hl 0 rfl) ?_
    refine lv_iload C.1.1 C.1.2.1 dL_law_278 (lv_at hl 5 rfl) ?_
    refine lv_iconst (v := (1 : Int32)) C.1.1 C.1.2.1 dL_law_280 (by decide) ?_
    refine lv_iadd C.1.1 C.1.2.1 dL_law_281 ?_
    refine ql_sld C S hX w.1 dL_law_282 ?_
    replace w := w.2
    refine ql_aload_n (r := (some a0)) C dL_law_283 rfl (lv_at hl 0 rfl) ?_
    refine lv_iload C.1.1 C.1.2.1 dL_law_284 (lv_at hl 5 rfl) ?_
    refine lv_iconst (v := (2 : Int32)) C.1.1 C.1.2.1 dL_law_286 (by decide) ?_
    refine lv_iadd C.1.1 C.1.2.1 dL_law_287 ?_
    refine ql_sld C S hX w.1 dL_law_288 ?_
    replace w := w.2
    refine lv_i2c C.1.1 C.1.2.1 dL_law_289 rfl ?_
    refine ql_aload_n (r := rl3) C dL_law_290 rfl (lv_at hl 3 rfl) ?_
    refine ql_SHI (As := [va_rf rl1, .int (xs9 (xl5 + (1 : Int32)).toNatClampNeg), .int ((xs9 (xl5 + (2 : Int32)).toNatClampNeg).toUInt32 % 65536).toInt32, va_rf rl3]) (rest := []) C S hl qyh_L_addClause gw_769 (qm_L_addClause l hl9 D _ rl1 (xs9 (xl5 + (1 : Int32)).toNatClampNeg) ((xs9 (xl5 + (2 : Int32)).toNatClampNeg).toUInt32 % 65536).toInt32 rl3 _ _ w) rfl ⟨Nat.le_of_ble_eq_true rfl, Nat.le_of_ble_eq_true rfl⟩ ⟨rfl, rfl⟩ (by exact Nat.le_of_ble_eq_true rfl) rfl dL_law_291 ⟨(by show _ ≤ (603072 : Nat); omega), (by show _ ≤ (7190633 : Nat); omega)⟩ (fun x1 h H locs S w => ?_)
    refine W.cs (cells' := (1033 + (513 - (n + 1)) * 21)) (slots' := (15206 + (513 - (n + 1)) * 5126)) (by omega) (by omega) ?_
    refine lv_istore (lv' := [(6, .int x1), (0, .ref a0), (1, va_rf rl1), (2, va_rf rl2), (3, va_rf rl3), (4, va_rf rl4), (5, .int xl5)]) C.1.1 C.1.2.1 dL_law_294 hl (by decide) rfl (fun ls hl => ?_)
    refine ql_aload_n (r := rl2) C dL_law_296 rfl (lv_at hl 3 rfl) ?_
    refine ql_aload_n (r := (some a0)) C dL_law_297 rfl (lv_at hl 1 rfl) ?_
    refine lv_iload C.1.1 C.1.2.1 dL_law_298 (lv_at hl 6 rfl) ?_
    refine lv_iconst (v := (1 : Int32)) C.1.1 C.1.2.1 dL_law_300 (by decide) ?_
    refine lv_iadd C.1.1 C.1.2.1 dL_law_301 ?_
    refine ql_sld C S hX w.1 dL_law_302 ?_
    replace w := w.2
    refine ql_aload_n (r := (some a0)) C dL_law_303 rfl (lv_at hl 1 rfl) ?_
    refine lv_iload C.1.1 C.1.2.1 dL_law_304 (lv_at hl 6 rfl) ?_
    refine lv_iconst (v := (2 : Int32)) C.1.1 C.1.2.1 dL_law_306 (by decide) ?_
    refine lv_iadd C.1.1 C.1.2.1 dL_law_307 ?_
    refine ql_sld C S hX w.1 dL_law_308 ?_
    replace w := w.2
    refine lv_i2c C.1.1 C.1.2.1 dL_law_309 rfl ?_
    refine ql_VI (As := [.int (xs9 (xl5 + (1 : Int32)).toNatClampNeg), .int ((xs9 (xl5 + (2 : Int32)).toNatClampNeg).toUInt32 % 65536).toInt32]) (rest := []) C S htab hlocks hl qy_X12_addClause qi_X12_addClause qs_X12_addClause gw_1731 (ci := 13) rfl w (fun b w => qm_X12_addClause l hl9 D _ b (xs9 (xl5 + (1 : Int32)).toNatClampNeg) ((xs9 (xl5 + (2 : Int32)).toNatClampNeg).toUInt32 % 65536).toInt32 _ _ w) rfl ⟨Nat.le_of_ble_eq_true rfl, Nat.le_of_ble_eq_true rfl⟩ ⟨rfl, rfl⟩ (by exact Nat.le_of_ble_eq_true rfl) (fun b e9 => by cases e9; rfl) dL_law_310 ⟨(by show _ ≤ (603072 : Nat); omega), (by show _ ≤ (7190633 : Nat); omega)⟩ ⟨(by show _ ≤ (603072 : Nat); omega), (by show _ ≤ (7190633 : Nat); omega)⟩ (fun x2 h H locs S w => ?_)
    refine W.cs (cells' := (1033 + (513 - (n + 1)) * 21)) (slots' := (15206 + (513 - (n + 1)) * 5126)) (by omega) (by omega) ?_
    refine lv_istore (lv' := [(7, .int x2), (6, .int x1), (0, .ref a0), (1, va_rf rl1), (2, va_rf rl2), (3, va_rf rl3), (4, va_rf rl4), (5, .int xl5)]) C.1.1 C.1.2.1 dL_law_313 hl (by decide) rfl (fun ls hl => ?_)
    refine ql_aload_n (r := rl2) C dL_law_315 rfl (lv_at hl 4 rfl) ?_
    refine ql_VI (As := []) (rest := []) C S htab hlocks hl qy_X12_thrown qi_X12_thrown qs_X12_thrown gw_1727 (ci := 13) rfl w (fun b w => qm_X12_thrown l hl9 D _ b _ _ w) rfl ⟨Nat.le_of_ble_eq_true rfl, Nat.le_of_ble_eq_true rfl⟩ ⟨rfl, rfl⟩ (by exact Nat.le_of_ble_eq_true rfl) (fun b e9 => by cases e9; rfl) dL_law_316 ⟨(by show _ ≤ (603072 : Nat); omega), (by show _ ≤ (7190633 : Nat); omega)⟩ ⟨(by show _ ≤ (603072 : Nat); omega), (by show _ ≤ (7190633 : Nat); omega)⟩ (fun x4 h H locs S w => ?_)
    refine W.cs (cells' := (1033 + (513 - (n + 1)) * 21)) (slots' := (15206 + (513 - (n + 1)) * 5126)) (by omega) (by omega) ?_
    refine lv_iload C.1.1 C.1.2.1 dL_law_319 (lv_at hl 1 rfl) ?_
    refine lv_icmp_eq (tgt := 326) C.1.1 C.1.2.1 dL_law_321 (by decide) (fun c9 => ?_) (fun c9 => ?_)
    · replace w := ql_if w c9
      refine lv_iload C.1.1 C.1.2.1 dL_law_326 (lv_at hl 1 rfl) ?_
      refine lv_if_ne (tgt := 343) C.1.1 C.1.2.1 dL_law_328 (by decide) (fun c9 => ?_) (fun c9 => ?_)
      · replace w := ql_ifn w c9
        exact hB343 n hn9 k28 hk28 rl1 rl2 rl3 rl4 xl5 _ _ _ _ S (lv_sub hl [2, 3, 4, 5, 6, 7] rfl) w
      · replace w := ql_if w c9
        refine ql_aload_n (r := rl3) C dL_law_331 rfl (lv_at hl 5 rfl) ?_
        refine lv_iconst (v := (0 : Int32)) C.1.1 C.1.2.1 dL_law_332 (by decide) ?_
        refine ql_lald C S dL_law_333 w (fun j6 w => ?_)
        refine lv_iload C.1.1 C.1.2.1 dL_law_334 (lv_at hl 0 rfl) ?_
        refine lv_i2l C.1.1 C.1.2.1 dL_law_336 rfl ?_
        refine W.lcmp C.1.1 C.1.2.1 dL_law_337 ?_
        refine lv_if_eq (tgt := 343) C.1.1 C.1.2.1 dL_law_338 (by decide) (fun c9 => ?_) (fun c9 => ?_)
        · replace w := ql_if w c9
          exact hB343 n hn9 k28 hk28 rl1 rl2 rl3 rl4 xl5 _ _ _ _ S (lv_sub hl [2, 3, 4, 5, 6, 7] rfl) w
        · replace w := ql_ifn w c9
          refine lv_iconst (v := (0 : Int32)) C.1.1 C.1.2.1 dL_law_341 (by decide) ?_
          exact ql_zret C S hr hlocks dL_law_342 ⟨(by show _ ≤ (603072 : Nat); omega), (by show _ ≤ (7190633 : Nat); omega)⟩ w
    · replace w := ql_ifn w c9
      refine lv_iconst (v := (0 : Int32)) C.1.1 C.1.2.1 dL_law_324 (by decide) ?_
      exact ql_zret C S hr hlocks dL_law_325 ⟨(by show _ ≤ (603072 : Nat); omega), (by show _ ≤ (7190633 : Nat); omega)⟩ w
  have hB425 : ∀ n : Nat, n + 1 ≤ 513 → ∀ (k28 : Option Nat → Option Nat → Option Nat → Option Nat → Int32 → ql_H → Prop) (hk28 : ∀ (rl1 : Option Nat) (rl2 : Option Nat) (rl3 : Option Nat) (rl4 : Option Nat) (xl5 : Int32) (h : ql_H) (H : Heap) (locs : List Loc) (ls : Array Slot), ql_S D h0 s H locs h → lv_has ls 9 [(0, .ref a0), (1, va_rf rl1), (2, va_rf rl2), (3, va_rf rl3), (4, va_rf rl4), (5, .int xl5)] → k28 rl1 rl2 rl3 rl4 xl5 h → W p l e ({ frames := 2048, cells := 603072, slots := 7190633, locals := 94400 } : Room) s m ([.ref a0] : List Value).toArray below meth c H locs (1032 + (513 - n) * 21) (15200 + (513 - n) * 5126) (vx_MQ below (ql_Q D h0 (ql_rI Q)) (ql_X D h0 X) ([.ref a0] : List Value).toArray s 603072 7190633 (ql_A h0)) (F0 m 28 ls [])) , ∀ (rl1 : Option Nat) (rl2 : Option Nat) (rl3 : Option Nat) (rl4 : Option Nat) (xl5 : Int32) (h : ql_H) (H : Heap) (locs : List Loc) (ls : Array Slot), ql_S D h0 s H locs h → lv_has ls 9 [(0, .ref a0), (1, va_rf rl1), (2, va_rf rl2), (3, va_rf rl3), (4, va_rf rl4), (5, .int xl5)] → qw_L_law_425 D.2 L9 xs9 a0 Q X k28 rl1 rl2 rl3 rl4 xl5 h → W p l e ({ frames := 2048, cells := 603072, slots := 7190633, locals := 94400 } : Room) s m ([.ref a0] : List Value).toArray below meth c H locs (1033 + (513 - (n + 1)) * 21) (15206 + (513 - (n + 1)) * 5126) (vx_MQ below (ql_Q D h0 (ql_rI Q)) (ql_X D h0 X) ([.ref a0] : List Value).toArray s 603072 7190633 (ql_A h0)) (F0 m 425 ls []) := by
    intro n hn9 k28 hk28 rl1 rl2 rl3 rl4 xl5 h H locs ls S hl w
    unfold qw_L_law_425 at w
    refine lv_goto (tgt := 2957) C.1.1 C.1.2.1 dL_law_425 (by decide) ?_
    refine W.cs (cells' := (1053 + (513 - (n + 1)) * 21)) (slots' := (20326 + (513 - (n + 1)) * 5126)) (by omega) (by omega) ?_
    exact hB2957 n hn9 k28 hk28 rl1 rl2 rl3 rl4 xl5 _ _ _ _ S (lv_sub hl [0, 1, 2, 3, 4, 5] rfl) w
  have hB346 : ∀ n : Nat, n + 1 ≤ 513 → ∀ (k28 : Option Nat → Option Nat → Option Nat → Option Nat → Int32 → ql_H → Prop) (hk28 : ∀ (rl1 : Option Nat) (rl2 : Option Nat) (rl3 : Option Nat) (rl4 : Option Nat) (xl5 : Int32) (h : ql_H) (H : Heap) (locs : List Loc) (ls : Array Slot), ql_S D h0 s H locs h → lv_has ls 9 [(0, .ref a0), (1, va_rf rl1), (2, va_rf rl2), (3, va_rf rl3), (4, va_rf rl4), (5, .int xl5)] → k28 rl1 rl2 rl3 rl4 xl5 h → W p l e ({ frames := 2048, cells := 603072, slots := 7190633, locals := 94400 } : Room) s m ([.ref a0] : List Value).toArray below meth c H locs (1032 + (513 - n) * 21) (15200 + (513 - n) * 5126) (vx_MQ below (ql_Q D h0 (ql_rI Q)) (ql_X D h0 X) ([.ref a0] : List Value).toArray s 603072 7190633 (ql_A h0)) (F0 m 28 ls [])) , ∀ (rl1 : Option Nat) (rl2 : Option Nat) (rl3 : Option Nat) (rl4 : Option Nat) (xl5 : Int32) (h : ql_H) (H : Heap) (locs : List Loc) (ls : Array Slot), ql_S D h0 s H locs h → lv_has ls 9 [(0, .ref a0), (1, va_rf rl1), (2, va_rf rl2), (3, va_rf rl3), (4, va_rf rl4), (5, .int xl5)] → qw_L_law_346 D.2 L9 xs9 a0 Q X k28 rl1 rl2 rl3 rl4 xl5 h → W p l e ({ frames := 2048, cells := 603072, slots := 7190633, locals := 94400 } : Room) s m ([.ref a0] : List Value).toArray below meth c H locs (1032 + (513 - (n + 1)) * 21) (15200 + (513 - (n + 1)) * 5126) (vx_MQ below (ql_Q D h0 (ql_rI Q)) (ql_X D h0 X) ([.ref a0] : List Value).toArray s 603072 7190633 (ql_A h0)) (F0 m 346 ls []) := by
    intro n hn9 k28 hk28 rl1 rl2 rl3 rl4 xl5 h H locs ls S hl w
    unfold qw_L_law_346 at w
    refine ql_aload_n (r := rl1) C dL_law_346 rfl (lv_at hl 1 rfl) ?_
    refine ql_aload_n (r := (some a0)) C dL_law_347 rfl (lv_at hl 0 rfl) ?_
    refine lv_iload C.1.1 C.1.2.1 dL_law_348 (lv_at hl 5 rfl) ?_
    refine lv_iconst (v := (1 : Int32)) C.1.1 C.1.2.1 dL_law_350 (by decide) ?_
    refine lv_iadd C.1.1 C.1.2.1 dL_law_351 ?_
    refine ql_sld C S hX w.1 dL_law_352 ?_
    replace w := w.2
    refine ql_aload_n (r := (some a0)) C dL_law_353 rfl (lv_at hl 0 rfl) ?_
    refine lv_iload C.1.1 C.1.2.1 dL_law_354 (lv_at hl 5 rfl) ?_
    refine lv_iconst (v := (2 : Int32)) C.1.1 C.1.2.1 dL_law_356 (by decide) ?_
    refine lv_iadd C.1.1 C.1.2.1 dL_law_357 ?_
    refine ql_sld C S hX w.1 dL_law_358 ?_
    replace w := w.2
    refine ql_aload_n (r := (some a0)) C dL_law_359 rfl (lv_at hl 0 rfl) ?_
    refine lv_iload C.1.1 C.1.2.1 dL_law_360 (lv_at hl 5 rfl) ?_
    refine lv_iconst (v := (3 : Int32)) C.1.1 C.1.2.1 dL_law_362 (by decide) ?_
    refine lv_iadd C.1.1 C.1.2.1 dL_law_363 ?_
    refine ql_sld C S hX w.1 dL_law_364 ?_
    replace w := w.2
    refine lv_i2c C.1.1 C.1.2.1 dL_law_365 rfl ?_
    refine ql_aload_n (r := rl3) C dL_law_366 rfl (lv_at hl 3 rfl) ?_
    refine ql_SHI (As := [va_rf rl1, .int (xs9 (xl5 + (1 : Int32)).toNatClampNeg), .int (xs9 (xl5 + (2 : Int32)).toNatClampNeg), .int ((xs9 (xl5 + (3 : Int32)).toNatClampNeg).toUInt32 % 65536).toInt32, va_rf rl3]) (rest := []) C S hl qyh_L_insertNote gw_801 (qm_L_insertNote l hl9 D _ rl1 (xs9 (xl5 + (1 : Int32)).toNatClampNeg) (xs9 (xl5 + (2 : Int32)).toNatClampNeg) ((xs9 (xl5 + (3 : Int32)).toNatClampNeg).toUInt32 % 65536).toInt32 rl3 _ _ w) rfl ⟨Nat.le_of_ble_eq_true rfl, Nat.le_of_ble_eq_true rfl⟩ ⟨rfl, rfl⟩ (by exact Nat.le_of_ble_eq_true rfl) rfl dL_law_367 ⟨(by show _ ≤ (603072 : Nat); omega), (by show _ ≤ (7190633 : Nat); omega)⟩ (fun x7 h H locs S w => ?_)
    refine W.cs (cells' := (1033 + (513 - (n + 1)) * 21)) (slots' := (15206 + (513 - (n + 1)) * 5126)) (by omega) (by omega) ?_
    refine lv_istore (lv' := [(6, .int x7), (0, .ref a0), (1, va_rf rl1), (2, va_rf rl2), (3, va_rf rl3), (4, va_rf rl4), (5, .int xl5)]) C.1.1 C.1.2.1 dL_law_370 hl (by decide) rfl (fun ls hl => ?_)
    refine ql_aload_n (r := rl2) C dL_law_372 rfl (lv_at hl 3 rfl) ?_
    refine ql_aload_n (r := (some a0)) C dL_law_373 rfl (lv_at hl 1 rfl) ?_
    refine lv_iload C.1.1 C.1.2.1 dL_law_374 (lv_at hl 6 rfl) ?_
    refine lv_iconst (v := (1 : Int32)) C.1.1 C.1.2.1 dL_law_376 (by decide) ?_
    refine lv_iadd C.1.1 C.1.2.1 dL_law_377 ?_
    refine ql_sld C S hX w.1 dL_law_378 ?_
    replace w := w.2
    refine ql_aload_n (r := (some a0)) C dL_law_379 rfl (lv_at hl 1 rfl) ?_
    refine lv_iload C.1.1 C.1.2.1 dL_law_380 (lv_at hl 6 rfl) ?_
    refine lv_iconst (v := (2 : Int32)) C.1.1 C.1.2.1 dL_law_382 (by decide) ?_
    refine lv_iadd C.1.1 C.1.2.1 dL_law_383 ?_
    refine ql_sld C S hX w.1 dL_law_384 ?_
    replace w := w.2
    refine ql_aload_n (r := (some a0)) C dL_law_385 rfl (lv_at hl 1 rfl) ?_
    refine lv_iload C.1.1 C.1.2.1 dL_law_386 (lv_at hl 6 rfl) ?_
    refine lv_iconst (v := (3 : Int32)) C.1.1 C.1.2.1 dL_law_388 (by decide) ?_
    refine lv_iadd C.1.1 C.1.2.1 dL_law_389 ?_
    refine ql_sld C S hX w.1 dL_law_390 ?_
    replace w := w.2
    refine lv_i2c C.1.1 C.1.2.1 dL_law_391 rfl ?_
    refine ql_VI (As := [.int (xs9 (xl5 + (1 : Int32)).toNatClampNeg), .int (xs9 (xl5 + (2 : Int32)).toNatClampNeg), .int ((xs9 (xl5 + (3 : Int32)).toNatClampNeg).toUInt32 % 65536).toInt32]) (rest := []) C S htab hlocks hl qy_X12_insertNote qi_X12_insertNote qs_X12_insertNote gw_1768 (ci := 13) rfl w (fun b w => qm_X12_insertNote l hl9 D _ b (xs9 (xl5 + (1 : Int32)).toNatClampNeg) (xs9 (xl5 + (2 : Int32)).toNatClampNeg) ((xs9 (xl5 + (3 : Int32)).toNatClampNeg).toUInt32 % 65536).toInt32 _ _ w) rfl ⟨Nat.le_of_ble_eq_true rfl, Nat.le_of_ble_eq_true rfl⟩ ⟨rfl, rfl⟩ (by exact Nat.le_of_ble_eq_true rfl) (fun b e9 => by cases e9; rfl) dL_law_392 ⟨(by show _ ≤ (603072 : Nat); omega), (by show _ ≤ (7190633 : Nat); omega)⟩ ⟨(by show _ ≤ (603072 : Nat); omega), (by show _ ≤ (7190633 : Nat); omega)⟩ (fun x8 h H locs S w => ?_)
    refine W.cs (cells' := (1033 + (513 - (n + 1)) * 21)) (slots' := (15206 + (513 - (n + 1)) * 5126)) (by omega) (by omega) ?_
    refine lv_istore (lv' := [(7, .int x8), (6, .int x7), (0, .ref a0), (1, va_rf rl1), (2, va_rf rl2), (3, va_rf rl3), (4, va_rf rl4), (5, .int xl5)]) C.1.1 C.1.2.1 dL_law_395 hl (by decide) rfl (fun ls hl => ?_)
    refine ql_aload_n (r := rl2) C dL_law_397 rfl (lv_at hl 4 rfl) ?_
    refine ql_VI (As := []) (rest := []) C S htab hlocks hl qy_X12_thrown qi_X12_thrown qs_X12_thrown gw_1727 (ci := 13) rfl w (fun b w => qm_X12_thrown l hl9 D _ b _ _ w) rfl ⟨Nat.le_of_ble_eq_true rfl, Nat.le_of_ble_eq_true rfl⟩ ⟨rfl, rfl⟩ (by exact Nat.le_of_ble_eq_true rfl) (fun b e9 => by cases e9; rfl) dL_law_398 ⟨(by show _ ≤ (603072 : Nat); omega), (by show _ ≤ (7190633 : Nat); omega)⟩ ⟨(by show _ ≤ (603072 : Nat); omega), (by show _ ≤ (7190633 : Nat); omega)⟩ (fun x10 h H locs S w => ?_)
    refine W.cs (cells' := (1033 + (513 - (n + 1)) * 21)) (slots' := (15206 + (513 - (n + 1)) * 5126)) (by omega) (by omega) ?_
    refine lv_iload C.1.1 C.1.2.1 dL_law_401 (lv_at hl 1 rfl) ?_
    refine lv_icmp_eq (tgt := 408) C.1.1 C.1.2.1 dL_law_403 (by decide) (fun c9 => ?_) (fun c9 => ?_)
    · replace w := ql_if w c9
      refine lv_iload C.1.1 C.1.2.1 dL_law_408 (lv_at hl 1 rfl) ?_
      refine lv_if_ne (tgt := 425) C.1.1 C.1.2.1 dL_law_410 (by decide) (fun c9 => ?_) (fun c9 => ?_)
      · replace w := ql_ifn w c9
        exact hB425 n hn9 k28 hk28 rl1 rl2 rl3 rl4 xl5 _ _ _ _ S (lv_sub hl [2, 3, 4, 5, 6, 7] rfl) w
      · replace w := ql_if w c9
        refine ql_aload_n (r := rl3) C dL_law_413 rfl (lv_at hl 5 rfl) ?_
        refine lv_iconst (v := (0 : Int32)) C.1.1 C.1.2.1 dL_law_414 (by decide) ?_
        refine ql_lald C S dL_law_415 w (fun j12 w => ?_)
        refine lv_iload C.1.1 C.1.2.1 dL_law_416 (lv_at hl 0 rfl) ?_
        refine lv_i2l C.1.1 C.1.2.1 dL_law_418 rfl ?_
        refine W.lcmp C.1.1 C.1.2.1 dL_law_419 ?_
        refine lv_if_eq (tgt := 425) C.1.1 C.1.2.1 dL_law_420 (by decide) (fun c9 => ?_) (fun c9 => ?_)
        · replace w := ql_if w c9
          exact hB425 n hn9 k28 hk28 rl1 rl2 rl3 rl4 xl5 _ _ _ _ S (lv_sub hl [2, 3, 4, 5, 6, 7] rfl) w
        · replace w := ql_ifn w c9
          refine lv_iconst (v := (0 : Int32)) C.1.1 C.1.2.1 dL_law_423 (by decide) ?_
          exact ql_zret C S hr hlocks dL_law_424 ⟨(by show _ ≤ (603072 : Nat); omega), (by show _ ≤ (7190633 : Nat); omega)⟩ w
    · replace w := ql_ifn w c9
      refine lv_iconst (v := (0 : Int32)) C.1.1 C.1.2.1 dL_law_406 (by decide) ?_
      exact ql_zret C S hr hlocks dL_law_407 ⟨(by show _ ≤ (603072 : Nat); omega), (by show _ ≤ (7190633 : Nat); omega)⟩ w
  have hB507 : ∀ n : Nat, n + 1 ≤ 513 → ∀ (k28 : Option Nat → Option Nat → Option Nat → Option Nat → Int32 → ql_H → Prop) (hk28 : ∀ (rl1 : Option Nat) (rl2 : Option Nat) (rl3 : Option Nat) (rl4 : Option Nat) (xl5 : Int32) (h : ql_H) (H : Heap) (locs : List Loc) (ls : Array Slot), ql_S D h0 s H locs h → lv_has ls 9 [(0, .ref a0), (1, va_rf rl1), (2, va_rf rl2), (3, va_rf rl3), (4, va_rf rl4), (5, .int xl5)] → k28 rl1 rl2 rl3 rl4 xl5 h → W p l e ({ frames := 2048, cells := 603072, slots := 7190633, locals := 94400 } : Room) s m ([.ref a0] : List Value).toArray below meth c H locs (1032 + (513 - n) * 21) (15200 + (513 - n) * 5126) (vx_MQ below (ql_Q D h0 (ql_rI Q)) (ql_X D h0 X) ([.ref a0] : List Value).toArray s 603072 7190633 (ql_A h0)) (F0 m 28 ls [])) , ∀ (rl1 : Option Nat) (rl2 : Option Nat) (rl3 : Option Nat) (rl4 : Option Nat) (xl5 : Int32) (h : ql_H) (H : Heap) (locs : List Loc) (ls : Array Slot), ql_S D h0 s H locs h → lv_has ls 9 [(0, .ref a0), (1, va_rf rl1), (2, va_rf rl2), (3, va_rf rl3), (4, va_rf rl4), (5, .int xl5)] → qw_L_law_507 D.2 L9 xs9 a0 Q X k28 rl1 rl2 rl3 rl4 xl5 h → W p l e ({ frames := 2048, cells := 603072, slots := 7190633, locals := 94400 } : Room) s m ([.ref a0] : List Value).toArray below meth c H locs (1033 + (513 - (n + 1)) * 21) (15206 + (513 - (n + 1)) * 5126) (vx_MQ below (ql_Q D h0 (ql_rI Q)) (ql_X D h0 X) ([.ref a0] : List Value).toArray s 603072 7190633 (ql_A h0)) (F0 m 507 ls []) := by
    intro n hn9 k28 hk28 rl1 rl2 rl3 rl4 xl5 h H locs ls S hl w
    unfold qw_L_law_507 at w
    refine lv_goto (tgt := 2957) C.1.1 C.1.2.1 dL_law_507 (by decide) ?_
    refine W.cs (cells' := (1053 + (513 - (n + 1)) * 21)) (slots' := (20326 + (513 - (n + 1)) * 5126)) (by omega) (by omega) ?_
    exact hB2957 n hn9 k28 hk28 rl1 rl2 rl3 rl4 xl5 _ _ _ _ S (lv_sub hl [0, 1, 2, 3, 4, 5] rfl) w
  have hB428 : ∀ n : Nat, n + 1 ≤ 513 → ∀ (k28 : Option Nat → Option Nat → Option Nat → Option Nat → Int32 → ql_H → Prop) (hk28 : ∀ (rl1 : Option Nat) (rl2 : Option Nat) (rl3 : Option Nat) (rl4 : Option Nat) (xl5 : Int32) (h : ql_H) (H : Heap) (locs : List Loc) (ls : Array Slot), ql_S D h0 s H locs h → lv_has ls 9 [(0, .ref a0), (1, va_rf rl1), (2, va_rf rl2), (3, va_rf rl3), (4, va_rf rl4), (5, .int xl5)] → k28 rl1 rl2 rl3 rl4 xl5 h → W p l e ({ frames := 2048, cells := 603072, slots := 7190633, locals := 94400 } : Room) s m ([.ref a0] : List Value).toArray below meth c H locs (1032 + (513 - n) * 21) (15200 + (513 - n) * 5126) (vx_MQ below (ql_Q D h0 (ql_rI Q)) (ql_X D h0 X) ([.ref a0] : List Value).toArray s 603072 7190633 (ql_A h0)) (F0 m 28 ls [])) , ∀ (rl1 : Option Nat) (rl2 : Option Nat) (rl3 : Option Nat) (rl4 : Option Nat) (xl5 : Int32) (h : ql_H) (H : Heap) (locs : List Loc) (ls : Array Slot), ql_S D h0 s H locs h → lv_has ls 9 [(0, .ref a0), (1, va_rf rl1), (2, va_rf rl2), (3, va_rf rl3), (4, va_rf rl4), (5, .int xl5)] → qw_L_law_428 D.2 L9 xs9 a0 Q X k28 rl1 rl2 rl3 rl4 xl5 h → W p l e ({ frames := 2048, cells := 603072, slots := 7190633, locals := 94400 } : Room) s m ([.ref a0] : List Value).toArray below meth c H locs (1032 + (513 - (n + 1)) * 21) (15200 + (513 - (n + 1)) * 5126) (vx_MQ below (ql_Q D h0 (ql_rI Q)) (ql_X D h0 X) ([.ref a0] : List Value).toArray s 603072 7190633 (ql_A h0)) (F0 m 428 ls []) := by
    intro n hn9 k28 hk28 rl1 rl2 rl3 rl4 xl5 h H locs ls S hl w
    unfold qw_L_law_428 at w
    refine ql_aload_n (r := rl1) C dL_law_428 rfl (lv_at hl 1 rfl) ?_
    refine ql_aload_n (r := (some a0)) C dL_law_429 rfl (lv_at hl 0 rfl) ?_
    refine lv_iload C.1.1 C.1.2.1 dL_law_430 (lv_at hl 5 rfl) ?_
    refine lv_iconst (v := (1 : Int32)) C.1.1 C.1.2.1 dL_law_432 (by decide) ?_
    refine lv_iadd C.1.1 C.1.2.1 dL_law_433 ?_
    refine ql_sld C S hX w.1 dL_law_434 ?_
    replace w := w.2
    refine ql_aload_n (r := (some a0)) C dL_law_435 rfl (lv_at hl 0 rfl) ?_
    refine lv_iload C.1.1 C.1.2.1 dL_law_436 (lv_at hl 5 rfl) ?_
    refine lv_iconst (v := (2 : Int32)) C.1.1 C.1.2.1 dL_law_438 (by decide) ?_
    refine lv_iadd C.1.1 C.1.2.1 dL_law_439 ?_
    refine ql_sld C S hX w.1 dL_law_440 ?_
    replace w := w.2
    refine ql_aload_n (r := (some a0)) C dL_law_441 rfl (lv_at hl 0 rfl) ?_
    refine lv_iload C.1.1 C.1.2.1 dL_law_442 (lv_at hl 5 rfl) ?_
    refine lv_iconst (v := (3 : Int32)) C.1.1 C.1.2.1 dL_law_444 (by decide) ?_
    refine lv_iadd C.1.1 C.1.2.1 dL_law_445 ?_
    refine ql_sld C S hX w.1 dL_law_446 ?_
    replace w := w.2
    refine lv_i2c C.1.1 C.1.2.1 dL_law_447 rfl ?_
    refine ql_aload_n (r := rl3) C dL_law_448 rfl (lv_at hl 3 rfl) ?_
    refine ql_SHI (As := [va_rf rl1, .int (xs9 (xl5 + (1 : Int32)).toNatClampNeg), .int (xs9 (xl5 + (2 : Int32)).toNatClampNeg), .int ((xs9 (xl5 + (3 : Int32)).toNatClampNeg).toUInt32 % 65536).toInt32, va_rf rl3]) (rest := []) C S hl qyh_L_replaceNote gw_871 (qm_L_replaceNote l hl9 D _ rl1 (xs9 (xl5 + (1 : Int32)).toNatClampNeg) (xs9 (xl5 + (2 : Int32)).toNatClampNeg) ((xs9 (xl5 + (3 : Int32)).toNatClampNeg).toUInt32 % 65536).toInt32 rl3 _ _ w) rfl ⟨Nat.le_of_ble_eq_true rfl, Nat.le_of_ble_eq_true rfl⟩ ⟨rfl, rfl⟩ (by exact Nat.le_of_ble_eq_true rfl) rfl dL_law_449 ⟨(by show _ ≤ (603072 : Nat); omega), (by show _ ≤ (7190633 : Nat); omega)⟩ (fun x13 h H locs S w => ?_)
    refine W.cs (cells' := (1033 + (513 - (n + 1)) * 21)) (slots' := (15206 + (513 - (n + 1)) * 5126)) (by omega) (by omega) ?_
    refine lv_istore (lv' := [(6, .int x13), (0, .ref a0), (1, va_rf rl1), (2, va_rf rl2), (3, va_rf rl3), (4, va_rf rl4), (5, .int xl5)]) C.1.1 C.1.2.1 dL_law_452 hl (by decide) rfl (fun ls hl => ?_)
    refine ql_aload_n (r := rl2) C dL_law_454 rfl (lv_at hl 3 rfl) ?_
    refine ql_aload_n (r := (some a0)) C dL_law_455 rfl (lv_at hl 1 rfl) ?_
    refine lv_iload C.1.1 C.1.2.1 dL_law_456 (lv_at hl 6 rfl) ?_
    refine lv_iconst (v := (1 : Int32)) C.1.1 C.1.2.1 dL_law_458 (by decide) ?_
    refine lv_iadd C.1.1 C.1.2.1 dL_law_459 ?_
    refine ql_sld C S hX w.1 dL_law_460 ?_
    replace w := w.2
    refine ql_aload_n (r := (some a0)) C dL_law_461 rfl (lv_at hl 1 rfl) ?_
    refine lv_iload C.1.1 C.1.2.1 dL_law_462 (lv_at hl 6 rfl) ?_
    refine lv_iconst (v := (2 : Int32)) C.1.1 C.1.2.1 dL_law_464 (by decide) ?_
    refine lv_iadd C.1.1 C.1.2.1 dL_law_465 ?_
    refine ql_sld C S hX w.1 dL_law_466 ?_
    replace w := w.2
    refine ql_aload_n (r := (some a0)) C dL_law_467 rfl (lv_at hl 1 rfl) ?_
    refine lv_iload C.1.1 C.1.2.1 dL_law_468 (lv_at hl 6 rfl) ?_
    refine lv_iconst (v := (3 : Int32)) C.1.1 C.1.2.1 dL_law_470 (by decide) ?_
    refine lv_iadd C.1.1 C.1.2.1 dL_law_471 ?_
    refine ql_sld C S hX w.1 dL_law_472 ?_
    replace w := w.2
    refine lv_i2c C.1.1 C.1.2.1 dL_law_473 rfl ?_
    refine ql_VI (As := [.int (xs9 (xl5 + (1 : Int32)).toNatClampNeg), .int (xs9 (xl5 + (2 : Int32)).toNatClampNeg), .int ((xs9 (xl5 + (3 : Int32)).toNatClampNeg).toUInt32 % 65536).toInt32]) (rest := []) C S htab hlocks hl qy_X12_replaceNote qi_X12_replaceNote qs_X12_replaceNote gw_1800 (ci := 13) rfl w (fun b w => qm_X12_replaceNote l hl9 D _ b (xs9 (xl5 + (1 : Int32)).toNatClampNeg) (xs9 (xl5 + (2 : Int32)).toNatClampNeg) ((xs9 (xl5 + (3 : Int32)).toNatClampNeg).toUInt32 % 65536).toInt32 _ _ w) rfl ⟨Nat.le_of_ble_eq_true rfl, Nat.le_of_ble_eq_true rfl⟩ ⟨rfl, rfl⟩ (by exact Nat.le_of_ble_eq_true rfl) (fun b e9 => by cases e9; rfl) dL_law_474 ⟨(by show _ ≤ (603072 : Nat); omega), (by show _ ≤ (7190633 : Nat); omega)⟩ ⟨(by show _ ≤ (603072 : Nat); omega), (by show _ ≤ (7190633 : Nat); omega)⟩ (fun x14 h H locs S w => ?_)
    refine W.cs (cells' := (1033 + (513 - (n + 1)) * 21)) (slots' := (15206 + (513 - (n + 1)) * 5126)) (by omega) (by omega) ?_
    refine lv_istore (lv' := [(7, .int x14), (6, .int x13), (0, .ref a0), (1, va_rf rl1), (2, va_rf rl2), (3, va_rf rl3), (4, va_rf rl4), (5, .int xl5)]) C.1.1 C.1.2.1 dL_law_477 hl (by decide) rfl (fun ls hl => ?_)
    refine ql_aload_n (r := rl2) C dL_law_479 rfl (lv_at hl 4 rfl) ?_
    refine ql_VI (As := []) (rest := []) C S htab hlocks hl qy_X12_thrown qi_X12_thrown qs_X12_thrown gw_1727 (ci := 13) rfl w (fun b w => qm_X12_thrown l hl9 D _ b _ _ w) rfl ⟨Nat.le_of_ble_eq_true rfl, Nat.le_of_ble_eq_true rfl⟩ ⟨rfl, rfl⟩ (by exact Nat.le_of_ble_eq_true rfl) (fun b e9 => by cases e9; rfl) dL_law_480 ⟨(by show _ ≤ (603072 : Nat); omega), (by show _ ≤ (7190633 : Nat); omega)⟩ ⟨(by show _ ≤ (603072 : Nat); omega), (by show _ ≤ (7190633 : Nat); omega)⟩ (fun x16 h H locs S w => ?_)
    refine W.cs (cells' := (1033 + (513 - (n + 1)) * 21)) (slots' := (15206 + (513 - (n + 1)) * 5126)) (by omega) (by omega) ?_
    refine lv_iload C.1.1 C.1.2.1 dL_law_483 (lv_at hl 1 rfl) ?_
    refine lv_icmp_eq (tgt := 490) C.1.1 C.1.2.1 dL_law_485 (by decide) (fun c9 => ?_) (fun c9 => ?_)
    · replace w := ql_if w c9
      refine lv_iload C.1.1 C.1.2.1 dL_law_490 (lv_at hl 1 rfl) ?_
      refine lv_if_ne (tgt := 507) C.1.1 C.1.2.1 dL_law_492 (by decide) (fun c9 => ?_) (fun c9 => ?_)
      · replace w := ql_ifn w c9
        exact hB507 n hn9 k28 hk28 rl1 rl2 rl3 rl4 xl5 _ _ _ _ S (lv_sub hl [2, 3, 4, 5, 6, 7] rfl) w
      · replace w := ql_if w c9
        refine ql_aload_n (r := rl3) C dL_law_495 rfl (lv_at hl 5 rfl) ?_
        refine lv_iconst (v := (0 : Int32)) C.1.1 C.1.2.1 dL_law_496 (by decide) ?_
        refine ql_lald C S dL_law_497 w (fun j18 w => ?_)
        refine lv_iload C.1.1 C.1.2.1 dL_law_498 (lv_at hl 0 rfl) ?_
        refine lv_i2l C.1.1 C.1.2.1 dL_law_500 rfl ?_
        refine W.lcmp C.1.1 C.1.2.1 dL_law_501 ?_
        refine lv_if_eq (tgt := 507) C.1.1 C.1.2.1 dL_law_502 (by decide) (fun c9 => ?_) (fun c9 => ?_)
        · replace w := ql_if w c9
          exact hB507 n hn9 k28 hk28 rl1 rl2 rl3 rl4 xl5 _ _ _ _ S (lv_sub hl [2, 3, 4, 5, 6, 7] rfl) w
        · replace w := ql_ifn w c9
          refine lv_iconst (v := (0 : Int32)) C.1.1 C.1.2.1 dL_law_505 (by decide) ?_
          exact ql_zret C S hr hlocks dL_law_506 ⟨(by show _ ≤ (603072 : Nat); omega), (by show _ ≤ (7190633 : Nat); omega)⟩ w
    · replace w := ql_ifn w c9
      refine lv_iconst (v := (0 : Int32)) C.1.1 C.1.2.1 dL_law_488 (by decide) ?_
      exact ql_zret C S hr hlocks dL_law_489 ⟨(by show _ ≤ (603072 : Nat); omega), (by show _ ≤ (7190633 : Nat); omega)⟩ w
  have hB575 : ∀ n : Nat, n + 1 ≤ 513 → ∀ (k28 : Option Nat → Option Nat → Option Nat → Option Nat → Int32 → ql_H → Prop) (hk28 : ∀ (rl1 : Option Nat) (rl2 : Option Nat) (rl3 : Option Nat) (rl4 : Option Nat) (xl5 : Int32) (h : ql_H) (H : Heap) (locs : List Loc) (ls : Array Slot), ql_S D h0 s H locs h → lv_has ls 9 [(0, .ref a0), (1, va_rf rl1), (2, va_rf rl2), (3, va_rf rl3), (4, va_rf rl4), (5, .int xl5)] → k28 rl1 rl2 rl3 rl4 xl5 h → W p l e ({ frames := 2048, cells := 603072, slots := 7190633, locals := 94400 } : Room) s m ([.ref a0] : List Value).toArray below meth c H locs (1032 + (513 - n) * 21) (15200 + (513 - n) * 5126) (vx_MQ below (ql_Q D h0 (ql_rI Q)) (ql_X D h0 X) ([.ref a0] : List Value).toArray s 603072 7190633 (ql_A h0)) (F0 m 28 ls [])) , ∀ (rl1 : Option Nat) (rl2 : Option Nat) (rl3 : Option Nat) (rl4 : Option Nat) (xl5 : Int32) (h : ql_H) (H : Heap) (locs : List Loc) (ls : Array Slot), ql_S D h0 s H locs h → lv_has ls 9 [(0, .ref a0), (1, va_rf rl1), (2, va_rf rl2), (3, va_rf rl3), (4, va_rf rl4), (5, .int xl5)] → qw_L_law_575 D.2 L9 xs9 a0 Q X k28 rl1 rl2 rl3 rl4 xl5 h → W p l e ({ frames := 2048, cells := 603072, slots := 7190633, locals := 94400 } : Room) s m ([.ref a0] : List Value).toArray below meth c H locs (1033 + (513 - (n + 1)) * 21) (15206 + (513 - (n + 1)) * 5126) (vx_MQ below (ql_Q D h0 (ql_rI Q)) (ql_X D h0 X) ([.ref a0] : List Value).toArray s 603072 7190633 (ql_A h0)) (F0 m 575 ls []) := by
    intro n hn9 k28 hk28 rl1 rl2 rl3 rl4 xl5 h H locs ls S hl w
    unfold qw_L_law_575 at w
    refine lv_goto (tgt := 2957) C.1.1 C.1.2.1 dL_law_575 (by decide) ?_
    refine W.cs (cells' := (1053 + (513 - (n + 1)) * 21)) (slots' := (20326 + (513 - (n + 1)) * 5126)) (by omega) (by omega) ?_
    exact hB2957 n hn9 k28 hk28 rl1 rl2 rl3 rl4 xl5 _ _ _ _ S (lv_sub hl [0, 1, 2, 3, 4, 5] rfl) w
  have hB510 : ∀ n : Nat, n + 1 ≤ 513 → ∀ (k28 : Option Nat → Option Nat → Option Nat → Option Nat → Int32 → ql_H → Prop) (hk28 : ∀ (rl1 : Option Nat) (rl2 : Option Nat) (rl3 : Option Nat) (rl4 : Option Nat) (xl5 : Int32) (h : ql_H) (H : Heap) (locs : List Loc) (ls : Array Slot), ql_S D h0 s H locs h → lv_has ls 9 [(0, .ref a0), (1, va_rf rl1), (2, va_rf rl2), (3, va_rf rl3), (4, va_rf rl4), (5, .int xl5)] → k28 rl1 rl2 rl3 rl4 xl5 h → W p l e ({ frames := 2048, cells := 603072, slots := 7190633, locals := 94400 } : Room) s m ([.ref a0] : List Value).toArray below meth c H locs (1032 + (513 - n) * 21) (15200 + (513 - n) * 5126) (vx_MQ below (ql_Q D h0 (ql_rI Q)) (ql_X D h0 X) ([.ref a0] : List Value).toArray s 603072 7190633 (ql_A h0)) (F0 m 28 ls [])) , ∀ (rl1 : Option Nat) (rl2 : Option Nat) (rl3 : Option Nat) (rl4 : Option Nat) (xl5 : Int32) (h : ql_H) (H : Heap) (locs : List Loc) (ls : Array Slot), ql_S D h0 s H locs h → lv_has ls 9 [(0, .ref a0), (1, va_rf rl1), (2, va_rf rl2), (3, va_rf rl3), (4, va_rf rl4), (5, .int xl5)] → qw_L_law_510 D.2 L9 xs9 a0 Q X k28 rl1 rl2 rl3 rl4 xl5 h → W p l e ({ frames := 2048, cells := 603072, slots := 7190633, locals := 94400 } : Room) s m ([.ref a0] : List Value).toArray below meth c H locs (1032 + (513 - (n + 1)) * 21) (15200 + (513 - (n + 1)) * 5126) (vx_MQ below (ql_Q D h0 (ql_rI Q)) (ql_X D h0 X) ([.ref a0] : List Value).toArray s 603072 7190633 (ql_A h0)) (F0 m 510 ls []) := by
    intro n hn9 k28 hk28 rl1 rl2 rl3 rl4 xl5 h H locs ls S hl w
    unfold qw_L_law_510 at w
    refine ql_aload_n (r := rl1) C dL_law_510 rfl (lv_at hl 1 rfl) ?_
    refine ql_aload_n (r := (some a0)) C dL_law_511 rfl (lv_at hl 0 rfl) ?_
    refine lv_iload C.1.1 C.1.2.1 dL_law_512 (lv_at hl 5 rfl) ?_
    refine lv_iconst (v := (1 : Int32)) C.1.1 C.1.2.1 dL_law_514 (by decide) ?_
    refine lv_iadd C.1.1 C.1.2.1 dL_law_515 ?_
    refine ql_sld C S hX w.1 dL_law_516 ?_
    replace w := w.2
    refine ql_aload_n (r := (some a0)) C dL_law_517 rfl (lv_at hl 0 rfl) ?_
    refine lv_iload C.1.1 C.1.2.1 dL_law_518 (lv_at hl 5 rfl) ?_
    refine lv_iconst (v := (2 : Int32)) C.1.1 C.1.2.1 dL_law_520 (by decide) ?_
    refine lv_iadd C.1.1 C.1.2.1 dL_law_521 ?_
    refine ql_sld C S hX w.1 dL_law_522 ?_
    replace w := w.2
    refine ql_aload_n (r := rl3) C dL_law_523 rfl (lv_at hl 3 rfl) ?_
    refine ql_SHI (As := [va_rf rl1, .int (xs9 (xl5 + (1 : Int32)).toNatClampNeg), .int (xs9 (xl5 + (2 : Int32)).toNatClampNeg), va_rf rl3]) (rest := []) C S hl qyh_L_deleteNote gw_889 (qm_L_deleteNote l hl9 D _ rl1 (xs9 (xl5 + (1 : Int32)).toNatClampNeg) (xs9 (xl5 + (2 : Int32)).toNatClampNeg) rl3 _ _ w) rfl ⟨Nat.le_of_ble_eq_true rfl, Nat.le_of_ble_eq_true rfl⟩ ⟨rfl, rfl⟩ (by exact Nat.le_of_ble_eq_true rfl) rfl dL_law_524 ⟨(by show _ ≤ (603072 : Nat); omega), (by show _ ≤ (7190633 : Nat); omega)⟩ (fun x19 h H locs S w => ?_)
    refine W.cs (cells' := (1033 + (513 - (n + 1)) * 21)) (slots' := (15206 + (513 - (n + 1)) * 5126)) (by omega) (by omega) ?_
    refine lv_istore (lv' := [(6, .int x19), (0, .ref a0), (1, va_rf rl1), (2, va_rf rl2), (3, va_rf rl3), (4, va_rf rl4), (5, .int xl5)]) C.1.1 C.1.2.1 dL_law_527 hl (by decide) rfl (fun ls hl => ?_)
    refine ql_aload_n (r := rl2) C dL_law_529 rfl (lv_at hl 3 rfl) ?_
    refine ql_aload_n (r := (some a0)) C dL_law_530 rfl (lv_at hl 1 rfl) ?_
    refine lv_iload C.1.1 C.1.2.1 dL_law_531 (lv_at hl 6 rfl) ?_
    refine lv_iconst (v := (1 : Int32)) C.1.1 C.1.2.1 dL_law_533 (by decide) ?_
    refine lv_iadd C.1.1 C.1.2.1 dL_law_534 ?_
    refine ql_sld C S hX w.1 dL_law_535 ?_
    replace w := w.2
    refine ql_aload_n (r := (some a0)) C dL_law_536 rfl (lv_at hl 1 rfl) ?_
    refine lv_iload C.1.1 C.1.2.1 dL_law_537 (lv_at hl 6 rfl) ?_
    refine lv_iconst (v := (2 : Int32)) C.1.1 C.1.2.1 dL_law_539 (by decide) ?_
    refine lv_iadd C.1.1 C.1.2.1 dL_law_540 ?_
    refine ql_sld C S hX w.1 dL_law_541 ?_
    replace w := w.2
    refine ql_VI (As := [.int (xs9 (xl5 + (1 : Int32)).toNatClampNeg), .int (xs9 (xl5 + (2 : Int32)).toNatClampNeg)]) (rest := []) C S htab hlocks hl qy_X12_deleteNote qi_X12_deleteNote qs_X12_deleteNote gw_1804 (ci := 13) rfl w (fun b w => qm_X12_deleteNote l hl9 D _ b (xs9 (xl5 + (1 : Int32)).toNatClampNeg) (xs9 (xl5 + (2 : Int32)).toNatClampNeg) _ _ w) rfl ⟨Nat.le_of_ble_eq_true rfl, Nat.le_of_ble_eq_true rfl⟩ ⟨rfl, rfl⟩ (by exact Nat.le_of_ble_eq_true rfl) (fun b e9 => by cases e9; rfl) dL_law_542 ⟨(by show _ ≤ (603072 : Nat); omega), (by show _ ≤ (7190633 : Nat); omega)⟩ ⟨(by show _ ≤ (603072 : Nat); omega), (by show _ ≤ (7190633 : Nat); omega)⟩ (fun x20 h H locs S w => ?_)
    refine W.cs (cells' := (1033 + (513 - (n + 1)) * 21)) (slots' := (15206 + (513 - (n + 1)) * 5126)) (by omega) (by omega) ?_
    refine lv_istore (lv' := [(7, .int x20), (6, .int x19), (0, .ref a0), (1, va_rf rl1), (2, va_rf rl2), (3, va_rf rl3), (4, va_rf rl4), (5, .int xl5)]) C.1.1 C.1.2.1 dL_law_545 hl (by decide) rfl (fun ls hl => ?_)
    refine ql_aload_n (r := rl2) C dL_law_547 rfl (lv_at hl 4 rfl) ?_
    refine ql_VI (As := []) (rest := []) C S htab hlocks hl qy_X12_thrown qi_X12_thrown qs_X12_thrown gw_1727 (ci := 13) rfl w (fun b w => qm_X12_thrown l hl9 D _ b _ _ w) rfl ⟨Nat.le_of_ble_eq_true rfl, Nat.le_of_ble_eq_true rfl⟩ ⟨rfl, rfl⟩ (by exact Nat.le_of_ble_eq_true rfl) (fun b e9 => by cases e9; rfl) dL_law_548 ⟨(by show _ ≤ (603072 : Nat); omega), (by show _ ≤ (7190633 : Nat); omega)⟩ ⟨(by show _ ≤ (603072 : Nat); omega), (by show _ ≤ (7190633 : Nat); omega)⟩ (fun x22 h H locs S w => ?_)
    refine W.cs (cells' := (1033 + (513 - (n + 1)) * 21)) (slots' := (15206 + (513 - (n + 1)) * 5126)) (by omega) (by omega) ?_
    refine lv_iload C.1.1 C.1.2.1 dL_law_551 (lv_at hl 1 rfl) ?_
    refine lv_icmp_eq (tgt := 558) C.1.1 C.1.2.1 dL_law_553 (by decide) (fun c9 => ?_) (fun c9 => ?_)
    · replace w := ql_if w c9
      refine lv_iload C.1.1 C.1.2.1 dL_law_558 (lv_at hl 1 rfl) ?_
      refine lv_if_ne (tgt := 575) C.1.1 C.1.2.1 dL_law_560 (by decide) (fun c9 => ?_) (fun c9 => ?_)
      · replace w := ql_ifn w c9
        exact hB575 n hn9 k28 hk28 rl1 rl2 rl3 rl4 xl5 _ _ _ _ S (lv_sub hl [2, 3, 4, 5, 6, 7] rfl) w
      · replace w := ql_if w c9
        refine ql_aload_n (r := rl3) C dL_law_563 rfl (lv_at hl 5 rfl) ?_
        refine lv_iconst (v := (0 : Int32)) C.1.1 C.1.2.1 dL_law_564 (by decide) ?_
        refine ql_lald C S dL_law_565 w (fun j24 w => ?_)
        refine lv_iload C.1.1 C.1.2.1 dL_law_566 (lv_at hl 0 rfl) ?_
        refine lv_i2l C.1.1 C.1.2.1 dL_law_568 rfl ?_
        refine W.lcmp C.1.1 C.1.2.1 dL_law_569 ?_
        refine lv_if_eq (tgt := 575) C.1.1 C.1.2.1 dL_law_570 (by decide) (fun c9 => ?_) (fun c9 => ?_)
        · replace w := ql_if w c9
          exact hB575 n hn9 k28 hk28 rl1 rl2 rl3 rl4 xl5 _ _ _ _ S (lv_sub hl [2, 3, 4, 5, 6, 7] rfl) w
        · replace w := ql_ifn w c9
          refine lv_iconst (v := (0 : Int32)) C.1.1 C.1.2.1 dL_law_573 (by decide) ?_
          exact ql_zret C S hr hlocks dL_law_574 ⟨(by show _ ≤ (603072 : Nat); omega), (by show _ ≤ (7190633 : Nat); omega)⟩ w
    · replace w := ql_ifn w c9
      refine lv_iconst (v := (0 : Int32)) C.1.1 C.1.2.1 dL_law_556 (by decide) ?_
      exact ql_zret C S hr hlocks dL_law_557 ⟨(by show _ ≤ (603072 : Nat); omega), (by show _ ≤ (7190633 : Nat); omega)⟩ w
  have hB643 : ∀ n : Nat, n + 1 ≤ 513 → ∀ (k28 : Option Nat → Option Nat → Option Nat → Option Nat → Int32 → ql_H → Prop) (hk28 : ∀ (rl1 : Option Nat) (rl2 : Option Nat) (rl3 : Option Nat) (rl4 : Option Nat) (xl5 : Int32) (h : ql_H) (H : Heap) (locs : List Loc) (ls : Array Slot), ql_S D h0 s H locs h → lv_has ls 9 [(0, .ref a0), (1, va_rf rl1), (2, va_rf rl2), (3, va_rf rl3), (4, va_rf rl4), (5, .int xl5)] → k28 rl1 rl2 rl3 rl4 xl5 h → W p l e ({ frames := 2048, cells := 603072, slots := 7190633, locals := 94400 } : Room) s m ([.ref a0] : List Value).toArray below meth c H locs (1032 + (513 - n) * 21) (15200 + (513 - n) * 5126) (vx_MQ below (ql_Q D h0 (ql_rI Q)) (ql_X D h0 X) ([.ref a0] : List Value).toArray s 603072 7190633 (ql_A h0)) (F0 m 28 ls [])) , ∀ (rl1 : Option Nat) (rl2 : Option Nat) (rl3 : Option Nat) (rl4 : Option Nat) (xl5 : Int32) (h : ql_H) (H : Heap) (locs : List Loc) (ls : Array Slot), ql_S D h0 s H locs h → lv_has ls 9 [(0, .ref a0), (1, va_rf rl1), (2, va_rf rl2), (3, va_rf rl3), (4, va_rf rl4), (5, .int xl5)] → qw_L_law_643 D.2 L9 xs9 a0 Q X k28 rl1 rl2 rl3 rl4 xl5 h → W p l e ({ frames := 2048, cells := 603072, slots := 7190633, locals := 94400 } : Room) s m ([.ref a0] : List Value).toArray below meth c H locs (1033 + (513 - (n + 1)) * 21) (15206 + (513 - (n + 1)) * 5126) (vx_MQ below (ql_Q D h0 (ql_rI Q)) (ql_X D h0 X) ([.ref a0] : List Value).toArray s 603072 7190633 (ql_A h0)) (F0 m 643 ls []) := by
    intro n hn9 k28 hk28 rl1 rl2 rl3 rl4 xl5 h H locs ls S hl w
    unfold qw_L_law_643 at w
    refine lv_goto (tgt := 2957) C.1.1 C.1.2.1 dL_law_643 (by decide) ?_
    refine W.cs (cells' := (1053 + (513 - (n + 1)) * 21)) (slots' := (20326 + (513 - (n + 1)) * 5126)) (by omega) (by omega) ?_
    exact hB2957 n hn9 k28 hk28 rl1 rl2 rl3 rl4 xl5 _ _ _ _ S (lv_sub hl [0, 1, 2, 3, 4, 5] rfl) w
  have hB578 : ∀ n : Nat, n + 1 ≤ 513 → ∀ (k28 : Option Nat → Option Nat → Option Nat → Option Nat → Int32 → ql_H → Prop) (hk28 : ∀ (rl1 : Option Nat) (rl2 : Option Nat) (rl3 : Option Nat) (rl4 : Option Nat) (xl5 : Int32) (h : ql_H) (H : Heap) (locs : List Loc) (ls : Array Slot), ql_S D h0 s H locs h → lv_has ls 9 [(0, .ref a0), (1, va_rf rl1), (2, va_rf rl2), (3, va_rf rl3), (4, va_rf rl4), (5, .int xl5)] → k28 rl1 rl2 rl3 rl4 xl5 h → W p l e ({ frames := 2048, cells := 603072, slots := 7190633, locals := 94400 } : Room) s m ([.ref a0] : List Value).toArray below meth c H locs (1032 + (513 - n) * 21) (15200 + (513 - n) * 5126) (vx_MQ below (ql_Q D h0 (ql_rI Q)) (ql_X D h0 X) ([.ref a0] : List Value).toArray s 603072 7190633 (ql_A h0)) (F0 m 28 ls [])) , ∀ (rl1 : Option Nat) (rl2 : Option Nat) (rl3 : Option Nat) (rl4 : Option Nat) (xl5 : Int32) (h : ql_H) (H : Heap) (locs : List Loc) (ls : Array Slot), ql_S D h0 s H locs h → lv_has ls 9 [(0, .ref a0), (1, va_rf rl1), (2, va_rf rl2), (3, va_rf rl3), (4, va_rf rl4), (5, .int xl5)] → qw_L_law_578 D.2 L9 xs9 a0 Q X k28 rl1 rl2 rl3 rl4 xl5 h → W p l e ({ frames := 2048, cells := 603072, slots := 7190633, locals := 94400 } : Room) s m ([.ref a0] : List Value).toArray below meth c H locs (1032 + (513 - (n + 1)) * 21) (15200 + (513 - (n + 1)) * 5126) (vx_MQ below (ql_Q D h0 (ql_rI Q)) (ql_X D h0 X) ([.ref a0] : List Value).toArray s 603072 7190633 (ql_A h0)) (F0 m 578 ls []) := by
    intro n hn9 k28 hk28 rl1 rl2 rl3 rl4 xl5 h H locs ls S hl w
    unfold qw_L_law_578 at w
    refine ql_aload_n (r := rl1) C dL_law_578 rfl (lv_at hl 1 rfl) ?_
    refine ql_aload_n (r := (some a0)) C dL_law_579 rfl (lv_at hl 0 rfl) ?_
    refine lv_iload C.1.1 C.1.2.1 dL_law_580 (lv_at hl 5 rfl) ?_
    refine lv_iconst (v := (1 : Int32)) C.1.1 C.1.2.1 dL_law_582 (by decide) ?_
    refine lv_iadd C.1.1 C.1.2.1 dL_law_583 ?_
    refine ql_sld C S hX w.1 dL_law_584 ?_
    replace w := w.2
    refine ql_aload_n (r := (some a0)) C dL_law_585 rfl (lv_at hl 0 rfl) ?_
    refine lv_iload C.1.1 C.1.2.1 dL_law_586 (lv_at hl 5 rfl) ?_
    refine lv_iconst (v := (2 : Int32)) C.1.1 C.1.2.1 dL_law_588 (by decide) ?_
    refine lv_iadd C.1.1 C.1.2.1 dL_law_589 ?_
    refine ql_sld C S hX w.1 dL_law_590 ?_
    replace w := w.2
    refine ql_aload_n (r := rl3) C dL_law_591 rfl (lv_at hl 3 rfl) ?_
    refine ql_SHI (As := [va_rf rl1, .int (xs9 (xl5 + (1 : Int32)).toNatClampNeg), .int (xs9 (xl5 + (2 : Int32)).toNatClampNeg), va_rf rl3]) (rest := []) C S hl qyh_L_setSunset gw_901 (qm_L_setSunset l hl9 D _ rl1 (xs9 (xl5 + (1 : Int32)).toNatClampNeg) (xs9 (xl5 + (2 : Int32)).toNatClampNeg) rl3 _ _ w) rfl ⟨Nat.le_of_ble_eq_true rfl, Nat.le_of_ble_eq_true rfl⟩ ⟨rfl, rfl⟩ (by exact Nat.le_of_ble_eq_true rfl) rfl dL_law_592 ⟨(by show _ ≤ (603072 : Nat); omega), (by show _ ≤ (7190633 : Nat); omega)⟩ (fun x25 h H locs S w => ?_)
    refine W.cs (cells' := (1033 + (513 - (n + 1)) * 21)) (slots' := (15206 + (513 - (n + 1)) * 5126)) (by omega) (by omega) ?_
    refine lv_istore (lv' := [(6, .int x25), (0, .ref a0), (1, va_rf rl1), (2, va_rf rl2), (3, va_rf rl3), (4, va_rf rl4), (5, .int xl5)]) C.1.1 C.1.2.1 dL_law_595 hl (by decide) rfl (fun ls hl => ?_)
    refine ql_aload_n (r := rl2) C dL_law_597 rfl (lv_at hl 3 rfl) ?_
    refine ql_aload_n (r := (some a0)) C dL_law_598 rfl (lv_at hl 1 rfl) ?_
    refine lv_iload C.1.1 C.1.2.1 dL_law_599 (lv_at hl 6 rfl) ?_
    refine lv_iconst (v := (1 : Int32)) C.1.1 C.1.2.1 dL_law_601 (by decide) ?_
    refine lv_iadd C.1.1 C.1.2.1 dL_law_602 ?_
    refine ql_sld C S hX w.1 dL_law_603 ?_
    replace w := w.2
    refine ql_aload_n (r := (some a0)) C dL_law_604 rfl (lv_at hl 1 rfl) ?_
    refine lv_iload C.1.1 C.1.2.1 dL_law_605 (lv_at hl 6 rfl) ?_
    refine lv_iconst (v := (2 : Int32)) C.1.1 C.1.2.1 dL_law_607 (by decide) ?_
    refine lv_iadd C.1.1 C.1.2.1 dL_law_608 ?_
    refine ql_sld C S hX w.1 dL_law_609 ?_
    replace w := w.2
    refine ql_VI (As := [.int (xs9 (xl5 + (1 : Int32)).toNatClampNeg), .int (xs9 (xl5 + (2 : Int32)).toNatClampNeg)]) (rest := []) C S htab hlocks hl qy_X12_setSunset qi_X12_setSunset qs_X12_setSunset gw_1808 (ci := 13) rfl w (fun b w => qm_X12_setSunset l hl9 D _ b (xs9 (xl5 + (1 : Int32)).toNatClampNeg) (xs9 (xl5 + (2 : Int32)).toNatClampNeg) _ _ w) rfl ⟨Nat.le_of_ble_eq_true rfl, Nat.le_of_ble_eq_true rfl⟩ ⟨rfl, rfl⟩ (by exact Nat.le_of_ble_eq_true rfl) (fun b e9 => by cases e9; rfl) dL_law_610 ⟨(by show _ ≤ (603072 : Nat); omega), (by show _ ≤ (7190633 : Nat); omega)⟩ ⟨(by show _ ≤ (603072 : Nat); omega), (by show _ ≤ (7190633 : Nat); omega)⟩ (fun x26 h H locs S w => ?_)
    refine W.cs (cells' := (1033 + (513 - (n + 1)) * 21)) (slots' := (15206 + (513 - (n + 1)) * 5126)) (by omega) (by omega) ?_
    refine lv_istore (lv' := [(7, .int x26), (6, .int x25), (0, .ref a0), (1, va_rf rl1), (2, va_rf rl2), (3, va_rf rl3), (4, va_rf rl4), (5, .int xl5)]) C.1.1 C.1.2.1 dL_law_613 hl (by decide) rfl (fun ls hl => ?_)
    refine ql_aload_n (r := rl2) C dL_law_615 rfl (lv_at hl 4 rfl) ?_
    refine ql_VI (As := []) (rest := []) C S htab hlocks hl qy_X12_thrown qi_X12_thrown qs_X12_thrown gw_1727 (ci := 13) rfl w (fun b w => qm_X12_thrown l hl9 D _ b _ _ w) rfl ⟨Nat.le_of_ble_eq_true rfl, Nat.le_of_ble_eq_true rfl⟩ ⟨rfl, rfl⟩ (by exact Nat.le_of_ble_eq_true rfl) (fun b e9 => by cases e9; rfl) dL_law_616 ⟨(by show _ ≤ (603072 : Nat); omega), (by show _ ≤ (7190633 : Nat); omega)⟩ ⟨(by show _ ≤ (603072 : Nat); omega), (by show _ ≤ (7190633 : Nat); omega)⟩ (fun x28 h H locs S w => ?_)
    refine W.cs (cells' := (1033 + (513 - (n + 1)) * 21)) (slots' := (15206 + (513 - (n + 1)) * 5126)) (by omega) (by omega) ?_
    refine lv_iload C.1.1 C.1.2.1 dL_law_619 (lv_at hl 1 rfl) ?_
    refine lv_icmp_eq (tgt := 626) C.1.1 C.1.2.1 dL_law_621 (by decide) (fun c9 => ?_) (fun c9 => ?_)
    · replace w := ql_if w c9
      refine lv_iload C.1.1 C.1.2.1 dL_law_626 (lv_at hl 1 rfl) ?_
      refine lv_if_ne (tgt := 643) C.1.1 C.1.2.1 dL_law_628 (by decide) (fun c9 => ?_) (fun c9 => ?_)
      · replace w := ql_ifn w c9
        exact hB643 n hn9 k28 hk28 rl1 rl2 rl3 rl4 xl5 _ _ _ _ S (lv_sub hl [2, 3, 4, 5, 6, 7] rfl) w
      · replace w := ql_if w c9
        refine ql_aload_n (r := rl3) C dL_law_631 rfl (lv_at hl 5 rfl) ?_
        refine lv_iconst (v := (0 : Int32)) C.1.1 C.1.2.1 dL_law_632 (by decide) ?_
        refine ql_lald C S dL_law_633 w (fun j30 w => ?_)
        refine lv_iload C.1.1 C.1.2.1 dL_law_634 (lv_at hl 0 rfl) ?_
        refine lv_i2l C.1.1 C.1.2.1 dL_law_636 rfl ?_
        refine W.lcmp C.1.1 C.1.2.1 dL_law_637 ?_
        refine lv_if_eq (tgt := 643) C.1.1 C.1.2.1 dL_law_638 (by decide) (fun c9 => ?_) (fun c9 => ?_)
        · replace w := ql_if w c9
          exact hB643 n hn9 k28 hk28 rl1 rl2 rl3 rl4 xl5 _ _ _ _ S (lv_sub hl [2, 3, 4, 5, 6, 7] rfl) w
        · replace w := ql_ifn w c9
          refine lv_iconst (v := (0 : Int32)) C.1.1 C.1.2.1 dL_law_641 (by decide) ?_
          exact ql_zret C S hr hlocks dL_law_642 ⟨(by show _ ≤ (603072 : Nat); omega), (by show _ ≤ (7190633 : Nat); omega)⟩ w
    · replace w := ql_ifn w c9
      refine lv_iconst (v := (0 : Int32)) C.1.1 C.1.2.1 dL_law_624 (by decide) ?_
      exact ql_zret C S hr hlocks dL_law_625 ⟨(by show _ ≤ (603072 : Nat); omega), (by show _ ≤ (7190633 : Nat); omega)⟩ w
  have hB711 : ∀ n : Nat, n + 1 ≤ 513 → ∀ (k28 : Option Nat → Option Nat → Option Nat → Option Nat → Int32 → ql_H → Prop) (hk28 : ∀ (rl1 : Option Nat) (rl2 : Option Nat) (rl3 : Option Nat) (rl4 : Option Nat) (xl5 : Int32) (h : ql_H) (H : Heap) (locs : List Loc) (ls : Array Slot), ql_S D h0 s H locs h → lv_has ls 9 [(0, .ref a0), (1, va_rf rl1), (2, va_rf rl2), (3, va_rf rl3), (4, va_rf rl4), (5, .int xl5)] → k28 rl1 rl2 rl3 rl4 xl5 h → W p l e ({ frames := 2048, cells := 603072, slots := 7190633, locals := 94400 } : Room) s m ([.ref a0] : List Value).toArray below meth c H locs (1032 + (513 - n) * 21) (15200 + (513 - n) * 5126) (vx_MQ below (ql_Q D h0 (ql_rI Q)) (ql_X D h0 X) ([.ref a0] : List Value).toArray s 603072 7190633 (ql_A h0)) (F0 m 28 ls [])) , ∀ (rl1 : Option Nat) (rl2 : Option Nat) (rl3 : Option Nat) (rl4 : Option Nat) (xl5 : Int32) (h : ql_H) (H : Heap) (locs : List Loc) (ls : Array Slot), ql_S D h0 s H locs h → lv_has ls 9 [(0, .ref a0), (1, va_rf rl1), (2, va_rf rl2), (3, va_rf rl3), (4, va_rf rl4), (5, .int xl5)] → qw_L_law_711 D.2 L9 xs9 a0 Q X k28 rl1 rl2 rl3 rl4 xl5 h → W p l e ({ frames := 2048, cells := 603072, slots := 7190633, locals := 94400 } : Room) s m ([.ref a0] : List Value).toArray below meth c H locs (1033 + (513 - (n + 1)) * 21) (15206 + (513 - (n + 1)) * 5126) (vx_MQ below (ql_Q D h0 (ql_rI Q)) (ql_X D h0 X) ([.ref a0] : List Value).toArray s 603072 7190633 (ql_A h0)) (F0 m 711 ls []) := by
    intro n hn9 k28 hk28 rl1 rl2 rl3 rl4 xl5 h H locs ls S hl w
    unfold qw_L_law_711 at w
    refine lv_goto (tgt := 2957) C.1.1 C.1.2.1 dL_law_711 (by decide) ?_
    refine W.cs (cells' := (1053 + (513 - (n + 1)) * 21)) (slots' := (20326 + (513 - (n + 1)) * 5126)) (by omega) (by omega) ?_
    exact hB2957 n hn9 k28 hk28 rl1 rl2 rl3 rl4 xl5 _ _ _ _ S (lv_sub hl [0, 1, 2, 3, 4, 5] rfl) w
  have hB646 : ∀ n : Nat, n + 1 ≤ 513 → ∀ (k28 : Option Nat → Option Nat → Option Nat → Option Nat → Int32 → ql_H → Prop) (hk28 : ∀ (rl1 : Option Nat) (rl2 : Option Nat) (rl3 : Option Nat) (rl4 : Option Nat) (xl5 : Int32) (h : ql_H) (H : Heap) (locs : List Loc) (ls : Array Slot), ql_S D h0 s H locs h → lv_has ls 9 [(0, .ref a0), (1, va_rf rl1), (2, va_rf rl2), (3, va_rf rl3), (4, va_rf rl4), (5, .int xl5)] → k28 rl1 rl2 rl3 rl4 xl5 h → W p l e ({ frames := 2048, cells := 603072, slots := 7190633, locals := 94400 } : Room) s m ([.ref a0] : List Value).toArray below meth c H locs (1032 + (513 - n) * 21) (15200 + (513 - n) * 5126) (vx_MQ below (ql_Q D h0 (ql_rI Q)) (ql_X D h0 X) ([.ref a0] : List Value).toArray s 603072 7190633 (ql_A h0)) (F0 m 28 ls [])) , ∀ (rl1 : Option Nat) (rl2 : Option Nat) (rl3 : Option Nat) (rl4 : Option Nat) (xl5 : Int32) (h : ql_H) (H : Heap) (locs : List Loc) (ls : Array Slot), ql_S D h0 s H locs h → lv_has ls 9 [(0, .ref a0), (1, va_rf rl1), (2, va_rf rl2), (3, va_rf rl3), (4, va_rf rl4), (5, .int xl5)] → qw_L_law_646 D.2 L9 xs9 a0 Q X k28 rl1 rl2 rl3 rl4 xl5 h → W p l e ({ frames := 2048, cells := 603072, slots := 7190633, locals := 94400 } : Room) s m ([.ref a0] : List Value).toArray below meth c H locs (1032 + (513 - (n + 1)) * 21) (15200 + (513 - (n + 1)) * 5126) (vx_MQ below (ql_Q D h0 (ql_rI Q)) (ql_X D h0 X) ([.ref a0] : List Value).toArray s 603072 7190633 (ql_A h0)) (F0 m 646 ls []) := by
    intro n hn9 k28 hk28 rl1 rl2 rl3 rl4 xl5 h H locs ls S hl w
    unfold qw_L_law_646 at w
    refine ql_aload_n (r := rl1) C dL_law_646 rfl (lv_at hl 1 rfl) ?_
    refine ql_aload_n (r := (some a0)) C dL_law_647 rfl (lv_at hl 0 rfl) ?_
    refine lv_iload C.1.1 C.1.2.1 dL_law_648 (lv_at hl 5 rfl) ?_
    refine lv_iconst (v := (1 : Int32)) C.1.1 C.1.2.1 dL_law_650 (by decide) ?_
    refine lv_iadd C.1.1 C.1.2.1 dL_law_651 ?_
    refine ql_sld C S hX w.1 dL_law_652 ?_
    replace w := w.2
    refine ql_aload_n (r := (some a0)) C dL_law_653 rfl (lv_at hl 0 rfl) ?_
    refine lv_iload C.1.1 C.1.2.1 dL_law_654 (lv_at hl 5 rfl) ?_
    refine lv_iconst (v := (2 : Int32)) C.1.1 C.1.2.1 dL_law_656 (by decide) ?_
    refine lv_iadd C.1.1 C.1.2.1 dL_law_657 ?_
    refine ql_sld C S hX w.1 dL_law_658 ?_
    replace w := w.2
    refine ql_aload_n (r := rl3) C dL_law_659 rfl (lv_at hl 3 rfl) ?_
    refine ql_SHI (As := [va_rf rl1, .int (xs9 (xl5 + (1 : Int32)).toNatClampNeg), .int (xs9 (xl5 + (2 : Int32)).toNatClampNeg), va_rf rl3]) (rest := []) C S hl qyh_L_cite gw_912 (qm_L_cite l hl9 D _ rl1 (xs9 (xl5 + (1 : Int32)).toNatClampNeg) (xs9 (xl5 + (2 : Int32)).toNatClampNeg) rl3 _ _ w) rfl ⟨Nat.le_of_ble_eq_true rfl, Nat.le_of_ble_eq_true rfl⟩ ⟨rfl, rfl⟩ (by exact Nat.le_of_ble_eq_true rfl) rfl dL_law_660 ⟨(by show _ ≤ (603072 : Nat); omega), (by show _ ≤ (7190633 : Nat); omega)⟩ (fun x31 h H locs S w => ?_)
    refine W.cs (cells' := (1033 + (513 - (n + 1)) * 21)) (slots' := (15206 + (513 - (n + 1)) * 5126)) (by omega) (by omega) ?_
    refine lv_istore (lv' := [(6, .int x31), (0, .ref a0), (1, va_rf rl1), (2, va_rf rl2), (3, va_rf rl3), (4, va_rf rl4), (5, .int xl5)]) C.1.1 C.1.2.1 dL_law_663 hl (by decide) rfl (fun ls hl => ?_)
    refine ql_aload_n (r := rl2) C dL_law_665 rfl (lv_at hl 3 rfl) ?_
    refine ql_aload_n (r := (some a0)) C dL_law_666 rfl (lv_at hl 1 rfl) ?_
    refine lv_iload C.1.1 C.1.2.1 dL_law_667 (lv_at hl 6 rfl) ?_
    refine lv_iconst (v := (1 : Int32)) C.1.1 C.1.2.1 dL_law_669 (by decide) ?_
    refine lv_iadd C.1.1 C.1.2.1 dL_law_670 ?_
    refine ql_sld C S hX w.1 dL_law_671 ?_
    replace w := w.2
    refine ql_aload_n (r := (some a0)) C dL_law_672 rfl (lv_at hl 1 rfl) ?_
    refine lv_iload C.1.1 C.1.2.1 dL_law_673 (lv_at hl 6 rfl) ?_
    refine lv_iconst (v := (2 : Int32)) C.1.1 C.1.2.1 dL_law_675 (by decide) ?_
    refine lv_iadd C.1.1 C.1.2.1 dL_law_676 ?_
    refine ql_sld C S hX w.1 dL_law_677 ?_
    replace w := w.2
    refine ql_VI (As := [.int (xs9 (xl5 + (1 : Int32)).toNatClampNeg), .int (xs9 (xl5 + (2 : Int32)).toNatClampNeg)]) (rest := []) C S htab hlocks hl qy_X12_cite qi_X12_cite qs_X12_cite gw_1816 (ci := 13) rfl w (fun b w => qm_X12_cite l hl9 D _ b (xs9 (xl5 + (1 : Int32)).toNatClampNeg) (xs9 (xl5 + (2 : Int32)).toNatClampNeg) _ _ w) rfl ⟨Nat.le_of_ble_eq_true rfl, Nat.le_of_ble_eq_true rfl⟩ ⟨rfl, rfl⟩ (by exact Nat.le_of_ble_eq_true rfl) (fun b e9 => by cases e9; rfl) dL_law_678 ⟨(by show _ ≤ (603072 : Nat); omega), (by show _ ≤ (7190633 : Nat); omega)⟩ ⟨(by show _ ≤ (603072 : Nat); omega), (by show _ ≤ (7190633 : Nat); omega)⟩ (fun x32 h H locs S w => ?_)
    refine W.cs (cells' := (1033 + (513 - (n + 1)) * 21)) (slots' := (15206 + (513 - (n + 1)) * 5126)) (by omega) (by omega) ?_
    refine lv_istore (lv' := [(7, .int x32), (6, .int x31), (0, .ref a0), (1, va_rf rl1), (2, va_rf rl2), (3, va_rf rl3), (4, va_rf rl4), (5, .int xl5)]) C.1.1 C.1.2.1 dL_law_681 hl (by decide) rfl (fun ls hl => ?_)
    refine ql_aload_n (r := rl2) C dL_law_683 rfl (lv_at hl 4 rfl) ?_
    refine ql_VI (As := []) (rest := []) C S htab hlocks hl qy_X12_thrown qi_X12_thrown qs_X12_thrown gw_1727 (ci := 13) rfl w (fun b w => qm_X12_thrown l hl9 D _ b _ _ w) rfl ⟨Nat.le_of_ble_eq_true rfl, Nat.le_of_ble_eq_true rfl⟩ ⟨rfl, rfl⟩ (by exact Nat.le_of_ble_eq_true rfl) (fun b e9 => by cases e9; rfl) dL_law_684 ⟨(by show _ ≤ (603072 : Nat); omega), (by show _ ≤ (7190633 : Nat); omega)⟩ ⟨(by show _ ≤ (603072 : Nat); omega), (by show _ ≤ (7190633 : Nat); omega)⟩ (fun x34 h H locs S w => ?_)
    refine W.cs (cells' := (1033 + (513 - (n + 1)) * 21)) (slots' := (15206 + (513 - (n + 1)) * 5126)) (by omega) (by omega) ?_
    refine lv_iload C.1.1 C.1.2.1 dL_law_687 (lv_at hl 1 rfl) ?_
    refine lv_icmp_eq (tgt := 694) C.1.1 C.1.2.1 dL_law_689 (by decide) (fun c9 => ?_) (fun c9 => ?_)
    · replace w := ql_if w c9
      refine lv_iload C.1.1 C.1.2.1 dL_law_694 (lv_at hl 1 rfl) ?_
      refine lv_if_ne (tgt := 711) C.1.1 C.1.2.1 dL_law_696 (by decide) (fun c9 => ?_) (fun c9 => ?_)
      · replace w := ql_ifn w c9
        exact hB711 n hn9 k28 hk28 rl1 rl2 rl3 rl4 xl5 _ _ _ _ S (lv_sub hl [2, 3, 4, 5, 6, 7] rfl) w
      · replace w := ql_if w c9
        refine ql_aload_n (r := rl3) C dL_law_699 rfl (lv_at hl 5 rfl) ?_
        refine lv_iconst (v := (0 : Int32)) C.1.1 C.1.2.1 dL_law_700 (by decide) ?_
        refine ql_lald C S dL_law_701 w (fun j36 w => ?_)
        refine lv_iload C.1.1 C.1.2.1 dL_law_702 (lv_at hl 0 rfl) ?_
        refine lv_i2l C.1.1 C.1.2.1 dL_law_704 rfl ?_
        refine W.lcmp C.1.1 C.1.2.1 dL_law_705 ?_
        refine lv_if_eq (tgt := 711) C.1.1 C.1.2.1 dL_law_706 (by decide) (fun c9 => ?_) (fun c9 => ?_)
        · replace w := ql_if w c9
          exact hB711 n hn9 k28 hk28 rl1 rl2 rl3 rl4 xl5 _ _ _ _ S (lv_sub hl [2, 3, 4, 5, 6, 7] rfl) w
        · replace w := ql_ifn w c9
          refine lv_iconst (v := (0 : Int32)) C.1.1 C.1.2.1 dL_law_709 (by decide) ?_
          exact ql_zret C S hr hlocks dL_law_710 ⟨(by show _ ≤ (603072 : Nat); omega), (by show _ ≤ (7190633 : Nat); omega)⟩ w
    · replace w := ql_ifn w c9
      refine lv_iconst (v := (0 : Int32)) C.1.1 C.1.2.1 dL_law_692 (by decide) ?_
      exact ql_zret C S hr hlocks dL_law_693 ⟨(by show _ ≤ (603072 : Nat); omega), (by show _ ≤ (7190633 : Nat); omega)⟩ w
  have hB779 : ∀ n : Nat, n + 1 ≤ 513 → ∀ (k28 : Option Nat → Option Nat → Option Nat → Option Nat → Int32 → ql_H → Prop) (hk28 : ∀ (rl1 : Option Nat) (rl2 : Option Nat) (rl3 : Option Nat) (rl4 : Option Nat) (xl5 : Int32) (h : ql_H) (H : Heap) (locs : List Loc) (ls : Array Slot), ql_S D h0 s H locs h → lv_has ls 9 [(0, .ref a0), (1, va_rf rl1), (2, va_rf rl2), (3, va_rf rl3), (4, va_rf rl4), (5, .int xl5)] → k28 rl1 rl2 rl3 rl4 xl5 h → W p l e ({ frames := 2048, cells := 603072, slots := 7190633, locals := 94400 } : Room) s m ([.ref a0] : List Value).toArray below meth c H locs (1032 + (513 - n) * 21) (15200 + (513 - n) * 5126) (vx_MQ below (ql_Q D h0 (ql_rI Q)) (ql_X D h0 X) ([.ref a0] : List Value).toArray s 603072 7190633 (ql_A h0)) (F0 m 28 ls [])) , ∀ (rl1 : Option Nat) (rl2 : Option Nat) (rl3 : Option Nat) (rl4 : Option Nat) (xl5 : Int32) (h : ql_H) (H : Heap) (locs : List Loc) (ls : Array Slot), ql_S D h0 s H locs h → lv_has ls 9 [(0, .ref a0), (1, va_rf rl1), (2, va_rf rl2), (3, va_rf rl3), (4, va_rf rl4), (5, .int xl5)] → qw_L_law_779 D.2 L9 xs9 a0 Q X k28 rl1 rl2 rl3 rl4 xl5 h → W p l e ({ frames := 2048, cells := 603072, slots := 7190633, locals := 94400 } : Room) s m ([.ref a0] : List Value).toArray below meth c H locs (1033 + (513 - (n + 1)) * 21) (15206 + (513 - (n + 1)) * 5126) (vx_MQ below (ql_Q D h0 (ql_rI Q)) (ql_X D h0 X) ([.ref a0] : List Value).toArray s 603072 7190633 (ql_A h0)) (F0 m 779 ls []) := by
    intro n hn9 k28 hk28 rl1 rl2 rl3 rl4 xl5 h H locs ls S hl w
    unfold qw_L_law_779 at w
    refine lv_goto (tgt := 2957) C.1.1 C.1.2.1 dL_law_779 (by decide) ?_
    refine W.cs (cells' := (1053 + (513 - (n + 1)) * 21)) (slots' := (20326 + (513 - (n + 1)) * 5126)) (by omega) (by omega) ?_
    exact hB2957 n hn9 k28 hk28 rl1 rl2 rl3 rl4 xl5 _ _ _ _ S (lv_sub hl [0, 1, 2, 3, 4, 5] rfl) w
  have hB714 : ∀ n : Nat, n + 1 ≤ 513 → ∀ (k28 : Option Nat → Option Nat → Option Nat → Option Nat → Int32 → ql_H → Prop) (hk28 : ∀ (rl1 : Option Nat) (rl2 : Option Nat) (rl3 : Option Nat) (rl4 : Option Nat) (xl5 : Int32) (h : ql_H) (H : Heap) (locs : List Loc) (ls : Array Slot), ql_S D h0 s H locs h → lv_has ls 9 [(0, .ref a0), (1, va_rf rl1), (2, va_rf rl2), (3, va_rf rl3), (4, va_rf rl4), (5, .int xl5)] → k28 rl1 rl2 rl3 rl4 xl5 h → W p l e ({ frames := 2048, cells := 603072, slots := 7190633, locals := 94400 } : Room) s m ([.ref a0] : List Value).toArray below meth c H locs (1032 + (513 - n) * 21) (15200 + (513 - n) * 5126) (vx_MQ below (ql_Q D h0 (ql_rI Q)) (ql_X D h0 X) ([.ref a0] : List Value).toArray s 603072 7190633 (ql_A h0)) (F0 m 28 ls [])) , ∀ (rl1 : Option Nat) (rl2 : Option Nat) (rl3 : Option Nat) (rl4 : Option Nat) (xl5 : Int32) (h : ql_H) (H : Heap) (locs : List Loc) (ls : Array Slot), ql_S D h0 s H locs h → lv_has ls 9 [(0, .ref a0), (1, va_rf rl1), (2, va_rf rl2), (3, va_rf rl3), (4, va_rf rl4), (5, .int xl5)] → qw_L_law_714 D.2 L9 xs9 a0 Q X k28 rl1 rl2 rl3 rl4 xl5 h → W p l e ({ frames := 2048, cells := 603072, slots := 7190633, locals := 94400 } : Room) s m ([.ref a0] : List Value).toArray below meth c H locs (1032 + (513 - (n + 1)) * 21) (15200 + (513 - (n + 1)) * 5126) (vx_MQ below (ql_Q D h0 (ql_rI Q)) (ql_X D h0 X) ([.ref a0] : List Value).toArray s 603072 7190633 (ql_A h0)) (F0 m 714 ls []) := by
    intro n hn9 k28 hk28 rl1 rl2 rl3 rl4 xl5 h H locs ls S hl w
    unfold qw_L_law_714 at w
    refine ql_aload_n (r := rl1) C dL_law_714 rfl (lv_at hl 1 rfl) ?_
    refine ql_aload_n (r := (some a0)) C dL_law_715 rfl (lv_at hl 0 rfl) ?_
    refine lv_iload C.1.1 C.1.2.1 dL_law_716 (lv_at hl 5 rfl) ?_
    refine lv_iconst (v := (1 : Int32)) C.1.1 C.1.2.1 dL_law_718 (by decide) ?_
    refine lv_iadd C.1.1 C.1.2.1 dL_law_719 ?_
    refine ql_sld C S hX w.1 dL_law_720 ?_
    replace w := w.2
    refine ql_aload_n (r := (some a0)) C dL_law_721 rfl (lv_at hl 0 rfl) ?_
    refine lv_iload C.1.1 C.1.2.1 dL_law_722 (lv_at hl 5 rfl) ?_
    refine lv_iconst (v := (2 : Int32)) C.1.1 C.1.2.1 dL_law_724 (by decide) ?_
    refine lv_iadd C.1.1 C.1.2.1 dL_law_725 ?_
    refine ql_sld C S hX w.1 dL_law_726 ?_
    replace w := w.2
    refine ql_aload_n (r := rl3) C dL_law_727 rfl (lv_at hl 3 rfl) ?_
    refine ql_SHI (As := [va_rf rl1, .int (xs9 (xl5 + (1 : Int32)).toNatClampNeg), .int (xs9 (xl5 + (2 : Int32)).toNatClampNeg), va_rf rl3]) (rest := []) C S hl qyh_L_uncite gw_931 (qm_L_uncite l hl9 D _ rl1 (xs9 (xl5 + (1 : Int32)).toNatClampNeg) (xs9 (xl5 + (2 : Int32)).toNatClampNeg) rl3 _ _ w) rfl ⟨Nat.le_of_ble_eq_true rfl, Nat.le_of_ble_eq_true rfl⟩ ⟨rfl, rfl⟩ (by exact Nat.le_of_ble_eq_true rfl) rfl dL_law_728 ⟨(by show _ ≤ (603072 : Nat); omega), (by show _ ≤ (7190633 : Nat); omega)⟩ (fun x37 h H locs S w => ?_)
    refine W.cs (cells' := (1033 + (513 - (n + 1)) * 21)) (slots' := (15206 + (513 - (n + 1)) * 5126)) (by omega) (by omega) ?_
    refine lv_istore (lv' := [(6, .int x37), (0, .ref a0), (1, va_rf rl1), (2, va_rf rl2), (3, va_rf rl3), (4, va_rf rl4), (5, .int xl5)]) C.1.1 C.1.2.1 dL_law_731 hl (by decide) rfl (fun ls hl => ?_)
    refine ql_aload_n (r := rl2) C dL_law_733 rfl (lv_at hl 3 rfl) ?_
    refine ql_aload_n (r := (some a0)) C dL_law_734 rfl (lv_at hl 1 rfl) ?_
    refine lv_iload C.1.1 C.1.2.1 dL_law_735 (lv_at hl 6 rfl) ?_
    refine lv_iconst (v := (1 : Int32)) C.1.1 C.1.2.1 dL_law_737 (by decide) ?_
    refine lv_iadd C.1.1 C.1.2.1 dL_law_738 ?_
    refine ql_sld C S hX w.1 dL_law_739 ?_
    replace w := w.2
    refine ql_aload_n (r := (some a0)) C dL_law_740 rfl (lv_at hl 1 rfl) ?_
    refine lv_iload C.1.1 C.1.2.1 dL_law_741 (lv_at hl 6 rfl) ?_
    refine lv_iconst (v := (2 : Int32)) C.1.1 C.1.2.1 dL_law_743 (by decide) ?_
    refine lv_iadd C.1.1 C.1.2.1 dL_law_744 ?_
    refine ql_sld C S hX w.1 dL_law_745 ?_
    replace w := w.2
    refine ql_VI (As := [.int (xs9 (xl5 + (1 : Int32)).toNatClampNeg), .int (xs9 (xl5 + (2 : Int32)).toNatClampNeg)]) (rest := []) C S htab hlocks hl qy_X12_uncite qi_X12_uncite qs_X12_uncite gw_1824 (ci := 13) rfl w (fun b w => qm_X12_uncite l hl9 D _ b (xs9 (xl5 + (1 : Int32)).toNatClampNeg) (xs9 (xl5 + (2 : Int32)).toNatClampNeg) _ _ w) rfl ⟨Nat.le_of_ble_eq_true rfl, Nat.le_of_ble_eq_true rfl⟩ ⟨rfl, rfl⟩ (by exact Nat.le_of_ble_eq_true rfl) (fun b e9 => by cases e9; rfl) dL_law_746 ⟨(by show _ ≤ (603072 : Nat); omega), (by show _ ≤ (7190633 : Nat); omega)⟩ ⟨(by show _ ≤ (603072 : Nat); omega), (by show _ ≤ (7190633 : Nat); omega)⟩ (fun x38 h H locs S w => ?_)
    refine W.cs (cells' := (1033 + (513 - (n + 1)) * 21)) (slots' := (15206 + (513 - (n + 1)) * 5126)) (by omega) (by omega) ?_
    refine lv_istore (lv' := [(7, .int x38), (6, .int x37), (0, .ref a0), (1, va_rf rl1), (2, va_rf rl2), (3, va_rf rl3), (4, va_rf rl4), (5, .int xl5)]) C.1.1 C.1.2.1 dL_law_749 hl (by decide) rfl (fun ls hl => ?_)
    refine ql_aload_n (r := rl2) C dL_law_751 rfl (lv_at hl 4 rfl) ?_
    refine ql_VI (As := []) (rest := []) C S htab hlocks hl qy_X12_thrown qi_X12_thrown qs_X12_thrown gw_1727 (ci := 13) rfl w (fun b w => qm_X12_thrown l hl9 D _ b _ _ w) rfl ⟨Nat.le_of_ble_eq_true rfl, Nat.le_of_ble_eq_true rfl⟩ ⟨rfl, rfl⟩ (by exact Nat.le_of_ble_eq_true rfl) (fun b e9 => by cases e9; rfl) dL_law_752 ⟨(by show _ ≤ (603072 : Nat); omega), (by show _ ≤ (7190633 : Nat); omega)⟩ ⟨(by show _ ≤ (603072 : Nat); omega), (by show _ ≤ (7190633 : Nat); omega)⟩ (fun x40 h H locs S w => ?_)
    refine W.cs (cells' := (1033 + (513 - (n + 1)) * 21)) (slots' := (15206 + (513 - (n + 1)) * 5126)) (by omega) (by omega) ?_
    refine lv_iload C.1.1 C.1.2.1 dL_law_755 (lv_at hl 1 rfl) ?_
    refine lv_icmp_eq (tgt := 762) C.1.1 C.1.2.1 dL_law_757 (by decide) (fun c9 => ?_) (fun c9 => ?_)
    · replace w := ql_if w c9
      refine lv_iload C.1.1 C.1.2.1 dL_law_762 (lv_at hl 1 rfl) ?_
      refine lv_if_ne (tgt := 779) C.1.1 C.1.2.1 dL_law_764 (by decide) (fun c9 => ?_) (fun c9 => ?_)
      · replace w := ql_ifn w c9
        exact hB779 n hn9 k28 hk28 rl1 rl2 rl3 rl4 xl5 _ _ _ _ S (lv_sub hl [2, 3, 4, 5, 6, 7] rfl) w
      · replace w := ql_if w c9
        refine ql_aload_n (r := rl3) C dL_law_767 rfl (lv_at hl 5 rfl) ?_
        refine lv_iconst (v := (0 : Int32)) C.1.1 C.1.2.1 dL_law_768 (by decide) ?_
        refine ql_lald C S dL_law_769 w (fun j42 w => ?_)
        refine lv_iload C.1.1 C.1.2.1 dL_law_770 (lv_at hl 0 rfl) ?_
        refine lv_i2l C.1.1 C.1.2.1 dL_law_772 rfl ?_
        refine W.lcmp C.1.1 C.1.2.1 dL_law_773 ?_
        refine lv_if_eq (tgt := 779) C.1.1 C.1.2.1 dL_law_774 (by decide) (fun c9 => ?_) (fun c9 => ?_)
        · replace w := ql_if w c9
          exact hB779 n hn9 k28 hk28 rl1 rl2 rl3 rl4 xl5 _ _ _ _ S (lv_sub hl [2, 3, 4, 5, 6, 7] rfl) w
        · replace w := ql_ifn w c9
          refine lv_iconst (v := (0 : Int32)) C.1.1 C.1.2.1 dL_law_777 (by decide) ?_
          exact ql_zret C S hr hlocks dL_law_778 ⟨(by show _ ≤ (603072 : Nat); omega), (by show _ ≤ (7190633 : Nat); omega)⟩ w
    · replace w := ql_ifn w c9
      refine lv_iconst (v := (0 : Int32)) C.1.1 C.1.2.1 dL_law_760 (by decide) ?_
      exact ql_zret C S hr hlocks dL_law_761 ⟨(by show _ ≤ (603072 : Nat); omega), (by show _ ≤ (7190633 : Nat); omega)⟩ w
  have hB835 : ∀ n : Nat, n + 1 ≤ 513 → ∀ (k28 : Option Nat → Option Nat → Option Nat → Option Nat → Int32 → ql_H → Prop) (hk28 : ∀ (rl1 : Option Nat) (rl2 : Option Nat) (rl3 : Option Nat) (rl4 : Option Nat) (xl5 : Int32) (h : ql_H) (H : Heap) (locs : List Loc) (ls : Array Slot), ql_S D h0 s H locs h → lv_has ls 9 [(0, .ref a0), (1, va_rf rl1), (2, va_rf rl2), (3, va_rf rl3), (4, va_rf rl4), (5, .int xl5)] → k28 rl1 rl2 rl3 rl4 xl5 h → W p l e ({ frames := 2048, cells := 603072, slots := 7190633, locals := 94400 } : Room) s m ([.ref a0] : List Value).toArray below meth c H locs (1032 + (513 - n) * 21) (15200 + (513 - n) * 5126) (vx_MQ below (ql_Q D h0 (ql_rI Q)) (ql_X D h0 X) ([.ref a0] : List Value).toArray s 603072 7190633 (ql_A h0)) (F0 m 28 ls [])) , ∀ (rl1 : Option Nat) (rl2 : Option Nat) (rl3 : Option Nat) (rl4 : Option Nat) (xl5 : Int32) (h : ql_H) (H : Heap) (locs : List Loc) (ls : Array Slot), ql_S D h0 s H locs h → lv_has ls 9 [(0, .ref a0), (1, va_rf rl1), (2, va_rf rl2), (3, va_rf rl3), (4, va_rf rl4), (5, .int xl5)] → qw_L_law_835 D.2 L9 xs9 a0 Q X k28 rl1 rl2 rl3 rl4 xl5 h → W p l e ({ frames := 2048, cells := 603072, slots := 7190633, locals := 94400 } : Room) s m ([.ref a0] : List Value).toArray below meth c H locs (1033 + (513 - (n + 1)) * 21) (15206 + (513 - (n + 1)) * 5126) (vx_MQ below (ql_Q D h0 (ql_rI Q)) (ql_X D h0 X) ([.ref a0] : List Value).toArray s 603072 7190633 (ql_A h0)) (F0 m 835 ls []) := by
    intro n hn9 k28 hk28 rl1 rl2 rl3 rl4 xl5 h H locs ls S hl w
    unfold qw_L_law_835 at w
    refine lv_goto (tgt := 2957) C.1.1 C.1.2.1 dL_law_835 (by decide) ?_
    refine W.cs (cells' := (1053 + (513 - (n + 1)) * 21)) (slots' := (20326 + (513 - (n + 1)) * 5126)) (by omega) (by omega) ?_
    exact hB2957 n hn9 k28 hk28 rl1 rl2 rl3 rl4 xl5 _ _ _ _ S (lv_sub hl [0, 1, 2, 3, 4, 5] rfl) w
  have hB782 : ∀ n : Nat, n + 1 ≤ 513 → ∀ (k28 : Option Nat → Option Nat → Option Nat → Option Nat → Int32 → ql_H → Prop) (hk28 : ∀ (rl1 : Option Nat) (rl2 : Option Nat) (rl3 : Option Nat) (rl4 : Option Nat) (xl5 : Int32) (h : ql_H) (H : Heap) (locs : List Loc) (ls : Array Slot), ql_S D h0 s H locs h → lv_has ls 9 [(0, .ref a0), (1, va_rf rl1), (2, va_rf rl2), (3, va_rf rl3), (4, va_rf rl4), (5, .int xl5)] → k28 rl1 rl2 rl3 rl4 xl5 h → W p l e ({ frames := 2048, cells := 603072, slots := 7190633, locals := 94400 } : Room) s m ([.ref a0] : List Value).toArray below meth c H locs (1032 + (513 - n) * 21) (15200 + (513 - n) * 5126) (vx_MQ below (ql_Q D h0 (ql_rI Q)) (ql_X D h0 X) ([.ref a0] : List Value).toArray s 603072 7190633 (ql_A h0)) (F0 m 28 ls [])) , ∀ (rl1 : Option Nat) (rl2 : Option Nat) (rl3 : Option Nat) (rl4 : Option Nat) (xl5 : Int32) (h : ql_H) (H : Heap) (locs : List Loc) (ls : Array Slot), ql_S D h0 s H locs h → lv_has ls 9 [(0, .ref a0), (1, va_rf rl1), (2, va_rf rl2), (3, va_rf rl3), (4, va_rf rl4), (5, .int xl5)] → qw_L_law_782 D.2 L9 xs9 a0 Q X k28 rl1 rl2 rl3 rl4 xl5 h → W p l e ({ frames := 2048, cells := 603072, slots := 7190633, locals := 94400 } : Room) s m ([.ref a0] : List Value).toArray below meth c H locs (1032 + (513 - (n + 1)) * 21) (15200 + (513 - (n + 1)) * 5126) (vx_MQ below (ql_Q D h0 (ql_rI Q)) (ql_X D h0 X) ([.ref a0] : List Value).toArray s 603072 7190633 (ql_A h0)) (F0 m 782 ls []) := by
    intro n hn9 k28 hk28 rl1 rl2 rl3 rl4 xl5 h H locs ls S hl w
    unfold qw_L_law_782 at w
    refine ql_aload_n (r := rl1) C dL_law_782 rfl (lv_at hl 1 rfl) ?_
    refine ql_aload_n (r := (some a0)) C dL_law_783 rfl (lv_at hl 0 rfl) ?_
    refine lv_iload C.1.1 C.1.2.1 dL_law_784 (lv_at hl 5 rfl) ?_
    refine lv_iconst (v := (1 : Int32)) C.1.1 C.1.2.1 dL_law_786 (by decide) ?_
    refine lv_iadd C.1.1 C.1.2.1 dL_law_787 ?_
    refine ql_sld C S hX w.1 dL_law_788 ?_
    replace w := w.2
    refine ql_aload_n (r := rl3) C dL_law_789 rfl (lv_at hl 3 rfl) ?_
    refine ql_SHI (As := [va_rf rl1, .int (xs9 (xl5 + (1 : Int32)).toNatClampNeg), va_rf rl3]) (rest := []) C S hl qyh_L_repeal gw_942 (qm_L_repeal l hl9 D _ rl1 (xs9 (xl5 + (1 : Int32)).toNatClampNeg) rl3 _ _ w) rfl ⟨Nat.le_of_ble_eq_true rfl, Nat.le_of_ble_eq_true rfl⟩ ⟨rfl, rfl⟩ (by exact Nat.le_of_ble_eq_true rfl) rfl dL_law_790 ⟨(by show _ ≤ (603072 : Nat); omega), (by show _ ≤ (7190633 : Nat); omega)⟩ (fun x43 h H locs S w => ?_)
    refine W.cs (cells' := (1033 + (513 - (n + 1)) * 21)) (slots' := (15206 + (513 - (n + 1)) * 5126)) (by omega) (by omega) ?_
    refine lv_istore (lv' := [(6, .int x43), (0, .ref a0), (1, va_rf rl1), (2, va_rf rl2), (3, va_rf rl3), (4, va_rf rl4), (5, .int xl5)]) C.1.1 C.1.2.1 dL_law_793 hl (by decide) rfl (fun ls hl => ?_)
    refine ql_aload_n (r := rl2) C dL_law_795 rfl (lv_at hl 3 rfl) ?_
    refine ql_aload_n (r := (some a0)) C dL_law_796 rfl (lv_at hl 1 rfl) ?_
    refine lv_iload C.1.1 C.1.2.1 dL_law_797 (lv_at hl 6 rfl) ?_
    refine lv_iconst (v := (1 : Int32)) C.1.1 C.1.2.1 dL_law_799 (by decide) ?_
    refine lv_iadd C.1.1 C.1.2.1 dL_law_800 ?_
    refine ql_sld C S hX w.1 dL_law_801 ?_
    replace w := w.2
    refine ql_VI (As := [.int (xs9 (xl5 + (1 : Int32)).toNatClampNeg)]) (rest := []) C S htab hlocks hl qy_X12_repeal qi_X12_repeal qs_X12_repeal gw_1832 (ci := 13) rfl w (fun b w => qm_X12_repeal l hl9 D _ b (xs9 (xl5 + (1 : Int32)).toNatClampNeg) _ _ w) rfl ⟨Nat.le_of_ble_eq_true rfl, Nat.le_of_ble_eq_true rfl⟩ ⟨rfl, rfl⟩ (by exact Nat.le_of_ble_eq_true rfl) (fun b e9 => by cases e9; rfl) dL_law_802 ⟨(by show _ ≤ (603072 : Nat); omega), (by show _ ≤ (7190633 : Nat); omega)⟩ ⟨(by show _ ≤ (603072 : Nat); omega), (by show _ ≤ (7190633 : Nat); omega)⟩ (fun x44 h H locs S w => ?_)
    refine W.cs (cells' := (1033 + (513 - (n + 1)) * 21)) (slots' := (15206 + (513 - (n + 1)) * 5126)) (by omega) (by omega) ?_
    refine lv_istore (lv' := [(7, .int x44), (6, .int x43), (0, .ref a0), (1, va_rf rl1), (2, va_rf rl2), (3, va_rf rl3), (4, va_rf rl4), (5, .int xl5)]) C.1.1 C.1.2.1 dL_law_805 hl (by decide) rfl (fun ls hl => ?_)
    refine ql_aload_n (r := rl2) C dL_law_807 rfl (lv_at hl 4 rfl) ?_
    refine ql_VI (As := []) (rest := []) C S htab hlocks hl qy_X12_thrown qi_X12_thrown qs_X12_thrown gw_1727 (ci := 13) rfl w (fun b w => qm_X12_thrown l hl9 D _ b _ _ w) rfl ⟨Nat.le_of_ble_eq_true rfl, Nat.le_of_ble_eq_true rfl⟩ ⟨rfl, rfl⟩ (by exact Nat.le_of_ble_eq_true rfl) (fun b e9 => by cases e9; rfl) dL_law_808 ⟨(by show _ ≤ (603072 : Nat); omega), (by show _ ≤ (7190633 : Nat); omega)⟩ ⟨(by show _ ≤ (603072 : Nat); omega), (by show _ ≤ (7190633 : Nat); omega)⟩ (fun x46 h H locs S w => ?_)
    refine W.cs (cells' := (1033 + (513 - (n + 1)) * 21)) (slots' := (15206 + (513 - (n + 1)) * 5126)) (by omega) (by omega) ?_
    refine lv_iload C.1.1 C.1.2.1 dL_law_811 (lv_at hl 1 rfl) ?_
    refine lv_icmp_eq (tgt := 818) C.1.1 C.1.2.1 dL_law_813 (by decide) (fun c9 => ?_) (fun c9 => ?_)
    · replace w := ql_if w c9
      refine lv_iload C.1.1 C.1.2.1 dL_law_818 (lv_at hl 1 rfl) ?_
      refine lv_if_ne (tgt := 835) C.1.1 C.1.2.1 dL_law_820 (by decide) (fun c9 => ?_) (fun c9 => ?_)
      · replace w := ql_ifn w c9
        exact hB835 n hn9 k28 hk28 rl1 rl2 rl3 rl4 xl5 _ _ _ _ S (lv_sub hl [2, 3, 4, 5, 6, 7] rfl) w
      · replace w := ql_if w c9
        refine ql_aload_n (r := rl3) C dL_law_823 rfl (lv_at hl 5 rfl) ?_
        refine lv_iconst (v := (0 : Int32)) C.1.1 C.1.2.1 dL_law_824 (by decide) ?_
        refine ql_lald C S dL_law_825 w (fun j48 w => ?_)
        refine lv_iload C.1.1 C.1.2.1 dL_law_826 (lv_at hl 0 rfl) ?_
        refine lv_i2l C.1.1 C.1.2.1 dL_law_828 rfl ?_
        refine W.lcmp C.1.1 C.1.2.1 dL_law_829 ?_
        refine lv_if_eq (tgt := 835) C.1.1 C.1.2.1 dL_law_830 (by decide) (fun c9 => ?_) (fun c9 => ?_)
        · replace w := ql_if w c9
          exact hB835 n hn9 k28 hk28 rl1 rl2 rl3 rl4 xl5 _ _ _ _ S (lv_sub hl [2, 3, 4, 5, 6, 7] rfl) w
        · replace w := ql_ifn w c9
          refine lv_iconst (v := (0 : Int32)) C.1.1 C.1.2.1 dL_law_833 (by decide) ?_
          exact ql_zret C S hr hlocks dL_law_834 ⟨(by show _ ≤ (603072 : Nat); omega), (by show _ ≤ (7190633 : Nat); omega)⟩ w
    · replace w := ql_ifn w c9
      refine lv_iconst (v := (0 : Int32)) C.1.1 C.1.2.1 dL_law_816 (by decide) ?_
      exact ql_zret C S hr hlocks dL_law_817 ⟨(by show _ ≤ (603072 : Nat); omega), (by show _ ≤ (7190633 : Nat); omega)⟩ w
  have hB838 : ∀ n : Nat, n + 1 ≤ 513 → ∀ (k28 : Option Nat → Option Nat → Option Nat → Option Nat → Int32 → ql_H → Prop) (hk28 : ∀ (rl1 : Option Nat) (rl2 : Option Nat) (rl3 : Option Nat) (rl4 : Option Nat) (xl5 : Int32) (h : ql_H) (H : Heap) (locs : List Loc) (ls : Array Slot), ql_S D h0 s H locs h → lv_has ls 9 [(0, .ref a0), (1, va_rf rl1), (2, va_rf rl2), (3, va_rf rl3), (4, va_rf rl4), (5, .int xl5)] → k28 rl1 rl2 rl3 rl4 xl5 h → W p l e ({ frames := 2048, cells := 603072, slots := 7190633, locals := 94400 } : Room) s m ([.ref a0] : List Value).toArray below meth c H locs (1032 + (513 - n) * 21) (15200 + (513 - n) * 5126) (vx_MQ below (ql_Q D h0 (ql_rI Q)) (ql_X D h0 X) ([.ref a0] : List Value).toArray s 603072 7190633 (ql_A h0)) (F0 m 28 ls [])) , ∀ (rl1 : Option Nat) (rl2 : Option Nat) (rl3 : Option Nat) (rl4 : Option Nat) (xl5 : Int32) (h : ql_H) (H : Heap) (locs : List Loc) (ls : Array Slot), ql_S D h0 s H locs h → lv_has ls 9 [(0, .ref a0), (1, va_rf rl1), (2, va_rf rl2), (3, va_rf rl3), (4, va_rf rl4), (5, .int xl5)] → qw_L_law_838 D.2 L9 xs9 a0 Q X k28 rl1 rl2 rl3 rl4 xl5 h → W p l e ({ frames := 2048, cells := 603072, slots := 7190633, locals := 94400 } : Room) s m ([.ref a0] : List Value).toArray below meth c H locs (1032 + (513 - (n + 1)) * 21) (15200 + (513 - (n + 1)) * 5126) (vx_MQ below (ql_Q D h0 (ql_rI Q)) (ql_X D h0 X) ([.ref a0] : List Value).toArray s 603072 7190633 (ql_A h0)) (F0 m 838 ls []) := by
    intro n hn9 k28 hk28 rl1 rl2 rl3 rl4 xl5 h H locs ls S hl w
    unfold qw_L_law_838 at w
    refine ql_aload_n (r := rl1) C dL_law_838 rfl (lv_at hl 1 rfl) ?_
    refine ql_VI (As := []) (rest := []) C S htab hlocks hl qy_X11_consolidate qi_X11_consolidate qs_X11_consolidate gw_382 (ci := 12) rfl w (fun b w => qm_X11_consolidate l hl9 D _ b _ _ w) rfl ⟨Nat.le_of_ble_eq_true rfl, Nat.le_of_ble_eq_true rfl⟩ ⟨rfl, rfl⟩ (by exact Nat.le_of_ble_eq_true rfl) (fun b e9 => by cases e9; rfl) dL_law_839 ⟨(by show _ ≤ (603072 : Nat); omega), (by show _ ≤ (7190633 : Nat); omega)⟩ ⟨(by show _ ≤ (603072 : Nat); omega), (by show _ ≤ (7190633 : Nat); omega)⟩ (fun x49 h H locs S w => ?_)
    refine W.cs (cells' := (1033 + (513 - (n + 1)) * 21)) (slots' := (15206 + (513 - (n + 1)) * 5126)) (by omega) (by omega) ?_
    refine ql_aload_n (r := rl2) C dL_law_842 rfl (lv_at hl 2 rfl) ?_
    refine ql_VI (As := []) (rest := [.int x49]) C S htab hlocks hl qy_X12_consolidate qi_X12_consolidate qs_X12_consolidate gw_1840 (ci := 13) rfl w (fun b w => qm_X12_consolidate l hl9 D _ b _ _ w) rfl ⟨Nat.le_of_ble_eq_true rfl, Nat.le_of_ble_eq_true rfl⟩ ⟨rfl, rfl⟩ (by exact Nat.le_of_ble_eq_true rfl) (fun b e9 => by cases e9; rfl) dL_law_843 ⟨(by show _ ≤ (603072 : Nat); omega), (by show _ ≤ (7190633 : Nat); omega)⟩ ⟨(by show _ ≤ (603072 : Nat); omega), (by show _ ≤ (7190633 : Nat); omega)⟩ (fun x51 h H locs S w => ?_)
    refine W.cs (cells' := (1033 + (513 - (n + 1)) * 21)) (slots' := (15206 + (513 - (n + 1)) * 5126)) (by omega) (by omega) ?_
    refine lv_icmp_eq (tgt := 2957) C.1.1 C.1.2.1 dL_law_846 (by decide) (fun c9 => ?_) (fun c9 => ?_)
    · replace w := ql_if w c9
      refine W.cs (cells' := (1053 + (513 - (n + 1)) * 21)) (slots' := (20326 + (513 - (n + 1)) * 5126)) (by omega) (by omega) ?_
      exact hB2957 n hn9 k28 hk28 rl1 rl2 rl3 rl4 xl5 _ _ _ _ S (lv_sub hl [0, 1, 2, 3, 4, 5] rfl) w
    · replace w := ql_ifn w c9
      refine lv_iconst (v := (0 : Int32)) C.1.1 C.1.2.1 dL_law_849 (by decide) ?_
      exact ql_zret C S hr hlocks dL_law_850 ⟨(by show _ ≤ (603072 : Nat); omega), (by show _ ≤ (7190633 : Nat); omega)⟩ w
  have hB904 : ∀ n : Nat, n + 1 ≤ 513 → ∀ (k28 : Option Nat → Option Nat → Option Nat → Option Nat → Int32 → ql_H → Prop) (hk28 : ∀ (rl1 : Option Nat) (rl2 : Option Nat) (rl3 : Option Nat) (rl4 : Option Nat) (xl5 : Int32) (h : ql_H) (H : Heap) (locs : List Loc) (ls : Array Slot), ql_S D h0 s H locs h → lv_has ls 9 [(0, .ref a0), (1, va_rf rl1), (2, va_rf rl2), (3, va_rf rl3), (4, va_rf rl4), (5, .int xl5)] → k28 rl1 rl2 rl3 rl4 xl5 h → W p l e ({ frames := 2048, cells := 603072, slots := 7190633, locals := 94400 } : Room) s m ([.ref a0] : List Value).toArray below meth c H locs (1032 + (513 - n) * 21) (15200 + (513 - n) * 5126) (vx_MQ below (ql_Q D h0 (ql_rI Q)) (ql_X D h0 X) ([.ref a0] : List Value).toArray s 603072 7190633 (ql_A h0)) (F0 m 28 ls [])) , ∀ (rl1 : Option Nat) (rl2 : Option Nat) (rl3 : Option Nat) (rl4 : Option Nat) (xl5 : Int32) (h : ql_H) (H : Heap) (locs : List Loc) (ls : Array Slot), ql_S D h0 s H locs h → lv_has ls 9 [(0, .ref a0), (1, va_rf rl1), (2, va_rf rl2), (3, va_rf rl3), (4, va_rf rl4), (5, .int xl5)] → qw_L_law_904 D.2 L9 xs9 a0 Q X k28 rl1 rl2 rl3 rl4 xl5 h → W p l e ({ frames := 2048, cells := 603072, slots := 7190633, locals := 94400 } : Room) s m ([.ref a0] : List Value).toArray below meth c H locs (1033 + (513 - (n + 1)) * 21) (15206 + (513 - (n + 1)) * 5126) (vx_MQ below (ql_Q D h0 (ql_rI Q)) (ql_X D h0 X) ([.ref a0] : List Value).toArray s 603072 7190633 (ql_A h0)) (F0 m 904 ls []) := by
    intro n hn9 k28 hk28 rl1 rl2 rl3 rl4 xl5 h H locs ls S hl w
    unfold qw_L_law_904 at w
    refine lv_goto (tgt := 2957) C.1.1 C.1.2.1 dL_law_904 (by decide) ?_
    refine W.cs (cells' := (1053 + (513 - (n + 1)) * 21)) (slots' := (20326 + (513 - (n + 1)) * 5126)) (by omega) (by omega) ?_
    exact hB2957 n hn9 k28 hk28 rl1 rl2 rl3 rl4 xl5 _ _ _ _ S (lv_sub hl [0, 1, 2, 3, 4, 5] rfl) w
  have hB851 : ∀ n : Nat, n + 1 ≤ 513 → ∀ (k28 : Option Nat → Option Nat → Option Nat → Option Nat → Int32 → ql_H → Prop) (hk28 : ∀ (rl1 : Option Nat) (rl2 : Option Nat) (rl3 : Option Nat) (rl4 : Option Nat) (xl5 : Int32) (h : ql_H) (H : Heap) (locs : List Loc) (ls : Array Slot), ql_S D h0 s H locs h → lv_has ls 9 [(0, .ref a0), (1, va_rf rl1), (2, va_rf rl2), (3, va_rf rl3), (4, va_rf rl4), (5, .int xl5)] → k28 rl1 rl2 rl3 rl4 xl5 h → W p l e ({ frames := 2048, cells := 603072, slots := 7190633, locals := 94400 } : Room) s m ([.ref a0] : List Value).toArray below meth c H locs (1032 + (513 - n) * 21) (15200 + (513 - n) * 5126) (vx_MQ below (ql_Q D h0 (ql_rI Q)) (ql_X D h0 X) ([.ref a0] : List Value).toArray s 603072 7190633 (ql_A h0)) (F0 m 28 ls [])) , ∀ (rl1 : Option Nat) (rl2 : Option Nat) (rl3 : Option Nat) (rl4 : Option Nat) (xl5 : Int32) (h : ql_H) (H : Heap) (locs : List Loc) (ls : Array Slot), ql_S D h0 s H locs h → lv_has ls 9 [(0, .ref a0), (1, va_rf rl1), (2, va_rf rl2), (3, va_rf rl3), (4, va_rf rl4), (5, .int xl5)] → qw_L_law_851 D.2 L9 xs9 a0 Q X k28 rl1 rl2 rl3 rl4 xl5 h → W p l e ({ frames := 2048, cells := 603072, slots := 7190633, locals := 94400 } : Room) s m ([.ref a0] : List Value).toArray below meth c H locs (1032 + (513 - (n + 1)) * 21) (15200 + (513 - (n + 1)) * 5126) (vx_MQ below (ql_Q D h0 (ql_rI Q)) (ql_X D h0 X) ([.ref a0] : List Value).toArray s 603072 7190633 (ql_A h0)) (F0 m 851 ls []) := by
    intro n hn9 k28 hk28 rl1 rl2 rl3 rl4 xl5 h H locs ls S hl w
    unfold qw_L_law_851 at w
    refine ql_aload_n (r := rl1) C dL_law_851 rfl (lv_at hl 1 rfl) ?_
    refine ql_aload_n (r := (some a0)) C dL_law_852 rfl (lv_at hl 0 rfl) ?_
    refine lv_iload C.1.1 C.1.2.1 dL_law_853 (lv_at hl 5 rfl) ?_
    refine lv_iconst (v := (1 : Int32)) C.1.1 C.1.2.1 dL_law_855 (by decide) ?_
    refine lv_iadd C.1.1 C.1.2.1 dL_law_856 ?_
    refine ql_sld C S hX w.1 dL_law_857 ?_
    replace w := w.2
    refine ql_aload_n (r := rl3) C dL_law_858 rfl (lv_at hl 3 rfl) ?_
    refine ql_SHI (As := [va_rf rl1, .int (xs9 (xl5 + (1 : Int32)).toNatClampNeg), va_rf rl3]) (rest := []) C S hl qyh_L_advance gw_954 (qm_L_advance l hl9 D _ rl1 (xs9 (xl5 + (1 : Int32)).toNatClampNeg) rl3 _ _ w) rfl ⟨Nat.le_of_ble_eq_true rfl, Nat.le_of_ble_eq_true rfl⟩ ⟨rfl, rfl⟩ (by exact Nat.le_of_ble_eq_true rfl) rfl dL_law_859 ⟨(by show _ ≤ (603072 : Nat); omega), (by show _ ≤ (7190633 : Nat); omega)⟩ (fun x53 h H locs S w => ?_)
    refine W.cs (cells' := (1033 + (513 - (n + 1)) * 21)) (slots' := (15206 + (513 - (n + 1)) * 5126)) (by omega) (by omega) ?_
    refine lv_istore (lv' := [(6, .int x53), (0, .ref a0), (1, va_rf rl1), (2, va_rf rl2), (3, va_rf rl3), (4, va_rf rl4), (5, .int xl5)]) C.1.1 C.1.2.1 dL_law_862 hl (by decide) rfl (fun ls hl => ?_)
    refine ql_aload_n (r := rl2) C dL_law_864 rfl (lv_at hl 3 rfl) ?_
    refine ql_aload_n (r := (some a0)) C dL_law_865 rfl (lv_at hl 1 rfl) ?_
    refine lv_iload C.1.1 C.1.2.1 dL_law_866 (lv_at hl 6 rfl) ?_
    refine lv_iconst (v := (1 : Int32)) C.1.1 C.1.2.1 dL_law_868 (by decide) ?_
    refine lv_iadd C.1.1 C.1.2.1 dL_law_869 ?_
    refine ql_sld C S hX w.1 dL_law_870 ?_
    replace w := w.2
    refine ql_VI (As := [.int (xs9 (xl5 + (1 : Int32)).toNatClampNeg)]) (rest := []) C S htab hlocks hl qy_X12_advance qi_X12_advance qs_X12_advance gw_1848 (ci := 13) rfl w (fun b w => qm_X12_advance l hl9 D _ b (xs9 (xl5 + (1 : Int32)).toNatClampNeg) _ _ w) rfl ⟨Nat.le_of_ble_eq_true rfl, Nat.le_of_ble_eq_true rfl⟩ ⟨rfl, rfl⟩ (by exact Nat.le_of_ble_eq_true rfl) (fun b e9 => by cases e9; rfl) dL_law_871 ⟨(by show _ ≤ (603072 : Nat); omega), (by show _ ≤ (7190633 : Nat); omega)⟩ ⟨(by show _ ≤ (603072 : Nat); omega), (by show _ ≤ (7190633 : Nat); omega)⟩ (fun x54 h H locs S w => ?_)
    refine W.cs (cells' := (1033 + (513 - (n + 1)) * 21)) (slots' := (15206 + (513 - (n + 1)) * 5126)) (by omega) (by omega) ?_
    refine lv_istore (lv' := [(7, .int x54), (6, .int x53), (0, .ref a0), (1, va_rf rl1), (2, va_rf rl2), (3, va_rf rl3), (4, va_rf rl4), (5, .int xl5)]) C.1.1 C.1.2.1 dL_law_874 hl (by decide) rfl (fun ls hl => ?_)
    refine ql_aload_n (r := rl2) C dL_law_876 rfl (lv_at hl 4 rfl) ?_
    refine ql_VI (As := []) (rest := []) C S htab hlocks hl qy_X12_thrown qi_X12_thrown qs_X12_thrown gw_1727 (ci := 13) rfl w (fun b w => qm_X12_thrown l hl9 D _ b _ _ w) rfl ⟨Nat.le_of_ble_eq_true rfl, Nat.le_of_ble_eq_true rfl⟩ ⟨rfl, rfl⟩ (by exact Nat.le_of_ble_eq_true rfl) (fun b e9 => by cases e9; rfl) dL_law_877 ⟨(by show _ ≤ (603072 : Nat); omega), (by show _ ≤ (7190633 : Nat); omega)⟩ ⟨(by show _ ≤ (603072 : Nat); omega), (by show _ ≤ (7190633 : Nat); omega)⟩ (fun x56 h H locs S w => ?_)
    refine W.cs (cells' := (1033 + (513 - (n + 1)) * 21)) (slots' := (15206 + (513 - (n + 1)) * 5126)) (by omega) (by omega) ?_
    refine lv_iload C.1.1 C.1.2.1 dL_law_880 (lv_at hl 1 rfl) ?_
    refine lv_icmp_eq (tgt := 887) C.1.1 C.1.2.1 dL_law_882 (by decide) (fun c9 => ?_) (fun c9 => ?_)
    · replace w := ql_if w c9
      refine lv_iload C.1.1 C.1.2.1 dL_law_887 (lv_at hl 1 rfl) ?_
      refine lv_if_ne (tgt := 904) C.1.1 C.1.2.1 dL_law_889 (by decide) (fun c9 => ?_) (fun c9 => ?_)
      · replace w := ql_ifn w c9
        exact hB904 n hn9 k28 hk28 rl1 rl2 rl3 rl4 xl5 _ _ _ _ S (lv_sub hl [2, 3, 4, 5, 6, 7] rfl) w
      · replace w := ql_if w c9
        refine ql_aload_n (r := rl3) C dL_law_892 rfl (lv_at hl 5 rfl) ?_
        refine lv_iconst (v := (0 : Int32)) C.1.1 C.1.2.1 dL_law_893 (by decide) ?_
        refine ql_lald C S dL_law_894 w (fun j58 w => ?_)
        refine lv_iload C.1.1 C.1.2.1 dL_law_895 (lv_at hl 0 rfl) ?_
        refine lv_i2l C.1.1 C.1.2.1 dL_law_897 rfl ?_
        refine W.lcmp C.1.1 C.1.2.1 dL_law_898 ?_
        refine lv_if_eq (tgt := 904) C.1.1 C.1.2.1 dL_law_899 (by decide) (fun c9 => ?_) (fun c9 => ?_)
        · replace w := ql_if w c9
          exact hB904 n hn9 k28 hk28 rl1 rl2 rl3 rl4 xl5 _ _ _ _ S (lv_sub hl [2, 3, 4, 5, 6, 7] rfl) w
        · replace w := ql_ifn w c9
          refine lv_iconst (v := (0 : Int32)) C.1.1 C.1.2.1 dL_law_902 (by decide) ?_
          exact ql_zret C S hr hlocks dL_law_903 ⟨(by show _ ≤ (603072 : Nat); omega), (by show _ ≤ (7190633 : Nat); omega)⟩ w
    · replace w := ql_ifn w c9
      refine lv_iconst (v := (0 : Int32)) C.1.1 C.1.2.1 dL_law_885 (by decide) ?_
      exact ql_zret C S hr hlocks dL_law_886 ⟨(by show _ ≤ (603072 : Nat); omega), (by show _ ≤ (7190633 : Nat); omega)⟩ w
  have hB907 : ∀ n : Nat, n + 1 ≤ 513 → ∀ (k28 : Option Nat → Option Nat → Option Nat → Option Nat → Int32 → ql_H → Prop) (hk28 : ∀ (rl1 : Option Nat) (rl2 : Option Nat) (rl3 : Option Nat) (rl4 : Option Nat) (xl5 : Int32) (h : ql_H) (H : Heap) (locs : List Loc) (ls : Array Slot), ql_S D h0 s H locs h → lv_has ls 9 [(0, .ref a0), (1, va_rf rl1), (2, va_rf rl2), (3, va_rf rl3), (4, va_rf rl4), (5, .int xl5)] → k28 rl1 rl2 rl3 rl4 xl5 h → W p l e ({ frames := 2048, cells := 603072, slots := 7190633, locals := 94400 } : Room) s m ([.ref a0] : List Value).toArray below meth c H locs (1032 + (513 - n) * 21) (15200 + (513 - n) * 5126) (vx_MQ below (ql_Q D h0 (ql_rI Q)) (ql_X D h0 X) ([.ref a0] : List Value).toArray s 603072 7190633 (ql_A h0)) (F0 m 28 ls [])) , ∀ (rl1 : Option Nat) (rl2 : Option Nat) (rl3 : Option Nat) (rl4 : Option Nat) (xl5 : Int32) (h : ql_H) (H : Heap) (locs : List Loc) (ls : Array Slot), ql_S D h0 s H locs h → lv_has ls 9 [(0, .ref a0), (1, va_rf rl1), (2, va_rf rl2), (3, va_rf rl3), (4, va_rf rl4), (5, .int xl5)] → qw_L_law_907 D.2 L9 xs9 a0 Q X k28 rl1 rl2 rl3 rl4 xl5 h → W p l e ({ frames := 2048, cells := 603072, slots := 7190633, locals := 94400 } : Room) s m ([.ref a0] : List Value).toArray below meth c H locs (1032 + (513 - (n + 1)) * 21) (15200 + (513 - (n + 1)) * 5126) (vx_MQ below (ql_Q D h0 (ql_rI Q)) (ql_X D h0 X) ([.ref a0] : List Value).toArray s 603072 7190633 (ql_A h0)) (F0 m 907 ls []) := by
    intro n hn9 k28 hk28 rl1 rl2 rl3 rl4 xl5 h H locs ls S hl w
    unfold qw_L_law_907 at w
    refine ql_aload_n (r := rl1) C dL_law_907 rfl (lv_at hl 1 rfl) ?_
    refine ql_VI (As := []) (rest := []) C S htab hlocks hl qy_X11_day qi_X11_day qs_X11_day gw_625 (ci := 12) rfl w (fun b w => qm_X11_day l hl9 D _ b _ _ w) rfl ⟨Nat.le_of_ble_eq_true rfl, Nat.le_of_ble_eq_true rfl⟩ ⟨rfl, rfl⟩ (by exact Nat.le_of_ble_eq_true rfl) (fun b e9 => by cases e9; rfl) dL_law_908 ⟨(by show _ ≤ (603072 : Nat); omega), (by show _ ≤ (7190633 : Nat); omega)⟩ ⟨(by show _ ≤ (603072 : Nat); omega), (by show _ ≤ (7190633 : Nat); omega)⟩ (fun x59 h H locs S w => ?_)
    refine W.cs (cells' := (1032 + (513 - (n + 1)) * 21)) (slots' := (15200 + (513 - (n + 1)) * 5126)) (by omega) (by omega) ?_
    refine ql_aload_n (r := rl2) C dL_law_911 rfl (lv_at hl 2 rfl) ?_
    refine ql_VI (As := []) (rest := [.int x59]) C S htab hlocks hl qy_X12_day qi_X12_day qs_X12_day gw_1852 (ci := 13) rfl w (fun b w => qm_X12_day l hl9 D _ b _ _ w) rfl ⟨Nat.le_of_ble_eq_true rfl, Nat.le_of_ble_eq_true rfl⟩ ⟨rfl, rfl⟩ (by exact Nat.le_of_ble_eq_true rfl) (fun b e9 => by cases e9; rfl) dL_law_912 ⟨(by show _ ≤ (603072 : Nat); omega), (by show _ ≤ (7190633 : Nat); omega)⟩ ⟨(by show _ ≤ (603072 : Nat); omega), (by show _ ≤ (7190633 : Nat); omega)⟩ (fun x61 h H locs S w => ?_)
    refine W.cs (cells' := (1032 + (513 - (n + 1)) * 21)) (slots' := (15200 + (513 - (n + 1)) * 5126)) (by omega) (by omega) ?_
    refine lv_icmp_eq (tgt := 2957) C.1.1 C.1.2.1 dL_law_915 (by decide) (fun c9 => ?_) (fun c9 => ?_)
    · replace w := ql_if w c9
      refine W.cs (cells' := (1053 + (513 - (n + 1)) * 21)) (slots' := (20326 + (513 - (n + 1)) * 5126)) (by omega) (by omega) ?_
      exact hB2957 n hn9 k28 hk28 rl1 rl2 rl3 rl4 xl5 _ _ _ _ S (lv_sub hl [0, 1, 2, 3, 4, 5] rfl) w
    · replace w := ql_ifn w c9
      refine lv_iconst (v := (0 : Int32)) C.1.1 C.1.2.1 dL_law_918 (by decide) ?_
      exact ql_zret C S hr hlocks dL_law_919 ⟨(by show _ ≤ (603072 : Nat); omega), (by show _ ≤ (7190633 : Nat); omega)⟩ w
  have hB920 : ∀ n : Nat, n + 1 ≤ 513 → ∀ (k28 : Option Nat → Option Nat → Option Nat → Option Nat → Int32 → ql_H → Prop) (hk28 : ∀ (rl1 : Option Nat) (rl2 : Option Nat) (rl3 : Option Nat) (rl4 : Option Nat) (xl5 : Int32) (h : ql_H) (H : Heap) (locs : List Loc) (ls : Array Slot), ql_S D h0 s H locs h → lv_has ls 9 [(0, .ref a0), (1, va_rf rl1), (2, va_rf rl2), (3, va_rf rl3), (4, va_rf rl4), (5, .int xl5)] → k28 rl1 rl2 rl3 rl4 xl5 h → W p l e ({ frames := 2048, cells := 603072, slots := 7190633, locals := 94400 } : Room) s m ([.ref a0] : List Value).toArray below meth c H locs (1032 + (513 - n) * 21) (15200 + (513 - n) * 5126) (vx_MQ below (ql_Q D h0 (ql_rI Q)) (ql_X D h0 X) ([.ref a0] : List Value).toArray s 603072 7190633 (ql_A h0)) (F0 m 28 ls [])) , ∀ (rl1 : Option Nat) (rl2 : Option Nat) (rl3 : Option Nat) (rl4 : Option Nat) (xl5 : Int32) (h : ql_H) (H : Heap) (locs : List Loc) (ls : Array Slot), ql_S D h0 s H locs h → lv_has ls 9 [(0, .ref a0), (1, va_rf rl1), (2, va_rf rl2), (3, va_rf rl3), (4, va_rf rl4), (5, .int xl5)] → qw_L_law_920 D.2 L9 xs9 a0 Q X k28 rl1 rl2 rl3 rl4 xl5 h → W p l e ({ frames := 2048, cells := 603072, slots := 7190633, locals := 94400 } : Room) s m ([.ref a0] : List Value).toArray below meth c H locs (1032 + (513 - (n + 1)) * 21) (15200 + (513 - (n + 1)) * 5126) (vx_MQ below (ql_Q D h0 (ql_rI Q)) (ql_X D h0 X) ([.ref a0] : List Value).toArray s 603072 7190633 (ql_A h0)) (F0 m 920 ls []) := by
    intro n hn9 k28 hk28 rl1 rl2 rl3 rl4 xl5 h H locs ls S hl w
    unfold qw_L_law_920 at w
    refine ql_aload_n (r := rl1) C dL_law_920 rfl (lv_at hl 1 rfl) ?_
    refine ql_VI (As := []) (rest := []) C S htab hlocks hl qy_X11_clauseCount qi_X11_clauseCount qs_X11_clauseCount gw_629 (ci := 12) rfl w (fun b w => qm_X11_clauseCount l hl9 D _ b _ _ w) rfl ⟨Nat.le_of_ble_eq_true rfl, Nat.le_of_ble_eq_true rfl⟩ ⟨rfl, rfl⟩ (by exact Nat.le_of_ble_eq_true rfl) (fun b e9 => by cases e9; rfl) dL_law_921 ⟨(by show _ ≤ (603072 : Nat); omega), (by show _ ≤ (7190633 : Nat); omega)⟩ ⟨(by show _ ≤ (603072 : Nat); omega), (by show _ ≤ (7190633 : Nat); omega)⟩ (fun x63 h H locs S w => ?_)
    refine W.cs (cells' := (1032 + (513 - (n + 1)) * 21)) (slots' := (15200 + (513 - (n + 1)) * 5126)) (by omega) (by omega) ?_
    refine ql_aload_n (r := rl2) C dL_law_924 rfl (lv_at hl 2 rfl) ?_
    refine ql_VI (As := []) (rest := [.int x63]) C S htab hlocks hl qy_X12_clauseCount qi_X12_clauseCount qs_X12_clauseCount gw_1856 (ci := 13) rfl w (fun b w => qm_X12_clauseCount l hl9 D _ b _ _ w) rfl ⟨Nat.le_of_ble_eq_true rfl, Nat.le_of_ble_eq_true rfl⟩ ⟨rfl, rfl⟩ (by exact Nat.le_of_ble_eq_true rfl) (fun b e9 => by cases e9; rfl) dL_law_925 ⟨(by show _ ≤ (603072 : Nat); omega), (by show _ ≤ (7190633 : Nat); omega)⟩ ⟨(by show _ ≤ (603072 : Nat); omega), (by show _ ≤ (7190633 : Nat); omega)⟩ (fun x65 h H locs S w => ?_)
    refine W.cs (cells' := (1032 + (513 - (n + 1)) * 21)) (slots' := (15200 + (513 - (n + 1)) * 5126)) (by omega) (by omega) ?_
    refine lv_icmp_eq (tgt := 2957) C.1.1 C.1.2.1 dL_law_928 (by decide) (fun c9 => ?_) (fun c9 => ?_)
    · replace w := ql_if w c9
      refine W.cs (cells' := (1053 + (513 - (n + 1)) * 21)) (slots' := (20326 + (513 - (n + 1)) * 5126)) (by omega) (by omega) ?_
      exact hB2957 n hn9 k28 hk28 rl1 rl2 rl3 rl4 xl5 _ _ _ _ S (lv_sub hl [0, 1, 2, 3, 4, 5] rfl) w
    · replace w := ql_ifn w c9
      refine lv_iconst (v := (0 : Int32)) C.1.1 C.1.2.1 dL_law_931 (by decide) ?_
      exact ql_zret C S hr hlocks dL_law_932 ⟨(by show _ ≤ (603072 : Nat); omega), (by show _ ≤ (7190633 : Nat); omega)⟩ w
  have hB986 : ∀ n : Nat, n + 1 ≤ 513 → ∀ (k28 : Option Nat → Option Nat → Option Nat → Option Nat → Int32 → ql_H → Prop) (hk28 : ∀ (rl1 : Option Nat) (rl2 : Option Nat) (rl3 : Option Nat) (rl4 : Option Nat) (xl5 : Int32) (h : ql_H) (H : Heap) (locs : List Loc) (ls : Array Slot), ql_S D h0 s H locs h → lv_has ls 9 [(0, .ref a0), (1, va_rf rl1), (2, va_rf rl2), (3, va_rf rl3), (4, va_rf rl4), (5, .int xl5)] → k28 rl1 rl2 rl3 rl4 xl5 h → W p l e ({ frames := 2048, cells := 603072, slots := 7190633, locals := 94400 } : Room) s m ([.ref a0] : List Value).toArray below meth c H locs (1032 + (513 - n) * 21) (15200 + (513 - n) * 5126) (vx_MQ below (ql_Q D h0 (ql_rI Q)) (ql_X D h0 X) ([.ref a0] : List Value).toArray s 603072 7190633 (ql_A h0)) (F0 m 28 ls [])) , ∀ (rl1 : Option Nat) (rl2 : Option Nat) (rl3 : Option Nat) (rl4 : Option Nat) (xl5 : Int32) (h : ql_H) (H : Heap) (locs : List Loc) (ls : Array Slot), ql_S D h0 s H locs h → lv_has ls 9 [(0, .ref a0), (1, va_rf rl1), (2, va_rf rl2), (3, va_rf rl3), (4, va_rf rl4), (5, .int xl5)] → qw_L_law_986 D.2 L9 xs9 a0 Q X k28 rl1 rl2 rl3 rl4 xl5 h → W p l e ({ frames := 2048, cells := 603072, slots := 7190633, locals := 94400 } : Room) s m ([.ref a0] : List Value).toArray below meth c H locs (1033 + (513 - (n + 1)) * 21) (15206 + (513 - (n + 1)) * 5126) (vx_MQ below (ql_Q D h0 (ql_rI Q)) (ql_X D h0 X) ([.ref a0] : List Value).toArray s 603072 7190633 (ql_A h0)) (F0 m 986 ls []) := by
    intro n hn9 k28 hk28 rl1 rl2 rl3 rl4 xl5 h H locs ls S hl w
    unfold qw_L_law_986 at w
    refine lv_goto (tgt := 2957) C.1.1 C.1.2.1 dL_law_986 (by decide) ?_
    refine W.cs (cells' := (1053 + (513 - (n + 1)) * 21)) (slots' := (20326 + (513 - (n + 1)) * 5126)) (by omega) (by omega) ?_
    exact hB2957 n hn9 k28 hk28 rl1 rl2 rl3 rl4 xl5 _ _ _ _ S (lv_sub hl [0, 1, 2, 3, 4, 5] rfl) w
  have hB933 : ∀ n : Nat, n + 1 ≤ 513 → ∀ (k28 : Option Nat → Option Nat → Option Nat → Option Nat → Int32 → ql_H → Prop) (hk28 : ∀ (rl1 : Option Nat) (rl2 : Option Nat) (rl3 : Option Nat) (rl4 : Option Nat) (xl5 : Int32) (h : ql_H) (H : Heap) (locs : List Loc) (ls : Array Slot), ql_S D h0 s H locs h → lv_has ls 9 [(0, .ref a0), (1, va_rf rl1), (2, va_rf rl2), (3, va_rf rl3), (4, va_rf rl4), (5, .int xl5)] → k28 rl1 rl2 rl3 rl4 xl5 h → W p l e ({ frames := 2048, cells := 603072, slots := 7190633, locals := 94400 } : Room) s m ([.ref a0] : List Value).toArray below meth c H locs (1032 + (513 - n) * 21) (15200 + (513 - n) * 5126) (vx_MQ below (ql_Q D h0 (ql_rI Q)) (ql_X D h0 X) ([.ref a0] : List Value).toArray s 603072 7190633 (ql_A h0)) (F0 m 28 ls [])) , ∀ (rl1 : Option Nat) (rl2 : Option Nat) (rl3 : Option Nat) (rl4 : Option Nat) (xl5 : Int32) (h : ql_H) (H : Heap) (locs : List Loc) (ls : Array Slot), ql_S D h0 s H locs h → lv_has ls 9 [(0, .ref a0), (1, va_rf rl1), (2, va_rf rl2), (3, va_rf rl3), (4, va_rf rl4), (5, .int xl5)] → qw_L_law_933 D.2 L9 xs9 a0 Q X k28 rl1 rl2 rl3 rl4 xl5 h → W p l e ({ frames := 2048, cells := 603072, slots := 7190633, locals := 94400 } : Room) s m ([.ref a0] : List Value).toArray below meth c H locs (1032 + (513 - (n + 1)) * 21) (15200 + (513 - (n + 1)) * 5126) (vx_MQ below (ql_Q D h0 (ql_rI Q)) (ql_X D h0 X) ([.ref a0] : List Value).toArray s 603072 7190633 (ql_A h0)) (F0 m 933 ls []) := by
    intro n hn9 k28 hk28 rl1 rl2 rl3 rl4 xl5 h H locs ls S hl w
    unfold qw_L_law_933 at w
    refine ql_aload_n (r := rl1) C dL_law_933 rfl (lv_at hl 1 rfl) ?_
    refine ql_aload_n (r := (some a0)) C dL_law_934 rfl (lv_at hl 0 rfl) ?_
    refine lv_iload C.1.1 C.1.2.1 dL_law_935 (lv_at hl 5 rfl) ?_
    refine lv_iconst (v := (1 : Int32)) C.1.1 C.1.2.1 dL_law_937 (by decide) ?_
    refine lv_iadd C.1.1 C.1.2.1 dL_law_938 ?_
    refine ql_sld C S hX w.1 dL_law_939 ?_
    replace w := w.2
    refine ql_aload_n (r := rl3) C dL_law_940 rfl (lv_at hl 3 rfl) ?_
    refine ql_SHI (As := [va_rf rl1, .int (xs9 (xl5 + (1 : Int32)).toNatClampNeg), va_rf rl3]) (rest := []) C S hl qyh_L_clauseAt gw_969 (qm_L_clauseAt l hl9 D _ rl1 (xs9 (xl5 + (1 : Int32)).toNatClampNeg) rl3 _ _ w) rfl ⟨Nat.le_of_ble_eq_true rfl, Nat.le_of_ble_eq_true rfl⟩ ⟨rfl, rfl⟩ (by exact Nat.le_of_ble_eq_true rfl) rfl dL_law_941 ⟨(by show _ ≤ (603072 : Nat); omega), (by show _ ≤ (7190633 : Nat); omega)⟩ (fun x67 h H locs S w => ?_)
    refine W.cs (cells' := (1033 + (513 - (n + 1)) * 21)) (slots' := (15206 + (513 - (n + 1)) * 5126)) (by omega) (by omega) ?_
    refine lv_istore (lv' := [(6, .int x67), (0, .ref a0), (1, va_rf rl1), (2, va_rf rl2), (3, va_rf rl3), (4, va_rf rl4), (5, .int xl5)]) C.1.1 C.1.2.1 dL_law_944 hl (by decide) rfl (fun ls hl => ?_)
    refine ql_aload_n (r := rl2) C dL_law_946 rfl (lv_at hl 3 rfl) ?_
    refine ql_aload_n (r := (some a0)) C dL_law_947 rfl (lv_at hl 1 rfl) ?_
    refine lv_iload C.1.1 C.1.2.1 dL_law_948 (lv_at hl 6 rfl) ?_
    refine lv_iconst (v := (1 : Int32)) C.1.1 C.1.2.1 dL_law_950 (by decide) ?_
    refine lv_iadd C.1.1 C.1.2.1 dL_law_951 ?_
    refine ql_sld C S hX w.1 dL_law_952 ?_
    replace w := w.2
    refine ql_VI (As := [.int (xs9 (xl5 + (1 : Int32)).toNatClampNeg)]) (rest := []) C S htab hlocks hl qy_X12_clauseAt qi_X12_clauseAt qs_X12_clauseAt gw_1860 (ci := 13) rfl w (fun b w => qm_X12_clauseAt l hl9 D _ b (xs9 (xl5 + (1 : Int32)).toNatClampNeg) _ _ w) rfl ⟨Nat.le_of_ble_eq_true rfl, Nat.le_of_ble_eq_true rfl⟩ ⟨rfl, rfl⟩ (by exact Nat.le_of_ble_eq_true rfl) (fun b e9 => by cases e9; rfl) dL_law_953 ⟨(by show _ ≤ (603072 : Nat); omega), (by show _ ≤ (7190633 : Nat); omega)⟩ ⟨(by show _ ≤ (603072 : Nat); omega), (by show _ ≤ (7190633 : Nat); omega)⟩ (fun x68 h H locs S w => ?_)
    refine W.cs (cells' := (1033 + (513 - (n + 1)) * 21)) (slots' := (15206 + (513 - (n + 1)) * 5126)) (by omega) (by omega) ?_
    refine lv_istore (lv' := [(7, .int x68), (6, .int x67), (0, .ref a0), (1, va_rf rl1), (2, va_rf rl2), (3, va_rf rl3), (4, va_rf rl4), (5, .int xl5)]) C.1.1 C.1.2.1 dL_law_956 hl (by decide) rfl (fun ls hl => ?_)
    refine ql_aload_n (r := rl2) C dL_law_958 rfl (lv_at hl 4 rfl) ?_
    refine ql_VI (As := []) (rest := []) C S htab hlocks hl qy_X12_thrown qi_X12_thrown qs_X12_thrown gw_1727 (ci := 13) rfl w (fun b w => qm_X12_thrown l hl9 D _ b _ _ w) rfl ⟨Nat.le_of_ble_eq_true rfl, Nat.le_of_ble_eq_true rfl⟩ ⟨rfl, rfl⟩ (by exact Nat.le_of_ble_eq_true rfl) (fun b e9 => by cases e9; rfl) dL_law_959 ⟨(by show _ ≤ (603072 : Nat); omega), (by show _ ≤ (7190633 : Nat); omega)⟩ ⟨(by show _ ≤ (603072 : Nat); omega), (by show _ ≤ (7190633 : Nat); omega)⟩ (fun x70 h H locs S w => ?_)
    refine W.cs (cells' := (1033 + (513 - (n + 1)) * 21)) (slots' := (15206 + (513 - (n + 1)) * 5126)) (by omega) (by omega) ?_
    refine lv_iload C.1.1 C.1.2.1 dL_law_962 (lv_at hl 1 rfl) ?_
    refine lv_icmp_eq (tgt := 969) C.1.1 C.1.2.1 dL_law_964 (by decide) (fun c9 => ?_) (fun c9 => ?_)
    · replace w := ql_if w c9
      refine lv_iload C.1.1 C.1.2.1 dL_law_969 (lv_at hl 1 rfl) ?_
      refine lv_if_ne (tgt := 986) C.1.1 C.1.2.1 dL_law_971 (by decide) (fun c9 => ?_) (fun c9 => ?_)
      · replace w := ql_ifn w c9
        exact hB986 n hn9 k28 hk28 rl1 rl2 rl3 rl4 xl5 _ _ _ _ S (lv_sub hl [2, 3, 4, 5, 6, 7] rfl) w
      · replace w := ql_if w c9
        refine ql_aload_n (r := rl3) C dL_law_974 rfl (lv_at hl 5 rfl) ?_
        refine lv_iconst (v := (0 : Int32)) C.1.1 C.1.2.1 dL_law_975 (by decide) ?_
        refine ql_lald C S dL_law_976 w (fun j72 w => ?_)
        refine lv_iload C.1.1 C.1.2.1 dL_law_977 (lv_at hl 0 rfl) ?_
        refine lv_i2l C.1.1 C.1.2.1 dL_law_979 rfl ?_
        refine W.lcmp C.1.1 C.1.2.1 dL_law_980 ?_
        refine lv_if_eq (tgt := 986) C.1.1 C.1.2.1 dL_law_981 (by decide) (fun c9 => ?_) (fun c9 => ?_)
        · replace w := ql_if w c9
          exact hB986 n hn9 k28 hk28 rl1 rl2 rl3 rl4 xl5 _ _ _ _ S (lv_sub hl [2, 3, 4, 5, 6, 7] rfl) w
        · replace w := ql_ifn w c9
          refine lv_iconst (v := (0 : Int32)) C.1.1 C.1.2.1 dL_law_984 (by decide) ?_
          exact ql_zret C S hr hlocks dL_law_985 ⟨(by show _ ≤ (603072 : Nat); omega), (by show _ ≤ (7190633 : Nat); omega)⟩ w
    · replace w := ql_ifn w c9
      refine lv_iconst (v := (0 : Int32)) C.1.1 C.1.2.1 dL_law_967 (by decide) ?_
      exact ql_zret C S hr hlocks dL_law_968 ⟨(by show _ ≤ (603072 : Nat); omega), (by show _ ≤ (7190633 : Nat); omega)⟩ w
  have hB1042 : ∀ n : Nat, n + 1 ≤ 513 → ∀ (k28 : Option Nat → Option Nat → Option Nat → Option Nat → Int32 → ql_H → Prop) (hk28 : ∀ (rl1 : Option Nat) (rl2 : Option Nat) (rl3 : Option Nat) (rl4 : Option Nat) (xl5 : Int32) (h : ql_H) (H : Heap) (locs : List Loc) (ls : Array Slot), ql_S D h0 s H locs h → lv_has ls 9 [(0, .ref a0), (1, va_rf rl1), (2, va_rf rl2), (3, va_rf rl3), (4, va_rf rl4), (5, .int xl5)] → k28 rl1 rl2 rl3 rl4 xl5 h → W p l e ({ frames := 2048, cells := 603072, slots := 7190633, locals := 94400 } : Room) s m ([.ref a0] : List Value).toArray below meth c H locs (1032 + (513 - n) * 21) (15200 + (513 - n) * 5126) (vx_MQ below (ql_Q D h0 (ql_rI Q)) (ql_X D h0 X) ([.ref a0] : List Value).toArray s 603072 7190633 (ql_A h0)) (F0 m 28 ls [])) , ∀ (rl1 : Option Nat) (rl2 : Option Nat) (rl3 : Option Nat) (rl4 : Option Nat) (xl5 : Int32) (h : ql_H) (H : Heap) (locs : List Loc) (ls : Array Slot), ql_S D h0 s H locs h → lv_has ls 9 [(0, .ref a0), (1, va_rf rl1), (2, va_rf rl2), (3, va_rf rl3), (4, va_rf rl4), (5, .int xl5)] → qw_L_law_1042 D.2 L9 xs9 a0 Q X k28 rl1 rl2 rl3 rl4 xl5 h → W p l e ({ frames := 2048, cells := 603072, slots := 7190633, locals := 94400 } : Room) s m ([.ref a0] : List Value).toArray below meth c H locs (1033 + (513 - (n + 1)) * 21) (15206 + (513 - (n + 1)) * 5126) (vx_MQ below (ql_Q D h0 (ql_rI Q)) (ql_X D h0 X) ([.ref a0] : List Value).toArray s 603072 7190633 (ql_A h0)) (F0 m 1042 ls []) := by
    intro n hn9 k28 hk28 rl1 rl2 rl3 rl4 xl5 h H locs ls S hl w
    unfold qw_L_law_1042 at w
    refine lv_goto (tgt := 2957) C.1.1 C.1.2.1 dL_law_1042 (by decide) ?_
    refine W.cs (cells' := (1053 + (513 - (n + 1)) * 21)) (slots' := (20326 + (513 - (n + 1)) * 5126)) (by omega) (by omega) ?_
    exact hB2957 n hn9 k28 hk28 rl1 rl2 rl3 rl4 xl5 _ _ _ _ S (lv_sub hl [0, 1, 2, 3, 4, 5] rfl) w
  have hB989 : ∀ n : Nat, n + 1 ≤ 513 → ∀ (k28 : Option Nat → Option Nat → Option Nat → Option Nat → Int32 → ql_H → Prop) (hk28 : ∀ (rl1 : Option Nat) (rl2 : Option Nat) (rl3 : Option Nat) (rl4 : Option Nat) (xl5 : Int32) (h : ql_H) (H : Heap) (locs : List Loc) (ls : Array Slot), ql_S D h0 s H locs h → lv_has ls 9 [(0, .ref a0), (1, va_rf rl1), (2, va_rf rl2), (3, va_rf rl3), (4, va_rf rl4), (5, .int xl5)] → k28 rl1 rl2 rl3 rl4 xl5 h → W p l e ({ frames := 2048, cells := 603072, slots := 7190633, locals := 94400 } : Room) s m ([.ref a0] : List Value).toArray below meth c H locs (1032 + (513 - n) * 21) (15200 + (513 - n) * 5126) (vx_MQ below (ql_Q D h0 (ql_rI Q)) (ql_X D h0 X) ([.ref a0] : List Value).toArray s 603072 7190633 (ql_A h0)) (F0 m 28 ls [])) , ∀ (rl1 : Option Nat) (rl2 : Option Nat) (rl3 : Option Nat) (rl4 : Option Nat) (xl5 : Int32) (h : ql_H) (H : Heap) (locs : List Loc) (ls : Array Slot), ql_S D h0 s H locs h → lv_has ls 9 [(0, .ref a0), (1, va_rf rl1), (2, va_rf rl2), (3, va_rf rl3), (4, va_rf rl4), (5, .int xl5)] → qw_L_law_989 D.2 L9 xs9 a0 Q X k28 rl1 rl2 rl3 rl4 xl5 h → W p l e ({ frames := 2048, cells := 603072, slots := 7190633, locals := 94400 } : Room) s m ([.ref a0] : List Value).toArray below meth c H locs (1032 + (513 - (n + 1)) * 21) (15200 + (513 - (n + 1)) * 5126) (vx_MQ below (ql_Q D h0 (ql_rI Q)) (ql_X D h0 X) ([.ref a0] : List Value).toArray s 603072 7190633 (ql_A h0)) (F0 m 989 ls []) := by
    intro n hn9 k28 hk28 rl1 rl2 rl3 rl4 xl5 h H locs ls S hl w
    unfold qw_L_law_989 at w
    refine ql_aload_n (r := rl1) C dL_law_989 rfl (lv_at hl 1 rfl) ?_
    refine ql_aload_n (r := (some a0)) C dL_law_990 rfl (lv_at hl 0 rfl) ?_
    refine lv_iload C.1.1 C.1.2.1 dL_law_991 (lv_at hl 5 rfl) ?_
    refine lv_iconst (v := (1 : Int32)) C.1.1 C.1.2.1 dL_law_993 (by decide) ?_
    refine lv_iadd C.1.1 C.1.2.1 dL_law_994 ?_
    refine ql_sld C S hX w.1 dL_law_995 ?_
    replace w := w.2
    refine ql_aload_n (r := rl3) C dL_law_996 rfl (lv_at hl 3 rfl) ?_
    refine ql_SHI (As := [va_rf rl1, .int (xs9 (xl5 + (1 : Int32)).toNatClampNeg), va_rf rl3]) (rest := []) C S hl qyh_L_clauseOfSection gw_980 (qm_L_clauseOfSection l hl9 D _ rl1 (xs9 (xl5 + (1 : Int32)).toNatClampNeg) rl3 _ _ w) rfl ⟨Nat.le_of_ble_eq_true rfl, Nat.le_of_ble_eq_true rfl⟩ ⟨rfl, rfl⟩ (by exact Nat.le_of_ble_eq_true rfl) rfl dL_law_997 ⟨(by show _ ≤ (603072 : Nat); omega), (by show _ ≤ (7190633 : Nat); omega)⟩ (fun x73 h H locs S w => ?_)
    refine W.cs (cells' := (1033 + (513 - (n + 1)) * 21)) (slots' := (15206 + (513 - (n + 1)) * 5126)) (by omega) (by omega) ?_
    refine lv_istore (lv' := [(6, .int x73), (0, .ref a0), (1, va_rf rl1), (2, va_rf rl2), (3, va_rf rl3), (4, va_rf rl4), (5, .int xl5)]) C.1.1 C.1.2.1 dL_law_1000 hl (by decide) rfl (fun ls hl => ?_)
    refine ql_aload_n (r := rl2) C dL_law_1002 rfl (lv_at hl 3 rfl) ?_
    refine ql_aload_n (r := (some a0)) C dL_law_1003 rfl (lv_at hl 1 rfl) ?_
    refine lv_iload C.1.1 C.1.2.1 dL_law_1004 (lv_at hl 6 rfl) ?_
    refine lv_iconst (v := (1 : Int32)) C.1.1 C.1.2.1 dL_law_1006 (by decide) ?_
    refine lv_iadd C.1.1 C.1.2.1 dL_law_1007 ?_
    refine ql_sld C S hX w.1 dL_law_1008 ?_
    replace w := w.2
    refine ql_VI (As := [.int (xs9 (xl5 + (1 : Int32)).toNatClampNeg)]) (rest := []) C S htab hlocks hl qy_X12_clauseOfSection qi_X12_clauseOfSection qs_X12_clauseOfSection gw_1864 (ci := 13) rfl w (fun b w => qm_X12_clauseOfSection l hl9 D _ b (xs9 (xl5 + (1 : Int32)).toNatClampNeg) _ _ w) rfl ⟨Nat.le_of_ble_eq_true rfl, Nat.le_of_ble_eq_true rfl⟩ ⟨rfl, rfl⟩ (by exact Nat.le_of_ble_eq_true rfl) (fun b e9 => by cases e9; rfl) dL_law_1009 ⟨(by show _ ≤ (603072 : Nat); omega), (by show _ ≤ (7190633 : Nat); omega)⟩ ⟨(by show _ ≤ (603072 : Nat); omega), (by show _ ≤ (7190633 : Nat); omega)⟩ (fun x74 h H locs S w => ?_)
    refine W.cs (cells' := (1033 + (513 - (n + 1)) * 21)) (slots' := (15206 + (513 - (n + 1)) * 5126)) (by omega) (by omega) ?_
    refine lv_istore (lv' := [(7, .int x74), (6, .int x73), (0, .ref a0), (1, va_rf rl1), (2, va_rf rl2), (3, va_rf rl3), (4, va_rf rl4), (5, .int xl5)]) C.1.1 C.1.2.1 dL_law_1012 hl (by decide) rfl (fun ls hl => ?_)
    refine ql_aload_n (r := rl2) C dL_law_1014 rfl (lv_at hl 4 rfl) ?_
    refine ql_VI (As := []) (rest := []) C S htab hlocks hl qy_X12_thrown qi_X12_thrown qs_X12_thrown gw_1727 (ci := 13) rfl w (fun b w => qm_X12_thrown l hl9 D _ b _ _ w) rfl ⟨Nat.le_of_ble_eq_true rfl, Nat.le_of_ble_eq_true rfl⟩ ⟨rfl, rfl⟩ (by exact Nat.le_of_ble_eq_true rfl) (fun b e9 => by cases e9; rfl) dL_law_1015 ⟨(by show _ ≤ (603072 : Nat); omega), (by show _ ≤ (7190633 : Nat); omega)⟩ ⟨(by show _ ≤ (603072 : Nat); omega), (by show _ ≤ (7190633 : Nat); omega)⟩ (fun x76 h H locs S w => ?_)
    refine W.cs (cells' := (1033 + (513 - (n + 1)) * 21)) (slots' := (15206 + (513 - (n + 1)) * 5126)) (by omega) (by omega) ?_
    refine lv_iload C.1.1 C.1.2.1 dL_law_1018 (lv_at hl 1 rfl) ?_
    refine lv_icmp_eq (tgt := 1025) C.1.1 C.1.2.1 dL_law_1020 (by decide) (fun c9 => ?_) (fun c9 => ?_)
    · replace w := ql_if w c9
      refine lv_iload C.1.1 C.1.2.1 dL_law_1025 (lv_at hl 1 rfl) ?_
      refine lv_if_ne (tgt := 1042) C.1.1 C.1.2.1 dL_law_1027 (by decide) (fun c9 => ?_) (fun c9 => ?_)
      · replace w := ql_ifn w c9
        exact hB1042 n hn9 k28 hk28 rl1 rl2 rl3 rl4 xl5 _ _ _ _ S (lv_sub hl [2, 3, 4, 5, 6, 7] rfl) w
      · replace w := ql_if w c9
        refine ql_aload_n (r := rl3) C dL_law_1030 rfl (lv_at hl 5 rfl) ?_
        refine lv_iconst (v := (0 : Int32)) C.1.1 C.1.2.1 dL_law_1031 (by decide) ?_
        refine ql_lald C S dL_law_1032 w (fun j78 w => ?_)
        refine lv_iload C.1.1 C.1.2.1 dL_law_1033 (lv_at hl 0 rfl) ?_
        refine lv_i2l C.1.1 C.1.2.1 dL_law_1035 rfl ?_
        refine W.lcmp C.1.1 C.1.2.1 dL_law_1036 ?_
        refine lv_if_eq (tgt := 1042) C.1.1 C.1.2.1 dL_law_1037 (by decide) (fun c9 => ?_) (fun c9 => ?_)
        · replace w := ql_if w c9
          exact hB1042 n hn9 k28 hk28 rl1 rl2 rl3 rl4 xl5 _ _ _ _ S (lv_sub hl [2, 3, 4, 5, 6, 7] rfl) w
        · replace w := ql_ifn w c9
          refine lv_iconst (v := (0 : Int32)) C.1.1 C.1.2.1 dL_law_1040 (by decide) ?_
          exact ql_zret C S hr hlocks dL_law_1041 ⟨(by show _ ≤ (603072 : Nat); omega), (by show _ ≤ (7190633 : Nat); omega)⟩ w
    · replace w := ql_ifn w c9
      refine lv_iconst (v := (0 : Int32)) C.1.1 C.1.2.1 dL_law_1023 (by decide) ?_
      exact ql_zret C S hr hlocks dL_law_1024 ⟨(by show _ ≤ (603072 : Nat); omega), (by show _ ≤ (7190633 : Nat); omega)⟩ w
  have hB1098 : ∀ n : Nat, n + 1 ≤ 513 → ∀ (k28 : Option Nat → Option Nat → Option Nat → Option Nat → Int32 → ql_H → Prop) (hk28 : ∀ (rl1 : Option Nat) (rl2 : Option Nat) (rl3 : Option Nat) (rl4 : Option Nat) (xl5 : Int32) (h : ql_H) (H : Heap) (locs : List Loc) (ls : Array Slot), ql_S D h0 s H locs h → lv_has ls 9 [(0, .ref a0), (1, va_rf rl1), (2, va_rf rl2), (3, va_rf rl3), (4, va_rf rl4), (5, .int xl5)] → k28 rl1 rl2 rl3 rl4 xl5 h → W p l e ({ frames := 2048, cells := 603072, slots := 7190633, locals := 94400 } : Room) s m ([.ref a0] : List Value).toArray below meth c H locs (1032 + (513 - n) * 21) (15200 + (513 - n) * 5126) (vx_MQ below (ql_Q D h0 (ql_rI Q)) (ql_X D h0 X) ([.ref a0] : List Value).toArray s 603072 7190633 (ql_A h0)) (F0 m 28 ls [])) , ∀ (rl1 : Option Nat) (rl2 : Option Nat) (rl3 : Option Nat) (rl4 : Option Nat) (xl5 : Int32) (h : ql_H) (H : Heap) (locs : List Loc) (ls : Array Slot), ql_S D h0 s H locs h → lv_has ls 9 [(0, .ref a0), (1, va_rf rl1), (2, va_rf rl2), (3, va_rf rl3), (4, va_rf rl4), (5, .int xl5)] → qw_L_law_1098 D.2 L9 xs9 a0 Q X k28 rl1 rl2 rl3 rl4 xl5 h → W p l e ({ frames := 2048, cells := 603072, slots := 7190633, locals := 94400 } : Room) s m ([.ref a0] : List Value).toArray below meth c H locs (1033 + (513 - (n + 1)) * 21) (15206 + (513 - (n + 1)) * 5126) (vx_MQ below (ql_Q D h0 (ql_rI Q)) (ql_X D h0 X) ([.ref a0] : List Value).toArray s 603072 7190633 (ql_A h0)) (F0 m 1098 ls []) := by
    intro n hn9 k28 hk28 rl1 rl2 rl3 rl4 xl5 h H locs ls S hl w
    unfold qw_L_law_1098 at w
    refine lv_goto (tgt := 2957) C.1.1 C.1.2.1 dL_law_1098 (by decide) ?_
    refine W.cs (cells' := (1053 + (513 - (n + 1)) * 21)) (slots' := (20326 + (513 - (n + 1)) * 5126)) (by omega) (by omega) ?_
    exact hB2957 n hn9 k28 hk28 rl1 rl2 rl3 rl4 xl5 _ _ _ _ S (lv_sub hl [0, 1, 2, 3, 4, 5] rfl) w
  have hB1045 : ∀ n : Nat, n + 1 ≤ 513 → ∀ (k28 : Option Nat → Option Nat → Option Nat → Option Nat → Int32 → ql_H → Prop) (hk28 : ∀ (rl1 : Option Nat) (rl2 : Option Nat) (rl3 : Option Nat) (rl4 : Option Nat) (xl5 : Int32) (h : ql_H) (H : Heap) (locs : List Loc) (ls : Array Slot), ql_S D h0 s H locs h → lv_has ls 9 [(0, .ref a0), (1, va_rf rl1), (2, va_rf rl2), (3, va_rf rl3), (4, va_rf rl4), (5, .int xl5)] → k28 rl1 rl2 rl3 rl4 xl5 h → W p l e ({ frames := 2048, cells := 603072, slots := 7190633, locals := 94400 } : Room) s m ([.ref a0] : List Value).toArray below meth c H locs (1032 + (513 - n) * 21) (15200 + (513 - n) * 5126) (vx_MQ below (ql_Q D h0 (ql_rI Q)) (ql_X D h0 X) ([.ref a0] : List Value).toArray s 603072 7190633 (ql_A h0)) (F0 m 28 ls [])) , ∀ (rl1 : Option Nat) (rl2 : Option Nat) (rl3 : Option Nat) (rl4 : Option Nat) (xl5 : Int32) (h : ql_H) (H : Heap) (locs : List Loc) (ls : Array Slot), ql_S D h0 s H locs h → lv_has ls 9 [(0, .ref a0), (1, va_rf rl1), (2, va_rf rl2), (3, va_rf rl3), (4, va_rf rl4), (5, .int xl5)] → qw_L_law_1045 D.2 L9 xs9 a0 Q X k28 rl1 rl2 rl3 rl4 xl5 h → W p l e ({ frames := 2048, cells := 603072, slots := 7190633, locals := 94400 } : Room) s m ([.ref a0] : List Value).toArray below meth c H locs (1032 + (513 - (n + 1)) * 21) (15200 + (513 - (n + 1)) * 5126) (vx_MQ below (ql_Q D h0 (ql_rI Q)) (ql_X D h0 X) ([.ref a0] : List Value).toArray s 603072 7190633 (ql_A h0)) (F0 m 1045 ls []) := by
    intro n hn9 k28 hk28 rl1 rl2 rl3 rl4 xl5 h H locs ls S hl w
    unfold qw_L_law_1045 at w
    refine ql_aload_n (r := rl1) C dL_law_1045 rfl (lv_at hl 1 rfl) ?_
    refine ql_aload_n (r := (some a0)) C dL_law_1046 rfl (lv_at hl 0 rfl) ?_
    refine lv_iload C.1.1 C.1.2.1 dL_law_1047 (lv_at hl 5 rfl) ?_
    refine lv_iconst (v := (1 : Int32)) C.1.1 C.1.2.1 dL_law_1049 (by decide) ?_
    refine lv_iadd C.1.1 C.1.2.1 dL_law_1050 ?_
    refine ql_sld C S hX w.1 dL_law_1051 ?_
    replace w := w.2
    refine ql_aload_n (r := rl3) C dL_law_1052 rfl (lv_at hl 3 rfl) ?_
    refine ql_SHI (As := [va_rf rl1, .int (xs9 (xl5 + (1 : Int32)).toNatClampNeg), va_rf rl3]) (rest := []) C S hl qyh_L_section gw_988 (qm_L_section l hl9 D _ rl1 (xs9 (xl5 + (1 : Int32)).toNatClampNeg) rl3 _ _ w) rfl ⟨Nat.le_of_ble_eq_true rfl, Nat.le_of_ble_eq_true rfl⟩ ⟨rfl, rfl⟩ (by exact Nat.le_of_ble_eq_true rfl) rfl dL_law_1053 ⟨(by show _ ≤ (603072 : Nat); omega), (by show _ ≤ (7190633 : Nat); omega)⟩ (fun x79 h H locs S w => ?_)
    refine W.cs (cells' := (1033 + (513 - (n + 1)) * 21)) (slots' := (15206 + (513 - (n + 1)) * 5126)) (by omega) (by omega) ?_
    refine lv_istore (lv' := [(6, .int x79), (0, .ref a0), (1, va_rf rl1), (2, va_rf rl2), (3, va_rf rl3), (4, va_rf rl4), (5, .int xl5)]) C.1.1 C.1.2.1 dL_law_1056 hl (by decide) rfl (fun ls hl => ?_)
    refine ql_aload_n (r := rl2) C dL_law_1058 rfl (lv_at hl 3 rfl) ?_
    refine ql_aload_n (r := (some a0)) C dL_law_1059 rfl (lv_at hl 1 rfl) ?_
    refine lv_iload C.1.1 C.1.2.1 dL_law_1060 (lv_at hl 6 rfl) ?_
    refine lv_iconst (v := (1 : Int32)) C.1.1 C.1.2.1 dL_law_1062 (by decide) ?_
    refine lv_iadd C.1.1 C.1.2.1 dL_law_1063 ?_
    refine ql_sld C S hX w.1 dL_law_1064 ?_
    replace w := w.2
    refine ql_VI (As := [.int (xs9 (xl5 + (1 : Int32)).toNatClampNeg)]) (rest := []) C S htab hlocks hl qy_X12_section qi_X12_section qs_X12_section gw_1868 (ci := 13) rfl w (fun b w => qm_X12_section l hl9 D _ b (xs9 (xl5 + (1 : Int32)).toNatClampNeg) _ _ w) rfl ⟨Nat.le_of_ble_eq_true rfl, Nat.le_of_ble_eq_true rfl⟩ ⟨rfl, rfl⟩ (by exact Nat.le_of_ble_eq_true rfl) (fun b e9 => by cases e9; rfl) dL_law_1065 ⟨(by show _ ≤ (603072 : Nat); omega), (by show _ ≤ (7190633 : Nat); omega)⟩ ⟨(by show _ ≤ (603072 : Nat); omega), (by show _ ≤ (7190633 : Nat); omega)⟩ (fun x80 h H locs S w => ?_)
    refine W.cs (cells' := (1033 + (513 - (n + 1)) * 21)) (slots' := (15206 + (513 - (n + 1)) * 5126)) (by omega) (by omega) ?_
    refine lv_istore (lv' := [(7, .int x80), (6, .int x79), (0, .ref a0), (1, va_rf rl1), (2, va_rf rl2), (3, va_rf rl3), (4, va_rf rl4), (5, .int xl5)]) C.1.1 C.1.2.1 dL_law_1068 hl (by decide) rfl (fun ls hl => ?_)
    refine ql_aload_n (r := rl2) C dL_law_1070 rfl (lv_at hl 4 rfl) ?_
    refine ql_VI (As := []) (rest := []) C S htab hlocks hl qy_X12_thrown qi_X12_thrown qs_X12_thrown gw_1727 (ci := 13) rfl w (fun b w => qm_X12_thrown l hl9 D _ b _ _ w) rfl ⟨Nat.le_of_ble_eq_true rfl, Nat.le_of_ble_eq_true rfl⟩ ⟨rfl, rfl⟩ (by exact Nat.le_of_ble_eq_true rfl) (fun b e9 => by cases e9; rfl) dL_law_1071 ⟨(by show _ ≤ (603072 : Nat); omega), (by show _ ≤ (7190633 : Nat); omega)⟩ ⟨(by show _ ≤ (603072 : Nat); omega), (by show _ ≤ (7190633 : Nat); omega)⟩ (fun x82 h H locs S w => ?_)
    refine W.cs (cells' := (1033 + (513 - (n + 1)) * 21)) (slots' := (15206 + (513 - (n + 1)) * 5126)) (by omega) (by omega) ?_
    refine lv_iload C.1.1 C.1.2.1 dL_law_1074 (lv_at hl 1 rfl) ?_
    refine lv_icmp_eq (tgt := 1081) C.1.1 C.1.2.1 dL_law_1076 (by decide) (fun c9 => ?_) (fun c9 => ?_)
    · replace w := ql_if w c9
      refine lv_iload C.1.1 C.1.2.1 dL_law_1081 (lv_at hl 1 rfl) ?_
      refine lv_if_ne (tgt := 1098) C.1.1 C.1.2.1 dL_law_1083 (by decide) (fun c9 => ?_) (fun c9 => ?_)
      · replace w := ql_ifn w c9
        exact hB1098 n hn9 k28 hk28 rl1 rl2 rl3 rl4 xl5 _ _ _ _ S (lv_sub hl [2, 3, 4, 5, 6, 7] rfl) w
      · replace w := ql_if w c9
        refine ql_aload_n (r := rl3) C dL_law_1086 rfl (lv_at hl 5 rfl) ?_
        refine lv_iconst (v := (0 : Int32)) C.1.1 C.1.2.1 dL_law_1087 (by decide) ?_
        refine ql_lald C S dL_law_1088 w (fun j84 w => ?_)
        refine lv_iload C.1.1 C.1.2.1 dL_law_1089 (lv_at hl 0 rfl) ?_
        refine lv_i2l C.1.1 C.1.2.1 dL_law_1091 rfl ?_
        refine W.lcmp C.1.1 C.1.2.1 dL_law_1092 ?_
        refine lv_if_eq (tgt := 1098) C.1.1 C.1.2.1 dL_law_1093 (by decide) (fun c9 => ?_) (fun c9 => ?_)
        · replace w := ql_if w c9
          exact hB1098 n hn9 k28 hk28 rl1 rl2 rl3 rl4 xl5 _ _ _ _ S (lv_sub hl [2, 3, 4, 5, 6, 7] rfl) w
        · replace w := ql_ifn w c9
          refine lv_iconst (v := (0 : Int32)) C.1.1 C.1.2.1 dL_law_1096 (by decide) ?_
          exact ql_zret C S hr hlocks dL_law_1097 ⟨(by show _ ≤ (603072 : Nat); omega), (by show _ ≤ (7190633 : Nat); omega)⟩ w
    · replace w := ql_ifn w c9
      refine lv_iconst (v := (0 : Int32)) C.1.1 C.1.2.1 dL_law_1079 (by decide) ?_
      exact ql_zret C S hr hlocks dL_law_1080 ⟨(by show _ ≤ (603072 : Nat); omega), (by show _ ≤ (7190633 : Nat); omega)⟩ w
  have hB1154 : ∀ n : Nat, n + 1 ≤ 513 → ∀ (k28 : Option Nat → Option Nat → Option Nat → Option Nat → Int32 → ql_H → Prop) (hk28 : ∀ (rl1 : Option Nat) (rl2 : Option Nat) (rl3 : Option Nat) (rl4 : Option Nat) (xl5 : Int32) (h : ql_H) (H : Heap) (locs : List Loc) (ls : Array Slot), ql_S D h0 s H locs h → lv_has ls 9 [(0, .ref a0), (1, va_rf rl1), (2, va_rf rl2), (3, va_rf rl3), (4, va_rf rl4), (5, .int xl5)] → k28 rl1 rl2 rl3 rl4 xl5 h → W p l e ({ frames := 2048, cells := 603072, slots := 7190633, locals := 94400 } : Room) s m ([.ref a0] : List Value).toArray below meth c H locs (1032 + (513 - n) * 21) (15200 + (513 - n) * 5126) (vx_MQ below (ql_Q D h0 (ql_rI Q)) (ql_X D h0 X) ([.ref a0] : List Value).toArray s 603072 7190633 (ql_A h0)) (F0 m 28 ls [])) , ∀ (rl1 : Option Nat) (rl2 : Option Nat) (rl3 : Option Nat) (rl4 : Option Nat) (xl5 : Int32) (h : ql_H) (H : Heap) (locs : List Loc) (ls : Array Slot), ql_S D h0 s H locs h → lv_has ls 9 [(0, .ref a0), (1, va_rf rl1), (2, va_rf rl2), (3, va_rf rl3), (4, va_rf rl4), (5, .int xl5)] → qw_L_law_1154 D.2 L9 xs9 a0 Q X k28 rl1 rl2 rl3 rl4 xl5 h → W p l e ({ frames := 2048, cells := 603072, slots := 7190633, locals := 94400 } : Room) s m ([.ref a0] : List Value).toArray below meth c H locs (1033 + (513 - (n + 1)) * 21) (15206 + (513 - (n + 1)) * 5126) (vx_MQ below (ql_Q D h0 (ql_rI Q)) (ql_X D h0 X) ([.ref a0] : List Value).toArray s 603072 7190633 (ql_A h0)) (F0 m 1154 ls []) := by
    intro n hn9 k28 hk28 rl1 rl2 rl3 rl4 xl5 h H locs ls S hl w
    unfold qw_L_law_1154 at w
    refine lv_goto (tgt := 2957) C.1.1 C.1.2.1 dL_law_1154 (by decide) ?_
    refine W.cs (cells' := (1053 + (513 - (n + 1)) * 21)) (slots' := (20326 + (513 - (n + 1)) * 5126)) (by omega) (by omega) ?_
    exact hB2957 n hn9 k28 hk28 rl1 rl2 rl3 rl4 xl5 _ _ _ _ S (lv_sub hl [0, 1, 2, 3, 4, 5] rfl) w
  have hB1101 : ∀ n : Nat, n + 1 ≤ 513 → ∀ (k28 : Option Nat → Option Nat → Option Nat → Option Nat → Int32 → ql_H → Prop) (hk28 : ∀ (rl1 : Option Nat) (rl2 : Option Nat) (rl3 : Option Nat) (rl4 : Option Nat) (xl5 : Int32) (h : ql_H) (H : Heap) (locs : List Loc) (ls : Array Slot), ql_S D h0 s H locs h → lv_has ls 9 [(0, .ref a0), (1, va_rf rl1), (2, va_rf rl2), (3, va_rf rl3), (4, va_rf rl4), (5, .int xl5)] → k28 rl1 rl2 rl3 rl4 xl5 h → W p l e ({ frames := 2048, cells := 603072, slots := 7190633, locals := 94400 } : Room) s m ([.ref a0] : List Value).toArray below meth c H locs (1032 + (513 - n) * 21) (15200 + (513 - n) * 5126) (vx_MQ below (ql_Q D h0 (ql_rI Q)) (ql_X D h0 X) ([.ref a0] : List Value).toArray s 603072 7190633 (ql_A h0)) (F0 m 28 ls [])) , ∀ (rl1 : Option Nat) (rl2 : Option Nat) (rl3 : Option Nat) (rl4 : Option Nat) (xl5 : Int32) (h : ql_H) (H : Heap) (locs : List Loc) (ls : Array Slot), ql_S D h0 s H locs h → lv_has ls 9 [(0, .ref a0), (1, va_rf rl1), (2, va_rf rl2), (3, va_rf rl3), (4, va_rf rl4), (5, .int xl5)] → qw_L_law_1101 D.2 L9 xs9 a0 Q X k28 rl1 rl2 rl3 rl4 xl5 h → W p l e ({ frames := 2048, cells := 603072, slots := 7190633, locals := 94400 } : Room) s m ([.ref a0] : List Value).toArray below meth c H locs (1032 + (513 - (n + 1)) * 21) (15200 + (513 - (n + 1)) * 5126) (vx_MQ below (ql_Q D h0 (ql_rI Q)) (ql_X D h0 X) ([.ref a0] : List Value).toArray s 603072 7190633 (ql_A h0)) (F0 m 1101 ls []) := by
    intro n hn9 k28 hk28 rl1 rl2 rl3 rl4 xl5 h H locs ls S hl w
    unfold qw_L_law_1101 at w
    refine ql_aload_n (r := rl1) C dL_law_1101 rfl (lv_at hl 1 rfl) ?_
    refine ql_aload_n (r := (some a0)) C dL_law_1102 rfl (lv_at hl 0 rfl) ?_
    refine lv_iload C.1.1 C.1.2.1 dL_law_1103 (lv_at hl 5 rfl) ?_
    refine lv_iconst (v := (1 : Int32)) C.1.1 C.1.2.1 dL_law_1105 (by decide) ?_
    refine lv_iadd C.1.1 C.1.2.1 dL_law_1106 ?_
    refine ql_sld C S hX w.1 dL_law_1107 ?_
    replace w := w.2
    refine ql_aload_n (r := rl3) C dL_law_1108 rfl (lv_at hl 3 rfl) ?_
    refine ql_SHI (As := [va_rf rl1, .int (xs9 (xl5 + (1 : Int32)).toNatClampNeg), va_rf rl3]) (rest := []) C S hl qyh_L_enactedOn gw_1000 (qm_L_enactedOn l hl9 D _ rl1 (xs9 (xl5 + (1 : Int32)).toNatClampNeg) rl3 _ _ w) rfl ⟨Nat.le_of_ble_eq_true rfl, Nat.le_of_ble_eq_true rfl⟩ ⟨rfl, rfl⟩ (by exact Nat.le_of_ble_eq_true rfl) rfl dL_law_1109 ⟨(by show _ ≤ (603072 : Nat); omega), (by show _ ≤ (7190633 : Nat); omega)⟩ (fun x85 h H locs S w => ?_)
    refine W.cs (cells' := (1033 + (513 - (n + 1)) * 21)) (slots' := (15206 + (513 - (n + 1)) * 5126)) (by omega) (by omega) ?_
    refine lv_istore (lv' := [(6, .int x85), (0, .ref a0), (1, va_rf rl1), (2, va_rf rl2), (3, va_rf rl3), (4, va_rf rl4), (5, .int xl5)]) C.1.1 C.1.2.1 dL_law_1112 hl (by decide) rfl (fun ls hl => ?_)
    refine ql_aload_n (r := rl2) C dL_law_1114 rfl (lv_at hl 3 rfl) ?_
    refine ql_aload_n (r := (some a0)) C dL_law_1115 rfl (lv_at hl 1 rfl) ?_
    refine lv_iload C.1.1 C.1.2.1 dL_law_1116 (lv_at hl 6 rfl) ?_
    refine lv_iconst (v := (1 : Int32)) C.1.1 C.1.2.1 dL_law_1118 (by decide) ?_
    refine lv_iadd C.1.1 C.1.2.1 dL_law_1119 ?_
    refine ql_sld C S hX w.1 dL_law_1120 ?_
    replace w := w.2
    refine ql_VI (As := [.int (xs9 (xl5 + (1 : Int32)).toNatClampNeg)]) (rest := []) C S htab hlocks hl qy_X12_enactedOn qi_X12_enactedOn qs_X12_enactedOn gw_1876 (ci := 13) rfl w (fun b w => qm_X12_enactedOn l hl9 D _ b (xs9 (xl5 + (1 : Int32)).toNatClampNeg) _ _ w) rfl ⟨Nat.le_of_ble_eq_true rfl, Nat.le_of_ble_eq_true rfl⟩ ⟨rfl, rfl⟩ (by exact Nat.le_of_ble_eq_true rfl) (fun b e9 => by cases e9; rfl) dL_law_1121 ⟨(by show _ ≤ (603072 : Nat); omega), (by show _ ≤ (7190633 : Nat); omega)⟩ ⟨(by show _ ≤ (603072 : Nat); omega), (by show _ ≤ (7190633 : Nat); omega)⟩ (fun x86 h H locs S w => ?_)
    refine W.cs (cells' := (1033 + (513 - (n + 1)) * 21)) (slots' := (15206 + (513 - (n + 1)) * 5126)) (by omega) (by omega) ?_
    refine lv_istore (lv' := [(7, .int x86), (6, .int x85), (0, .ref a0), (1, va_rf rl1), (2, va_rf rl2), (3, va_rf rl3), (4, va_rf rl4), (5, .int xl5)]) C.1.1 C.1.2.1 dL_law_1124 hl (by decide) rfl (fun ls hl => ?_)
    refine ql_aload_n (r := rl2) C dL_law_1126 rfl (lv_at hl 4 rfl) ?_
    refine ql_VI (As := []) (rest := []) C S htab hlocks hl qy_X12_thrown qi_X12_thrown qs_X12_thrown gw_1727 (ci := 13) rfl w (fun b w => qm_X12_thrown l hl9 D _ b _ _ w) rfl ⟨Nat.le_of_ble_eq_true rfl, Nat.le_of_ble_eq_true rfl⟩ ⟨rfl, rfl⟩ (by exact Nat.le_of_ble_eq_true rfl) (fun b e9 => by cases e9; rfl) dL_law_1127 ⟨(by show _ ≤ (603072 : Nat); omega), (by show _ ≤ (7190633 : Nat); omega)⟩ ⟨(by show _ ≤ (603072 : Nat); omega), (by show _ ≤ (7190633 : Nat); omega)⟩ (fun x88 h H locs S w => ?_)
    refine W.cs (cells' := (1033 + (513 - (n + 1)) * 21)) (slots' := (15206 + (513 - (n + 1)) * 5126)) (by omega) (by omega) ?_
    refine lv_iload C.1.1 C.1.2.1 dL_law_1130 (lv_at hl 1 rfl) ?_
    refine lv_icmp_eq (tgt := 1137) C.1.1 C.1.2.1 dL_law_1132 (by decide) (fun c9 => ?_) (fun c9 => ?_)
    · replace w := ql_if w c9
      refine lv_iload C.1.1 C.1.2.1 dL_law_1137 (lv_at hl 1 rfl) ?_
      refine lv_if_ne (tgt := 1154) C.1.1 C.1.2.1 dL_law_1139 (by decide) (fun c9 => ?_) (fun c9 => ?_)
      · replace w := ql_ifn w c9
        exact hB1154 n hn9 k28 hk28 rl1 rl2 rl3 rl4 xl5 _ _ _ _ S (lv_sub hl [2, 3, 4, 5, 6, 7] rfl) w
      · replace w := ql_if w c9
        refine ql_aload_n (r := rl3) C dL_law_1142 rfl (lv_at hl 5 rfl) ?_
        refine lv_iconst (v := (0 : Int32)) C.1.1 C.1.2.1 dL_law_1143 (by decide) ?_
        refine ql_lald C S dL_law_1144 w (fun j90 w => ?_)
        refine lv_iload C.1.1 C.1.2.1 dL_law_1145 (lv_at hl 0 rfl) ?_
        refine lv_i2l C.1.1 C.1.2.1 dL_law_1147 rfl ?_
        refine W.lcmp C.1.1 C.1.2.1 dL_law_1148 ?_
        refine lv_if_eq (tgt := 1154) C.1.1 C.1.2.1 dL_law_1149 (by decide) (fun c9 => ?_) (fun c9 => ?_)
        · replace w := ql_if w c9
          exact hB1154 n hn9 k28 hk28 rl1 rl2 rl3 rl4 xl5 _ _ _ _ S (lv_sub hl [2, 3, 4, 5, 6, 7] rfl) w
        · replace w := ql_ifn w c9
          refine lv_iconst (v := (0 : Int32)) C.1.1 C.1.2.1 dL_law_1152 (by decide) ?_
          exact ql_zret C S hr hlocks dL_law_1153 ⟨(by show _ ≤ (603072 : Nat); omega), (by show _ ≤ (7190633 : Nat); omega)⟩ w
    · replace w := ql_ifn w c9
      refine lv_iconst (v := (0 : Int32)) C.1.1 C.1.2.1 dL_law_1135 (by decide) ?_
      exact ql_zret C S hr hlocks dL_law_1136 ⟨(by show _ ≤ (603072 : Nat); omega), (by show _ ≤ (7190633 : Nat); omega)⟩ w
  have hB1210 : ∀ n : Nat, n + 1 ≤ 513 → ∀ (k28 : Option Nat → Option Nat → Option Nat → Option Nat → Int32 → ql_H → Prop) (hk28 : ∀ (rl1 : Option Nat) (rl2 : Option Nat) (rl3 : Option Nat) (rl4 : Option Nat) (xl5 : Int32) (h : ql_H) (H : Heap) (locs : List Loc) (ls : Array Slot), ql_S D h0 s H locs h → lv_has ls 9 [(0, .ref a0), (1, va_rf rl1), (2, va_rf rl2), (3, va_rf rl3), (4, va_rf rl4), (5, .int xl5)] → k28 rl1 rl2 rl3 rl4 xl5 h → W p l e ({ frames := 2048, cells := 603072, slots := 7190633, locals := 94400 } : Room) s m ([.ref a0] : List Value).toArray below meth c H locs (1032 + (513 - n) * 21) (15200 + (513 - n) * 5126) (vx_MQ below (ql_Q D h0 (ql_rI Q)) (ql_X D h0 X) ([.ref a0] : List Value).toArray s 603072 7190633 (ql_A h0)) (F0 m 28 ls [])) , ∀ (rl1 : Option Nat) (rl2 : Option Nat) (rl3 : Option Nat) (rl4 : Option Nat) (xl5 : Int32) (h : ql_H) (H : Heap) (locs : List Loc) (ls : Array Slot), ql_S D h0 s H locs h → lv_has ls 9 [(0, .ref a0), (1, va_rf rl1), (2, va_rf rl2), (3, va_rf rl3), (4, va_rf rl4), (5, .int xl5)] → qw_L_law_1210 D.2 L9 xs9 a0 Q X k28 rl1 rl2 rl3 rl4 xl5 h → W p l e ({ frames := 2048, cells := 603072, slots := 7190633, locals := 94400 } : Room) s m ([.ref a0] : List Value).toArray below meth c H locs (1034 + (513 - (n + 1)) * 21) (15212 + (513 - (n + 1)) * 5126) (vx_MQ below (ql_Q D h0 (ql_rI Q)) (ql_X D h0 X) ([.ref a0] : List Value).toArray s 603072 7190633 (ql_A h0)) (F0 m 1210 ls []) := by
    intro n hn9 k28 hk28 rl1 rl2 rl3 rl4 xl5 h H locs ls S hl w
    unfold qw_L_law_1210 at w
    refine lv_goto (tgt := 2957) C.1.1 C.1.2.1 dL_law_1210 (by decide) ?_
    refine W.cs (cells' := (1053 + (513 - (n + 1)) * 21)) (slots' := (20326 + (513 - (n + 1)) * 5126)) (by omega) (by omega) ?_
    exact hB2957 n hn9 k28 hk28 rl1 rl2 rl3 rl4 xl5 _ _ _ _ S (lv_sub hl [0, 1, 2, 3, 4, 5] rfl) w
  have hB1157 : ∀ n : Nat, n + 1 ≤ 513 → ∀ (k28 : Option Nat → Option Nat → Option Nat → Option Nat → Int32 → ql_H → Prop) (hk28 : ∀ (rl1 : Option Nat) (rl2 : Option Nat) (rl3 : Option Nat) (rl4 : Option Nat) (xl5 : Int32) (h : ql_H) (H : Heap) (locs : List Loc) (ls : Array Slot), ql_S D h0 s H locs h → lv_has ls 9 [(0, .ref a0), (1, va_rf rl1), (2, va_rf rl2), (3, va_rf rl3), (4, va_rf rl4), (5, .int xl5)] → k28 rl1 rl2 rl3 rl4 xl5 h → W p l e ({ frames := 2048, cells := 603072, slots := 7190633, locals := 94400 } : Room) s m ([.ref a0] : List Value).toArray below meth c H locs (1032 + (513 - n) * 21) (15200 + (513 - n) * 5126) (vx_MQ below (ql_Q D h0 (ql_rI Q)) (ql_X D h0 X) ([.ref a0] : List Value).toArray s 603072 7190633 (ql_A h0)) (F0 m 28 ls [])) , ∀ (rl1 : Option Nat) (rl2 : Option Nat) (rl3 : Option Nat) (rl4 : Option Nat) (xl5 : Int32) (h : ql_H) (H : Heap) (locs : List Loc) (ls : Array Slot), ql_S D h0 s H locs h → lv_has ls 9 [(0, .ref a0), (1, va_rf rl1), (2, va_rf rl2), (3, va_rf rl3), (4, va_rf rl4), (5, .int xl5)] → qw_L_law_1157 D.2 L9 xs9 a0 Q X k28 rl1 rl2 rl3 rl4 xl5 h → W p l e ({ frames := 2048, cells := 603072, slots := 7190633, locals := 94400 } : Room) s m ([.ref a0] : List Value).toArray below meth c H locs (1032 + (513 - (n + 1)) * 21) (15200 + (513 - (n + 1)) * 5126) (vx_MQ below (ql_Q D h0 (ql_rI Q)) (ql_X D h0 X) ([.ref a0] : List Value).toArray s 603072 7190633 (ql_A h0)) (F0 m 1157 ls []) := by
    intro n hn9 k28 hk28 rl1 rl2 rl3 rl4 xl5 h H locs ls S hl w
    unfold qw_L_law_1157 at w
    refine ql_aload_n (r := rl1) C dL_law_1157 rfl (lv_at hl 1 rfl) ?_
    refine ql_aload_n (r := (some a0)) C dL_law_1158 rfl (lv_at hl 0 rfl) ?_
    refine lv_iload C.1.1 C.1.2.1 dL_law_1159 (lv_at hl 5 rfl) ?_
    refine lv_iconst (v := (1 : Int32)) C.1.1 C.1.2.1 dL_law_1161 (by decide) ?_
    refine lv_iadd C.1.1 C.1.2.1 dL_law_1162 ?_
    refine ql_sld C S hX w.1 dL_law_1163 ?_
    replace w := w.2
    refine ql_aload_n (r := rl3) C dL_law_1164 rfl (lv_at hl 3 rfl) ?_
    refine ql_SHI (As := [va_rf rl1, .int (xs9 (xl5 + (1 : Int32)).toNatClampNeg), va_rf rl3]) (rest := []) C S hl qyh_L_sunset gw_1007 (qm_L_sunset l hl9 D _ rl1 (xs9 (xl5 + (1 : Int32)).toNatClampNeg) rl3 _ _ w) rfl ⟨Nat.le_of_ble_eq_true rfl, Nat.le_of_ble_eq_true rfl⟩ ⟨rfl, rfl⟩ (by exact Nat.le_of_ble_eq_true rfl) rfl dL_law_1165 ⟨(by show _ ≤ (603072 : Nat); omega), (by show _ ≤ (7190633 : Nat); omega)⟩ (fun x91 h H locs S w => ?_)
    refine W.cs (cells' := (1034 + (513 - (n + 1)) * 21)) (slots' := (15212 + (513 - (n + 1)) * 5126)) (by omega) (by omega) ?_
    refine lv_istore (lv' := [(6, .int x91), (0, .ref a0), (1, va_rf rl1), (2, va_rf rl2), (3, va_rf rl3), (4, va_rf rl4), (5, .int xl5)]) C.1.1 C.1.2.1 dL_law_1168 hl (by decide) rfl (fun ls hl => ?_)
    refine ql_aload_n (r := rl2) C dL_law_1170 rfl (lv_at hl 3 rfl) ?_
    refine ql_aload_n (r := (some a0)) C dL_law_1171 rfl (lv_at hl 1 rfl) ?_
    refine lv_iload C.1.1 C.1.2.1 dL_law_1172 (lv_at hl 6 rfl) ?_
    refine lv_iconst (v := (1 : Int32)) C.1.1 C.1.2.1 dL_law_1174 (by decide) ?_
    refine lv_iadd C.1.1 C.1.2.1 dL_law_1175 ?_
    refine ql_sld C S hX w.1 dL_law_1176 ?_
    replace w := w.2
    refine ql_VI (As := [.int (xs9 (xl5 + (1 : Int32)).toNatClampNeg)]) (rest := []) C S htab hlocks hl qy_X12_sunset qi_X12_sunset qs_X12_sunset gw_1880 (ci := 13) rfl w (fun b w => qm_X12_sunset l hl9 D _ b (xs9 (xl5 + (1 : Int32)).toNatClampNeg) _ _ w) rfl ⟨Nat.le_of_ble_eq_true rfl, Nat.le_of_ble_eq_true rfl⟩ ⟨rfl, rfl⟩ (by exact Nat.le_of_ble_eq_true rfl) (fun b e9 => by cases e9; rfl) dL_law_1177 ⟨(by show _ ≤ (603072 : Nat); omega), (by show _ ≤ (7190633 : Nat); omega)⟩ ⟨(by show _ ≤ (603072 : Nat); omega), (by show _ ≤ (7190633 : Nat); omega)⟩ (fun x92 h H locs S w => ?_)
    refine W.cs (cells' := (1034 + (513 - (n + 1)) * 21)) (slots' := (15212 + (513 - (n + 1)) * 5126)) (by omega) (by omega) ?_
    refine lv_istore (lv' := [(7, .int x92), (6, .int x91), (0, .ref a0), (1, va_rf rl1), (2, va_rf rl2), (3, va_rf rl3), (4, va_rf rl4), (5, .int xl5)]) C.1.1 C.1.2.1 dL_law_1180 hl (by decide) rfl (fun ls hl => ?_)
    refine ql_aload_n (r := rl2) C dL_law_1182 rfl (lv_at hl 4 rfl) ?_
    refine ql_VI (As := []) (rest := []) C S htab hlocks hl qy_X12_thrown qi_X12_thrown qs_X12_thrown gw_1727 (ci := 13) rfl w (fun b w => qm_X12_thrown l hl9 D _ b _ _ w) rfl ⟨Nat.le_of_ble_eq_true rfl, Nat.le_of_ble_eq_true rfl⟩ ⟨rfl, rfl⟩ (by exact Nat.le_of_ble_eq_true rfl) (fun b e9 => by cases e9; rfl) dL_law_1183 ⟨(by show _ ≤ (603072 : Nat); omega), (by show _ ≤ (7190633 : Nat); omega)⟩ ⟨(by show _ ≤ (603072 : Nat); omega), (by show _ ≤ (7190633 : Nat); omega)⟩ (fun x94 h H locs S w => ?_)
    refine W.cs (cells' := (1034 + (513 - (n + 1)) * 21)) (slots' := (15212 + (513 - (n + 1)) * 5126)) (by omega) (by omega) ?_
    refine lv_iload C.1.1 C.1.2.1 dL_law_1186 (lv_at hl 1 rfl) ?_
    refine lv_icmp_eq (tgt := 1193) C.1.1 C.1.2.1 dL_law_1188 (by decide) (fun c9 => ?_) (fun c9 => ?_)
    · replace w := ql_if w c9
      refine lv_iload C.1.1 C.1.2.1 dL_law_1193 (lv_at hl 1 rfl) ?_
      refine lv_if_ne (tgt := 1210) C.1.1 C.1.2.1 dL_law_1195 (by decide) (fun c9 => ?_) (fun c9 => ?_)
      · replace w := ql_ifn w c9
        exact hB1210 n hn9 k28 hk28 rl1 rl2 rl3 rl4 xl5 _ _ _ _ S (lv_sub hl [2, 3, 4, 5, 6, 7] rfl) w
      · replace w := ql_if w c9
        refine ql_aload_n (r := rl3) C dL_law_1198 rfl (lv_at hl 5 rfl) ?_
        refine lv_iconst (v := (0 : Int32)) C.1.1 C.1.2.1 dL_law_1199 (by decide) ?_
        refine ql_lald C S dL_law_1200 w (fun j96 w => ?_)
        refine lv_iload C.1.1 C.1.2.1 dL_law_1201 (lv_at hl 0 rfl) ?_
        refine lv_i2l C.1.1 C.1.2.1 dL_law_1203 rfl ?_
        refine W.lcmp C.1.1 C.1.2.1 dL_law_1204 ?_
        refine lv_if_eq (tgt := 1210) C.1.1 C.1.2.1 dL_law_1205 (by decide) (fun c9 => ?_) (fun c9 => ?_)
        · replace w := ql_if w c9
          exact hB1210 n hn9 k28 hk28 rl1 rl2 rl3 rl4 xl5 _ _ _ _ S (lv_sub hl [2, 3, 4, 5, 6, 7] rfl) w
        · replace w := ql_ifn w c9
          refine lv_iconst (v := (0 : Int32)) C.1.1 C.1.2.1 dL_law_1208 (by decide) ?_
          exact ql_zret C S hr hlocks dL_law_1209 ⟨(by show _ ≤ (603072 : Nat); omega), (by show _ ≤ (7190633 : Nat); omega)⟩ w
    · replace w := ql_ifn w c9
      refine lv_iconst (v := (0 : Int32)) C.1.1 C.1.2.1 dL_law_1191 (by decide) ?_
      exact ql_zret C S hr hlocks dL_law_1192 ⟨(by show _ ≤ (603072 : Nat); omega), (by show _ ≤ (7190633 : Nat); omega)⟩ w
  have hB1285 : ∀ n : Nat, n + 1 ≤ 513 → ∀ (k28 : Option Nat → Option Nat → Option Nat → Option Nat → Int32 → ql_H → Prop) (hk28 : ∀ (rl1 : Option Nat) (rl2 : Option Nat) (rl3 : Option Nat) (rl4 : Option Nat) (xl5 : Int32) (h : ql_H) (H : Heap) (locs : List Loc) (ls : Array Slot), ql_S D h0 s H locs h → lv_has ls 9 [(0, .ref a0), (1, va_rf rl1), (2, va_rf rl2), (3, va_rf rl3), (4, va_rf rl4), (5, .int xl5)] → k28 rl1 rl2 rl3 rl4 xl5 h → W p l e ({ frames := 2048, cells := 603072, slots := 7190633, locals := 94400 } : Room) s m ([.ref a0] : List Value).toArray below meth c H locs (1032 + (513 - n) * 21) (15200 + (513 - n) * 5126) (vx_MQ below (ql_Q D h0 (ql_rI Q)) (ql_X D h0 X) ([.ref a0] : List Value).toArray s 603072 7190633 (ql_A h0)) (F0 m 28 ls [])) , ∀ (rl1 : Option Nat) (rl2 : Option Nat) (rl3 : Option Nat) (rl4 : Option Nat) (xl5 : Int32) (h : ql_H) (H : Heap) (locs : List Loc) (ls : Array Slot), ql_S D h0 s H locs h → lv_has ls 9 [(0, .ref a0), (1, va_rf rl1), (2, va_rf rl2), (3, va_rf rl3), (4, va_rf rl4), (5, .int xl5)] → qw_L_law_1285 D.2 L9 xs9 a0 Q X k28 rl1 rl2 rl3 rl4 xl5 h → W p l e ({ frames := 2048, cells := 603072, slots := 7190633, locals := 94400 } : Room) s m ([.ref a0] : List Value).toArray below meth c H locs (1033 + (513 - (n + 1)) * 21) (15206 + (513 - (n + 1)) * 5126) (vx_MQ below (ql_Q D h0 (ql_rI Q)) (ql_X D h0 X) ([.ref a0] : List Value).toArray s 603072 7190633 (ql_A h0)) (F0 m 1285 ls []) := by
    intro n hn9 k28 hk28 rl1 rl2 rl3 rl4 xl5 h H locs ls S hl w
    unfold qw_L_law_1285 at w
    refine lv_goto (tgt := 2957) C.1.1 C.1.2.1 dL_law_1285 (by decide) ?_
    refine W.cs (cells' := (1053 + (513 - (n + 1)) * 21)) (slots' := (20326 + (513 - (n + 1)) * 5126)) (by omega) (by omega) ?_
    exact hB2957 n hn9 k28 hk28 rl1 rl2 rl3 rl4 xl5 _ _ _ _ S (lv_sub hl [0, 1, 2, 3, 4, 5] rfl) w
  have hB1279 : ∀ n : Nat, n + 1 ≤ 513 → ∀ (k28 : Option Nat → Option Nat → Option Nat → Option Nat → Int32 → ql_H → Prop) (hk28 : ∀ (rl1 : Option Nat) (rl2 : Option Nat) (rl3 : Option Nat) (rl4 : Option Nat) (xl5 : Int32) (h : ql_H) (H : Heap) (locs : List Loc) (ls : Array Slot), ql_S D h0 s H locs h → lv_has ls 9 [(0, .ref a0), (1, va_rf rl1), (2, va_rf rl2), (3, va_rf rl3), (4, va_rf rl4), (5, .int xl5)] → k28 rl1 rl2 rl3 rl4 xl5 h → W p l e ({ frames := 2048, cells := 603072, slots := 7190633, locals := 94400 } : Room) s m ([.ref a0] : List Value).toArray below meth c H locs (1032 + (513 - n) * 21) (15200 + (513 - n) * 5126) (vx_MQ below (ql_Q D h0 (ql_rI Q)) (ql_X D h0 X) ([.ref a0] : List Value).toArray s 603072 7190633 (ql_A h0)) (F0 m 28 ls [])) , ∀ (rl1 : Option Nat) (rl2 : Option Nat) (rl3 : Option Nat) (rl4 : Option Nat) (xl5 : Int32) (js0 : Int64) (js1 : Int64) (h : ql_H) (H : Heap) (locs : List Loc) (ls : Array Slot), ql_S D h0 s H locs h → lv_has ls 9 [(0, .ref a0), (1, va_rf rl1), (2, va_rf rl2), (3, va_rf rl3), (4, va_rf rl4), (5, .int xl5)] → qw_L_law_1279 D.2 L9 xs9 a0 Q X k28 rl1 rl2 rl3 rl4 xl5 js0 js1 h → W p l e ({ frames := 2048, cells := 603072, slots := 7190633, locals := 94400 } : Room) s m ([.ref a0] : List Value).toArray below meth c H locs (1033 + (513 - (n + 1)) * 21) (15206 + (513 - (n + 1)) * 5126) (vx_MQ below (ql_Q D h0 (ql_rI Q)) (ql_X D h0 X) ([.ref a0] : List Value).toArray s 603072 7190633 (ql_A h0)) (F0 m 1279 ls [.long js1, .long js0]) := by
    intro n hn9 k28 hk28 rl1 rl2 rl3 rl4 xl5 js0 js1 h H locs ls S hl w
    unfold qw_L_law_1279 at w
    refine W.lcmp C.1.1 C.1.2.1 dL_law_1279 ?_
    refine lv_if_eq (tgt := 1285) C.1.1 C.1.2.1 dL_law_1280 (by decide) (fun c9 => ?_) (fun c9 => ?_)
    · replace w := ql_if w c9
      exact hB1285 n hn9 k28 hk28 rl1 rl2 rl3 rl4 xl5 _ _ _ _ S (lv_sub hl [0, 1, 2, 3, 4, 5] rfl) w
    · replace w := ql_ifn w c9
      refine lv_iconst (v := (0 : Int32)) C.1.1 C.1.2.1 dL_law_1283 (by decide) ?_
      exact ql_zret C S hr hlocks dL_law_1284 ⟨(by show _ ≤ (603072 : Nat); omega), (by show _ ≤ (7190633 : Nat); omega)⟩ w
  have hB1213 : ∀ n : Nat, n + 1 ≤ 513 → ∀ (k28 : Option Nat → Option Nat → Option Nat → Option Nat → Int32 → ql_H → Prop) (hk28 : ∀ (rl1 : Option Nat) (rl2 : Option Nat) (rl3 : Option Nat) (rl4 : Option Nat) (xl5 : Int32) (h : ql_H) (H : Heap) (locs : List Loc) (ls : Array Slot), ql_S D h0 s H locs h → lv_has ls 9 [(0, .ref a0), (1, va_rf rl1), (2, va_rf rl2), (3, va_rf rl3), (4, va_rf rl4), (5, .int xl5)] → k28 rl1 rl2 rl3 rl4 xl5 h → W p l e ({ frames := 2048, cells := 603072, slots := 7190633, locals := 94400 } : Room) s m ([.ref a0] : List Value).toArray below meth c H locs (1032 + (513 - n) * 21) (15200 + (513 - n) * 5126) (vx_MQ below (ql_Q D h0 (ql_rI Q)) (ql_X D h0 X) ([.ref a0] : List Value).toArray s 603072 7190633 (ql_A h0)) (F0 m 28 ls [])) , ∀ (rl1 : Option Nat) (rl2 : Option Nat) (rl3 : Option Nat) (rl4 : Option Nat) (xl5 : Int32) (h : ql_H) (H : Heap) (locs : List Loc) (ls : Array Slot), ql_S D h0 s H locs h → lv_has ls 9 [(0, .ref a0), (1, va_rf rl1), (2, va_rf rl2), (3, va_rf rl3), (4, va_rf rl4), (5, .int xl5)] → qw_L_law_1213 D.2 L9 xs9 a0 Q X k28 rl1 rl2 rl3 rl4 xl5 h → W p l e ({ frames := 2048, cells := 603072, slots := 7190633, locals := 94400 } : Room) s m ([.ref a0] : List Value).toArray below meth c H locs (1032 + (513 - (n + 1)) * 21) (15200 + (513 - (n + 1)) * 5126) (vx_MQ below (ql_Q D h0 (ql_rI Q)) (ql_X D h0 X) ([.ref a0] : List Value).toArray s 603072 7190633 (ql_A h0)) (F0 m 1213 ls []) := by
    intro n hn9 k28 hk28 rl1 rl2 rl3 rl4 xl5 h H locs ls S hl w
    unfold qw_L_law_1213 at w
    refine ql_aload_n (r := rl1) C dL_law_1213 rfl (lv_at hl 1 rfl) ?_
    refine ql_aload_n (r := (some a0)) C dL_law_1214 rfl (lv_at hl 0 rfl) ?_
    refine lv_iload C.1.1 C.1.2.1 dL_law_1215 (lv_at hl 5 rfl) ?_
    refine lv_iconst (v := (1 : Int32)) C.1.1 C.1.2.1 dL_law_1217 (by decide) ?_
    refine lv_iadd C.1.1 C.1.2.1 dL_law_1218 ?_
    refine ql_sld C S hX w.1 dL_law_1219 ?_
    replace w := w.2
    refine ql_aload_n (r := (some a0)) C dL_law_1220 rfl (lv_at hl 0 rfl) ?_
    refine lv_iload C.1.1 C.1.2.1 dL_law_1221 (lv_at hl 5 rfl) ?_
    refine lv_iconst (v := (2 : Int32)) C.1.1 C.1.2.1 dL_law_1223 (by decide) ?_
    refine lv_iadd C.1.1 C.1.2.1 dL_law_1224 ?_
    refine ql_sld C S hX w.1 dL_law_1225 ?_
    replace w := w.2
    refine ql_aload_n (r := rl3) C dL_law_1226 rfl (lv_at hl 3 rfl) ?_
    refine ql_SHI (As := [va_rf rl1, .int (xs9 (xl5 + (1 : Int32)).toNatClampNeg), .int (xs9 (xl5 + (2 : Int32)).toNatClampNeg), va_rf rl3]) (rest := []) C S hl qyh_L_isInForce gw_1019 (qm_L_isInForce l hl9 D _ rl1 (xs9 (xl5 + (1 : Int32)).toNatClampNeg) (xs9 (xl5 + (2 : Int32)).toNatClampNeg) rl3 _ _ w) rfl ⟨Nat.le_of_ble_eq_true rfl, Nat.le_of_ble_eq_true rfl⟩ ⟨rfl, rfl⟩ (by exact Nat.le_of_ble_eq_true rfl) rfl dL_law_1227 ⟨(by show _ ≤ (603072 : Nat); omega), (by show _ ≤ (7190633 : Nat); omega)⟩ (fun x97 h H locs S w => ?_)
    refine W.cs (cells' := (1033 + (513 - (n + 1)) * 21)) (slots' := (15206 + (513 - (n + 1)) * 5126)) (by omega) (by omega) ?_
    refine lv_istore (lv' := [(6, .int x97), (0, .ref a0), (1, va_rf rl1), (2, va_rf rl2), (3, va_rf rl3), (4, va_rf rl4), (5, .int xl5)]) C.1.1 C.1.2.1 dL_law_1230 hl (by decide) rfl (fun ls hl => ?_)
    refine ql_aload_n (r := rl2) C dL_law_1232 rfl (lv_at hl 3 rfl) ?_
    refine ql_aload_n (r := (some a0)) C dL_law_1233 rfl (lv_at hl 1 rfl) ?_
    refine lv_iload C.1.1 C.1.2.1 dL_law_1234 (lv_at hl 6 rfl) ?_
    refine lv_iconst (v := (1 : Int32)) C.1.1 C.1.2.1 dL_law_1236 (by decide) ?_
    refine lv_iadd C.1.1 C.1.2.1 dL_law_1237 ?_
    refine ql_sld C S hX w.1 dL_law_1238 ?_
    replace w := w.2
    refine ql_aload_n (r := (some a0)) C dL_law_1239 rfl (lv_at hl 1 rfl) ?_
    refine lv_iload C.1.1 C.1.2.1 dL_law_1240 (lv_at hl 6 rfl) ?_
    refine lv_iconst (v := (2 : Int32)) C.1.1 C.1.2.1 dL_law_1242 (by decide) ?_
    refine lv_iadd C.1.1 C.1.2.1 dL_law_1243 ?_
    refine ql_sld C S hX w.1 dL_law_1244 ?_
    replace w := w.2
    refine ql_VI (As := [.int (xs9 (xl5 + (1 : Int32)).toNatClampNeg), .int (xs9 (xl5 + (2 : Int32)).toNatClampNeg)]) (rest := []) C S htab hlocks hl qy_X12_isInForce qi_X12_isInForce qs_X12_isInForce gw_1888 (ci := 13) rfl w (fun b w => qm_X12_isInForce l hl9 D _ b (xs9 (xl5 + (1 : Int32)).toNatClampNeg) (xs9 (xl5 + (2 : Int32)).toNatClampNeg) _ _ w) rfl ⟨Nat.le_of_ble_eq_true rfl, Nat.le_of_ble_eq_true rfl⟩ ⟨rfl, rfl⟩ (by exact Nat.le_of_ble_eq_true rfl) (fun b e9 => by cases e9; rfl) dL_law_1245 ⟨(by show _ ≤ (603072 : Nat); omega), (by show _ ≤ (7190633 : Nat); omega)⟩ ⟨(by show _ ≤ (603072 : Nat); omega), (by show _ ≤ (7190633 : Nat); omega)⟩ (fun x98 h H locs S w => ?_)
    refine W.cs (cells' := (1033 + (513 - (n + 1)) * 21)) (slots' := (15206 + (513 - (n + 1)) * 5126)) (by omega) (by omega) ?_
    refine lv_istore (lv' := [(7, .int x98), (6, .int x97), (0, .ref a0), (1, va_rf rl1), (2, va_rf rl2), (3, va_rf rl3), (4, va_rf rl4), (5, .int xl5)]) C.1.1 C.1.2.1 dL_law_1248 hl (by decide) rfl (fun ls hl => ?_)
    refine ql_aload_n (r := rl2) C dL_law_1250 rfl (lv_at hl 4 rfl) ?_
    refine ql_VI (As := []) (rest := []) C S htab hlocks hl qy_X12_thrown qi_X12_thrown qs_X12_thrown gw_1727 (ci := 13) rfl w (fun b w => qm_X12_thrown l hl9 D _ b _ _ w) rfl ⟨Nat.le_of_ble_eq_true rfl, Nat.le_of_ble_eq_true rfl⟩ ⟨rfl, rfl⟩ (by exact Nat.le_of_ble_eq_true rfl) (fun b e9 => by cases e9; rfl) dL_law_1251 ⟨(by show _ ≤ (603072 : Nat); omega), (by show _ ≤ (7190633 : Nat); omega)⟩ ⟨(by show _ ≤ (603072 : Nat); omega), (by show _ ≤ (7190633 : Nat); omega)⟩ (fun x100 h H locs S w => ?_)
    refine W.cs (cells' := (1033 + (513 - (n + 1)) * 21)) (slots' := (15206 + (513 - (n + 1)) * 5126)) (by omega) (by omega) ?_
    refine lv_iload C.1.1 C.1.2.1 dL_law_1254 (lv_at hl 1 rfl) ?_
    refine lv_icmp_eq (tgt := 1261) C.1.1 C.1.2.1 dL_law_1256 (by decide) (fun c9 => ?_) (fun c9 => ?_)
    · replace w := ql_if w c9
      refine lv_iload C.1.1 C.1.2.1 dL_law_1261 (lv_at hl 1 rfl) ?_
      refine lv_if_ne (tgt := 1285) C.1.1 C.1.2.1 dL_law_1263 (by decide) (fun c9 => ?_) (fun c9 => ?_)
      · replace w := ql_ifn w c9
        exact hB1285 n hn9 k28 hk28 rl1 rl2 rl3 rl4 xl5 _ _ _ _ S (lv_sub hl [2, 3, 4, 5, 6, 7] rfl) w
      · replace w := ql_if w c9
        refine ql_aload_n (r := rl3) C dL_law_1266 rfl (lv_at hl 5 rfl) ?_
        refine lv_iconst (v := (0 : Int32)) C.1.1 C.1.2.1 dL_law_1267 (by decide) ?_
        refine ql_lald C S dL_law_1268 w (fun j102 w => ?_)
        refine lv_iload C.1.1 C.1.2.1 dL_law_1269 (lv_at hl 0 rfl) ?_
        refine lv_if_eq (tgt := 1278) C.1.1 C.1.2.1 dL_law_1271 (by decide) (fun c9 => ?_) (fun c9 => ?_)
        · replace w := ql_if w c9
          refine lv_lconst (v := (0 : Int64)) C.1.1 C.1.2.1 dL_law_1278 (by decide) ?_
          exact hB1279 n hn9 k28 hk28 rl1 rl2 rl3 rl4 xl5 j102 (0 : Int64) _ _ _ _ S (lv_sub hl [2, 3, 4, 5, 6, 7] rfl) w
        · replace w := ql_ifn w c9
          refine lv_lconst (v := (1 : Int64)) C.1.1 C.1.2.1 dL_law_1274 (by decide) ?_
          refine lv_goto (tgt := 1279) C.1.1 C.1.2.1 dL_law_1275 (by decide) ?_
          exact hB1279 n hn9 k28 hk28 rl1 rl2 rl3 rl4 xl5 j102 (1 : Int64) _ _ _ _ S (lv_sub hl [2, 3, 4, 5, 6, 7] rfl) w
    · replace w := ql_ifn w c9
      refine lv_iconst (v := (0 : Int32)) C.1.1 C.1.2.1 dL_law_1259 (by decide) ?_
      exact ql_zret C S hr hlocks dL_law_1260 ⟨(by show _ ≤ (603072 : Nat); omega), (by show _ ≤ (7190633 : Nat); omega)⟩ w
  have hB1348 : ∀ n : Nat, n + 1 ≤ 513 → ∀ (k28 : Option Nat → Option Nat → Option Nat → Option Nat → Int32 → ql_H → Prop) (hk28 : ∀ (rl1 : Option Nat) (rl2 : Option Nat) (rl3 : Option Nat) (rl4 : Option Nat) (xl5 : Int32) (h : ql_H) (H : Heap) (locs : List Loc) (ls : Array Slot), ql_S D h0 s H locs h → lv_has ls 9 [(0, .ref a0), (1, va_rf rl1), (2, va_rf rl2), (3, va_rf rl3), (4, va_rf rl4), (5, .int xl5)] → k28 rl1 rl2 rl3 rl4 xl5 h → W p l e ({ frames := 2048, cells := 603072, slots := 7190633, locals := 94400 } : Room) s m ([.ref a0] : List Value).toArray below meth c H locs (1032 + (513 - n) * 21) (15200 + (513 - n) * 5126) (vx_MQ below (ql_Q D h0 (ql_rI Q)) (ql_X D h0 X) ([.ref a0] : List Value).toArray s 603072 7190633 (ql_A h0)) (F0 m 28 ls [])) , ∀ (rl1 : Option Nat) (rl2 : Option Nat) (rl3 : Option Nat) (rl4 : Option Nat) (xl5 : Int32) (h : ql_H) (H : Heap) (locs : List Loc) (ls : Array Slot), ql_S D h0 s H locs h → lv_has ls 9 [(0, .ref a0), (1, va_rf rl1), (2, va_rf rl2), (3, va_rf rl3), (4, va_rf rl4), (5, .int xl5)] → qw_L_law_1348 D.2 L9 xs9 a0 Q X k28 rl1 rl2 rl3 rl4 xl5 h → W p l e ({ frames := 2048, cells := 603072, slots := 7190633, locals := 94400 } : Room) s m ([.ref a0] : List Value).toArray below meth c H locs (1033 + (513 - (n + 1)) * 21) (15206 + (513 - (n + 1)) * 5126) (vx_MQ below (ql_Q D h0 (ql_rI Q)) (ql_X D h0 X) ([.ref a0] : List Value).toArray s 603072 7190633 (ql_A h0)) (F0 m 1348 ls []) := by
    intro n hn9 k28 hk28 rl1 rl2 rl3 rl4 xl5 h H locs ls S hl w
    unfold qw_L_law_1348 at w
    refine lv_goto (tgt := 2957) C.1.1 C.1.2.1 dL_law_1348 (by decide) ?_
    refine W.cs (cells' := (1053 + (513 - (n + 1)) * 21)) (slots' := (20326 + (513 - (n + 1)) * 5126)) (by omega) (by omega) ?_
    exact hB2957 n hn9 k28 hk28 rl1 rl2 rl3 rl4 xl5 _ _ _ _ S (lv_sub hl [0, 1, 2, 3, 4, 5] rfl) w
  have hB1342 : ∀ n : Nat, n + 1 ≤ 513 → ∀ (k28 : Option Nat → Option Nat → Option Nat → Option Nat → Int32 → ql_H → Prop) (hk28 : ∀ (rl1 : Option Nat) (rl2 : Option Nat) (rl3 : Option Nat) (rl4 : Option Nat) (xl5 : Int32) (h : ql_H) (H : Heap) (locs : List Loc) (ls : Array Slot), ql_S D h0 s H locs h → lv_has ls 9 [(0, .ref a0), (1, va_rf rl1), (2, va_rf rl2), (3, va_rf rl3), (4, va_rf rl4), (5, .int xl5)] → k28 rl1 rl2 rl3 rl4 xl5 h → W p l e ({ frames := 2048, cells := 603072, slots := 7190633, locals := 94400 } : Room) s m ([.ref a0] : List Value).toArray below meth c H locs (1032 + (513 - n) * 21) (15200 + (513 - n) * 5126) (vx_MQ below (ql_Q D h0 (ql_rI Q)) (ql_X D h0 X) ([.ref a0] : List Value).toArray s 603072 7190633 (ql_A h0)) (F0 m 28 ls [])) , ∀ (rl1 : Option Nat) (rl2 : Option Nat) (rl3 : Option Nat) (rl4 : Option Nat) (xl5 : Int32) (js0 : Int64) (js1 : Int64) (h : ql_H) (H : Heap) (locs : List Loc) (ls : Array Slot), ql_S D h0 s H locs h → lv_has ls 9 [(0, .ref a0), (1, va_rf rl1), (2, va_rf rl2), (3, va_rf rl3), (4, va_rf rl4), (5, .int xl5)] → qw_L_law_1342 D.2 L9 xs9 a0 Q X k28 rl1 rl2 rl3 rl4 xl5 js0 js1 h → W p l e ({ frames := 2048, cells := 603072, slots := 7190633, locals := 94400 } : Room) s m ([.ref a0] : List Value).toArray below meth c H locs (1033 + (513 - (n + 1)) * 21) (15206 + (513 - (n + 1)) * 5126) (vx_MQ below (ql_Q D h0 (ql_rI Q)) (ql_X D h0 X) ([.ref a0] : List Value).toArray s 603072 7190633 (ql_A h0)) (F0 m 1342 ls [.long js1, .long js0]) := by
    intro n hn9 k28 hk28 rl1 rl2 rl3 rl4 xl5 js0 js1 h H locs ls S hl w
    unfold qw_L_law_1342 at w
    refine W.lcmp C.1.1 C.1.2.1 dL_law_1342 ?_
    refine lv_if_eq (tgt := 1348) C.1.1 C.1.2.1 dL_law_1343 (by decide) (fun c9 => ?_) (fun c9 => ?_)
    · replace w := ql_if w c9
      exact hB1348 n hn9 k28 hk28 rl1 rl2 rl3 rl4 xl5 _ _ _ _ S (lv_sub hl [0, 1, 2, 3, 4, 5] rfl) w
    · replace w := ql_ifn w c9
      refine lv_iconst (v := (0 : Int32)) C.1.1 C.1.2.1 dL_law_1346 (by decide) ?_
      exact ql_zret C S hr hlocks dL_law_1347 ⟨(by show _ ≤ (603072 : Nat); omega), (by show _ ≤ (7190633 : Nat); omega)⟩ w
  have hB1288 : ∀ n : Nat, n + 1 ≤ 513 → ∀ (k28 : Option Nat → Option Nat → Option Nat → Option Nat → Int32 → ql_H → Prop) (hk28 : ∀ (rl1 : Option Nat) (rl2 : Option Nat) (rl3 : Option Nat) (rl4 : Option Nat) (xl5 : Int32) (h : ql_H) (H : Heap) (locs : List Loc) (ls : Array Slot), ql_S D h0 s H locs h → lv_has ls 9 [(0, .ref a0), (1, va_rf rl1), (2, va_rf rl2), (3, va_rf rl3), (4, va_rf rl4), (5, .int xl5)] → k28 rl1 rl2 rl3 rl4 xl5 h → W p l e ({ frames := 2048, cells := 603072, slots := 7190633, locals := 94400 } : Room) s m ([.ref a0] : List Value).toArray below meth c H locs (1032 + (513 - n) * 21) (15200 + (513 - n) * 5126) (vx_MQ below (ql_Q D h0 (ql_rI Q)) (ql_X D h0 X) ([.ref a0] : List Value).toArray s 603072 7190633 (ql_A h0)) (F0 m 28 ls [])) , ∀ (rl1 : Option Nat) (rl2 : Option Nat) (rl3 : Option Nat) (rl4 : Option Nat) (xl5 : Int32) (h : ql_H) (H : Heap) (locs : List Loc) (ls : Array Slot), ql_S D h0 s H locs h → lv_has ls 9 [(0, .ref a0), (1, va_rf rl1), (2, va_rf rl2), (3, va_rf rl3), (4, va_rf rl4), (5, .int xl5)] → qw_L_law_1288 D.2 L9 xs9 a0 Q X k28 rl1 rl2 rl3 rl4 xl5 h → W p l e ({ frames := 2048, cells := 603072, slots := 7190633, locals := 94400 } : Room) s m ([.ref a0] : List Value).toArray below meth c H locs (1032 + (513 - (n + 1)) * 21) (15200 + (513 - (n + 1)) * 5126) (vx_MQ below (ql_Q D h0 (ql_rI Q)) (ql_X D h0 X) ([.ref a0] : List Value).toArray s 603072 7190633 (ql_A h0)) (F0 m 1288 ls []) := by
    intro n hn9 k28 hk28 rl1 rl2 rl3 rl4 xl5 h H locs ls S hl w
    unfold qw_L_law_1288 at w
    refine ql_aload_n (r := rl1) C dL_law_1288 rfl (lv_at hl 1 rfl) ?_
    refine ql_aload_n (r := (some a0)) C dL_law_1289 rfl (lv_at hl 0 rfl) ?_
    refine lv_iload C.1.1 C.1.2.1 dL_law_1290 (lv_at hl 5 rfl) ?_
    refine lv_iconst (v := (1 : Int32)) C.1.1 C.1.2.1 dL_law_1292 (by decide) ?_
    refine lv_iadd C.1.1 C.1.2.1 dL_law_1293 ?_
    refine ql_sld C S hX w.1 dL_law_1294 ?_
    replace w := w.2
    refine ql_aload_n (r := rl3) C dL_law_1295 rfl (lv_at hl 3 rfl) ?_
    refine ql_SHI (As := [va_rf rl1, .int (xs9 (xl5 + (1 : Int32)).toNatClampNeg), va_rf rl3]) (rest := []) C S hl qyh_L_hasLapsed gw_1027 (qm_L_hasLapsed l hl9 D _ rl1 (xs9 (xl5 + (1 : Int32)).toNatClampNeg) rl3 _ _ w) rfl ⟨Nat.le_of_ble_eq_true rfl, Nat.le_of_ble_eq_true rfl⟩ ⟨rfl, rfl⟩ (by exact Nat.le_of_ble_eq_true rfl) rfl dL_law_1296 ⟨(by show _ ≤ (603072 : Nat); omega), (by show _ ≤ (7190633 : Nat); omega)⟩ (fun x103 h H locs S w => ?_)
    refine W.cs (cells' := (1033 + (513 - (n + 1)) * 21)) (slots' := (15206 + (513 - (n + 1)) * 5126)) (by omega) (by omega) ?_
    refine lv_istore (lv' := [(6, .int x103), (0, .ref a0), (1, va_rf rl1), (2, va_rf rl2), (3, va_rf rl3), (4, va_rf rl4), (5, .int xl5)]) C.1.1 C.1.2.1 dL_law_1299 hl (by decide) rfl (fun ls hl => ?_)
    refine ql_aload_n (r := rl2) C dL_law_1301 rfl (lv_at hl 3 rfl) ?_
    refine ql_aload_n (r := (some a0)) C dL_law_1302 rfl (lv_at hl 1 rfl) ?_
    refine lv_iload C.1.1 C.1.2.1 dL_law_1303 (lv_at hl 6 rfl) ?_
    refine lv_iconst (v := (1 : Int32)) C.1.1 C.1.2.1 dL_law_1305 (by decide) ?_
    refine lv_iadd C.1.1 C.1.2.1 dL_law_1306 ?_
    refine ql_sld C S hX w.1 dL_law_1307 ?_
    replace w := w.2
    refine ql_VI (As := [.int (xs9 (xl5 + (1 : Int32)).toNatClampNeg)]) (rest := []) C S htab hlocks hl qy_X12_hasLapsed qi_X12_hasLapsed qs_X12_hasLapsed gw_1892 (ci := 13) rfl w (fun b w => qm_X12_hasLapsed l hl9 D _ b (xs9 (xl5 + (1 : Int32)).toNatClampNeg) _ _ w) rfl ⟨Nat.le_of_ble_eq_true rfl, Nat.le_of_ble_eq_true rfl⟩ ⟨rfl, rfl⟩ (by exact Nat.le_of_ble_eq_true rfl) (fun b e9 => by cases e9; rfl) dL_law_1308 ⟨(by show _ ≤ (603072 : Nat); omega), (by show _ ≤ (7190633 : Nat); omega)⟩ ⟨(by show _ ≤ (603072 : Nat); omega), (by show _ ≤ (7190633 : Nat); omega)⟩ (fun x104 h H locs S w => ?_)
    refine W.cs (cells' := (1033 + (513 - (n + 1)) * 21)) (slots' := (15206 + (513 - (n + 1)) * 5126)) (by omega) (by omega) ?_
    refine lv_istore (lv' := [(7, .int x104), (6, .int x103), (0, .ref a0), (1, va_rf rl1), (2, va_rf rl2), (3, va_rf rl3), (4, va_rf rl4), (5, .int xl5)]) C.1.1 C.1.2.1 dL_law_1311 hl (by decide) rfl (fun ls hl => ?_)
    refine ql_aload_n (r := rl2) C dL_law_1313 rfl (lv_at hl 4 rfl) ?_
    refine ql_VI (As := []) (rest := []) C S htab hlocks hl qy_X12_thrown qi_X12_thrown qs_X12_thrown gw_1727 (ci := 13) rfl w (fun b w => qm_X12_thrown l hl9 D _ b _ _ w) rfl ⟨Nat.le_of_ble_eq_true rfl, Nat.le_of_ble_eq_true rfl⟩ ⟨rfl, rfl⟩ (by exact Nat.le_of_ble_eq_true rfl) (fun b e9 => by cases e9; rfl) dL_law_1314 ⟨(by show _ ≤ (603072 : Nat); omega), (by show _ ≤ (7190633 : Nat); omega)⟩ ⟨(by show _ ≤ (603072 : Nat); omega), (by show _ ≤ (7190633 : Nat); omega)⟩ (fun x106 h H locs S w => ?_)
    refine W.cs (cells' := (1033 + (513 - (n + 1)) * 21)) (slots' := (15206 + (513 - (n + 1)) * 5126)) (by omega) (by omega) ?_
    refine lv_iload C.1.1 C.1.2.1 dL_law_1317 (lv_at hl 1 rfl) ?_
    refine lv_icmp_eq (tgt := 1324) C.1.1 C.1.2.1 dL_law_1319 (by decide) (fun c9 => ?_) (fun c9 => ?_)
    · replace w := ql_if w c9
      refine lv_iload C.1.1 C.1.2.1 dL_law_1324 (lv_at hl 1 rfl) ?_
      refine lv_if_ne (tgt := 1348) C.1.1 C.1.2.1 dL_law_1326 (by decide) (fun c9 => ?_) (fun c9 => ?_)
      · replace w := ql_ifn w c9
        exact hB1348 n hn9 k28 hk28 rl1 rl2 rl3 rl4 xl5 _ _ _ _ S (lv_sub hl [2, 3, 4, 5, 6, 7] rfl) w
      · replace w := ql_if w c9
        refine ql_aload_n (r := rl3) C dL_law_1329 rfl (lv_at hl 5 rfl) ?_
        refine lv_iconst (v := (0 : Int32)) C.1.1 C.1.2.1 dL_law_1330 (by decide) ?_
        refine ql_lald C S dL_law_1331 w (fun j108 w => ?_)
        refine lv_iload C.1.1 C.1.2.1 dL_law_1332 (lv_at hl 0 rfl) ?_
        refine lv_if_eq (tgt := 1341) C.1.1 C.1.2.1 dL_law_1334 (by decide) (fun c9 => ?_) (fun c9 => ?_)
        · replace w := ql_if w c9
          refine lv_lconst (v := (0 : Int64)) C.1.1 C.1.2.1 dL_law_1341 (by decide) ?_
          exact hB1342 n hn9 k28 hk28 rl1 rl2 rl3 rl4 xl5 j108 (0 : Int64) _ _ _ _ S (lv_sub hl [2, 3, 4, 5, 6, 7] rfl) w
        · replace w := ql_ifn w c9
          refine lv_lconst (v := (1 : Int64)) C.1.1 C.1.2.1 dL_law_1337 (by decide) ?_
          refine lv_goto (tgt := 1342) C.1.1 C.1.2.1 dL_law_1338 (by decide) ?_
          exact hB1342 n hn9 k28 hk28 rl1 rl2 rl3 rl4 xl5 j108 (1 : Int64) _ _ _ _ S (lv_sub hl [2, 3, 4, 5, 6, 7] rfl) w
    · replace w := ql_ifn w c9
      refine lv_iconst (v := (0 : Int32)) C.1.1 C.1.2.1 dL_law_1322 (by decide) ?_
      exact ql_zret C S hr hlocks dL_law_1323 ⟨(by show _ ≤ (603072 : Nat); omega), (by show _ ≤ (7190633 : Nat); omega)⟩ w
  have hB1351 : ∀ n : Nat, n + 1 ≤ 513 → ∀ (k28 : Option Nat → Option Nat → Option Nat → Option Nat → Int32 → ql_H → Prop) (hk28 : ∀ (rl1 : Option Nat) (rl2 : Option Nat) (rl3 : Option Nat) (rl4 : Option Nat) (xl5 : Int32) (h : ql_H) (H : Heap) (locs : List Loc) (ls : Array Slot), ql_S D h0 s H locs h → lv_has ls 9 [(0, .ref a0), (1, va_rf rl1), (2, va_rf rl2), (3, va_rf rl3), (4, va_rf rl4), (5, .int xl5)] → k28 rl1 rl2 rl3 rl4 xl5 h → W p l e ({ frames := 2048, cells := 603072, slots := 7190633, locals := 94400 } : Room) s m ([.ref a0] : List Value).toArray below meth c H locs (1032 + (513 - n) * 21) (15200 + (513 - n) * 5126) (vx_MQ below (ql_Q D h0 (ql_rI Q)) (ql_X D h0 X) ([.ref a0] : List Value).toArray s 603072 7190633 (ql_A h0)) (F0 m 28 ls [])) , ∀ (rl1 : Option Nat) (rl2 : Option Nat) (rl3 : Option Nat) (rl4 : Option Nat) (xl5 : Int32) (h : ql_H) (H : Heap) (locs : List Loc) (ls : Array Slot), ql_S D h0 s H locs h → lv_has ls 9 [(0, .ref a0), (1, va_rf rl1), (2, va_rf rl2), (3, va_rf rl3), (4, va_rf rl4), (5, .int xl5)] → qw_L_law_1351 D.2 L9 xs9 a0 Q X k28 rl1 rl2 rl3 rl4 xl5 h → W p l e ({ frames := 2048, cells := 603072, slots := 7190633, locals := 94400 } : Room) s m ([.ref a0] : List Value).toArray below meth c H locs (1032 + (513 - (n + 1)) * 21) (15200 + (513 - (n + 1)) * 5126) (vx_MQ below (ql_Q D h0 (ql_rI Q)) (ql_X D h0 X) ([.ref a0] : List Value).toArray s 603072 7190633 (ql_A h0)) (F0 m 1351 ls []) := by
    intro n hn9 k28 hk28 rl1 rl2 rl3 rl4 xl5 h H locs ls S hl w
    unfold qw_L_law_1351 at w
    refine ql_aload_n (r := rl1) C dL_law_1351 rfl (lv_at hl 1 rfl) ?_
    refine ql_aload_n (r := (some a0)) C dL_law_1352 rfl (lv_at hl 0 rfl) ?_
    refine lv_iload C.1.1 C.1.2.1 dL_law_1353 (lv_at hl 5 rfl) ?_
    refine lv_iconst (v := (1 : Int32)) C.1.1 C.1.2.1 dL_law_1355 (by decide) ?_
    refine lv_iadd C.1.1 C.1.2.1 dL_law_1356 ?_
    refine ql_sld C S hX w.1 dL_law_1357 ?_
    replace w := w.2
    refine ql_VI (As := [.int (xs9 (xl5 + (1 : Int32)).toNatClampNeg)]) (rest := []) C S htab hlocks hl qy_X11_inForceOn qi_X11_inForceOn qs_X11_inForceOn gw_637 (ci := 12) rfl w (fun b w => qm_X11_inForceOn l hl9 D _ b (xs9 (xl5 + (1 : Int32)).toNatClampNeg) _ _ w) rfl ⟨Nat.le_of_ble_eq_true rfl, Nat.le_of_ble_eq_true rfl⟩ ⟨rfl, rfl⟩ (by exact Nat.le_of_ble_eq_true rfl) (fun b e9 => by cases e9; rfl) dL_law_1358 ⟨(by show _ ≤ (603072 : Nat); omega), (by show _ ≤ (7190633 : Nat); omega)⟩ ⟨(by show _ ≤ (603072 : Nat); omega), (by show _ ≤ (7190633 : Nat); omega)⟩ (fun x109 h H locs S w => ?_)
    refine W.cs (cells' := (1032 + (513 - (n + 1)) * 21)) (slots' := (15200 + (513 - (n + 1)) * 5126)) (by omega) (by omega) ?_
    refine ql_aload_n (r := rl2) C dL_law_1361 rfl (lv_at hl 2 rfl) ?_
    refine ql_aload_n (r := (some a0)) C dL_law_1362 rfl (lv_at hl 0 rfl) ?_
    refine lv_iload C.1.1 C.1.2.1 dL_law_1363 (lv_at hl 5 rfl) ?_
    refine lv_iconst (v := (1 : Int32)) C.1.1 C.1.2.1 dL_law_1365 (by decide) ?_
    refine lv_iadd C.1.1 C.1.2.1 dL_law_1366 ?_
    refine ql_sld C S hX w.1 dL_law_1367 ?_
    replace w := w.2
    refine ql_VI (As := [.int (xs9 (xl5 + (1 : Int32)).toNatClampNeg)]) (rest := [.int x109]) C S htab hlocks hl qy_X12_inForceOn qi_X12_inForceOn qs_X12_inForceOn gw_1896 (ci := 13) rfl w (fun b w => qm_X12_inForceOn l hl9 D _ b (xs9 (xl5 + (1 : Int32)).toNatClampNeg) _ _ w) rfl ⟨Nat.le_of_ble_eq_true rfl, Nat.le_of_ble_eq_true rfl⟩ ⟨rfl, rfl⟩ (by exact Nat.le_of_ble_eq_true rfl) (fun b e9 => by cases e9; rfl) dL_law_1368 ⟨(by show _ ≤ (603072 : Nat); omega), (by show _ ≤ (7190633 : Nat); omega)⟩ ⟨(by show _ ≤ (603072 : Nat); omega), (by show _ ≤ (7190633 : Nat); omega)⟩ (fun x111 h H locs S w => ?_)
    refine W.cs (cells' := (1032 + (513 - (n + 1)) * 21)) (slots' := (15200 + (513 - (n + 1)) * 5126)) (by omega) (by omega) ?_
    refine lv_icmp_eq (tgt := 2957) C.1.1 C.1.2.1 dL_law_1371 (by decide) (fun c9 => ?_) (fun c9 => ?_)
    · replace w := ql_if w c9
      refine W.cs (cells' := (1053 + (513 - (n + 1)) * 21)) (slots' := (20326 + (513 - (n + 1)) * 5126)) (by omega) (by omega) ?_
      exact hB2957 n hn9 k28 hk28 rl1 rl2 rl3 rl4 xl5 _ _ _ _ S (lv_sub hl [0, 1, 2, 3, 4, 5] rfl) w
    · replace w := ql_ifn w c9
      refine lv_iconst (v := (0 : Int32)) C.1.1 C.1.2.1 dL_law_1374 (by decide) ?_
      exact ql_zret C S hr hlocks dL_law_1375 ⟨(by show _ ≤ (603072 : Nat); omega), (by show _ ≤ (7190633 : Nat); omega)⟩ w
  have hB1429 : ∀ n : Nat, n + 1 ≤ 513 → ∀ (k28 : Option Nat → Option Nat → Option Nat → Option Nat → Int32 → ql_H → Prop) (hk28 : ∀ (rl1 : Option Nat) (rl2 : Option Nat) (rl3 : Option Nat) (rl4 : Option Nat) (xl5 : Int32) (h : ql_H) (H : Heap) (locs : List Loc) (ls : Array Slot), ql_S D h0 s H locs h → lv_has ls 9 [(0, .ref a0), (1, va_rf rl1), (2, va_rf rl2), (3, va_rf rl3), (4, va_rf rl4), (5, .int xl5)] → k28 rl1 rl2 rl3 rl4 xl5 h → W p l e ({ frames := 2048, cells := 603072, slots := 7190633, locals := 94400 } : Room) s m ([.ref a0] : List Value).toArray below meth c H locs (1032 + (513 - n) * 21) (15200 + (513 - n) * 5126) (vx_MQ below (ql_Q D h0 (ql_rI Q)) (ql_X D h0 X) ([.ref a0] : List Value).toArray s 603072 7190633 (ql_A h0)) (F0 m 28 ls [])) , ∀ (rl1 : Option Nat) (rl2 : Option Nat) (rl3 : Option Nat) (rl4 : Option Nat) (xl5 : Int32) (h : ql_H) (H : Heap) (locs : List Loc) (ls : Array Slot), ql_S D h0 s H locs h → lv_has ls 9 [(0, .ref a0), (1, va_rf rl1), (2, va_rf rl2), (3, va_rf rl3), (4, va_rf rl4), (5, .int xl5)] → qw_L_law_1429 D.2 L9 xs9 a0 Q X k28 rl1 rl2 rl3 rl4 xl5 h → W p l e ({ frames := 2048, cells := 603072, slots := 7190633, locals := 94400 } : Room) s m ([.ref a0] : List Value).toArray below meth c H locs (1034 + (513 - (n + 1)) * 21) (15212 + (513 - (n + 1)) * 5126) (vx_MQ below (ql_Q D h0 (ql_rI Q)) (ql_X D h0 X) ([.ref a0] : List Value).toArray s 603072 7190633 (ql_A h0)) (F0 m 1429 ls []) := by
    intro n hn9 k28 hk28 rl1 rl2 rl3 rl4 xl5 h H locs ls S hl w
    unfold qw_L_law_1429 at w
    refine lv_goto (tgt := 2957) C.1.1 C.1.2.1 dL_law_1429 (by decide) ?_
    refine W.cs (cells' := (1053 + (513 - (n + 1)) * 21)) (slots' := (20326 + (513 - (n + 1)) * 5126)) (by omega) (by omega) ?_
    exact hB2957 n hn9 k28 hk28 rl1 rl2 rl3 rl4 xl5 _ _ _ _ S (lv_sub hl [0, 1, 2, 3, 4, 5] rfl) w
  have hB1376 : ∀ n : Nat, n + 1 ≤ 513 → ∀ (k28 : Option Nat → Option Nat → Option Nat → Option Nat → Int32 → ql_H → Prop) (hk28 : ∀ (rl1 : Option Nat) (rl2 : Option Nat) (rl3 : Option Nat) (rl4 : Option Nat) (xl5 : Int32) (h : ql_H) (H : Heap) (locs : List Loc) (ls : Array Slot), ql_S D h0 s H locs h → lv_has ls 9 [(0, .ref a0), (1, va_rf rl1), (2, va_rf rl2), (3, va_rf rl3), (4, va_rf rl4), (5, .int xl5)] → k28 rl1 rl2 rl3 rl4 xl5 h → W p l e ({ frames := 2048, cells := 603072, slots := 7190633, locals := 94400 } : Room) s m ([.ref a0] : List Value).toArray below meth c H locs (1032 + (513 - n) * 21) (15200 + (513 - n) * 5126) (vx_MQ below (ql_Q D h0 (ql_rI Q)) (ql_X D h0 X) ([.ref a0] : List Value).toArray s 603072 7190633 (ql_A h0)) (F0 m 28 ls [])) , ∀ (rl1 : Option Nat) (rl2 : Option Nat) (rl3 : Option Nat) (rl4 : Option Nat) (xl5 : Int32) (h : ql_H) (H : Heap) (locs : List Loc) (ls : Array Slot), ql_S D h0 s H locs h → lv_has ls 9 [(0, .ref a0), (1, va_rf rl1), (2, va_rf rl2), (3, va_rf rl3), (4, va_rf rl4), (5, .int xl5)] → qw_L_law_1376 D.2 L9 xs9 a0 Q X k28 rl1 rl2 rl3 rl4 xl5 h → W p l e ({ frames := 2048, cells := 603072, slots := 7190633, locals := 94400 } : Room) s m ([.ref a0] : List Value).toArray below meth c H locs (1032 + (513 - (n + 1)) * 21) (15200 + (513 - (n + 1)) * 5126) (vx_MQ below (ql_Q D h0 (ql_rI Q)) (ql_X D h0 X) ([.ref a0] : List Value).toArray s 603072 7190633 (ql_A h0)) (F0 m 1376 ls []) := by
    intro n hn9 k28 hk28 rl1 rl2 rl3 rl4 xl5 h H locs ls S hl w
    unfold qw_L_law_1376 at w
    refine ql_aload_n (r := rl1) C dL_law_1376 rfl (lv_at hl 1 rfl) ?_
    refine ql_aload_n (r := (some a0)) C dL_law_1377 rfl (lv_at hl 0 rfl) ?_
    refine lv_iload C.1.1 C.1.2.1 dL_law_1378 (lv_at hl 5 rfl) ?_
    refine lv_iconst (v := (1 : Int32)) C.1.1 C.1.2.1 dL_law_1380 (by decide) ?_
    refine lv_iadd C.1.1 C.1.2.1 dL_law_1381 ?_
    refine ql_sld C S hX w.1 dL_law_1382 ?_
    replace w := w.2
    refine ql_aload_n (r := rl3) C dL_law_1383 rfl (lv_at hl 3 rfl) ?_
    refine ql_SHI (As := [va_rf rl1, .int (xs9 (xl5 + (1 : Int32)).toNatClampNeg), va_rf rl3]) (rest := []) C S hl qyh_L_daysUntilLapsed gw_1035 (qm_L_daysUntilLapsed l hl9 D _ rl1 (xs9 (xl5 + (1 : Int32)).toNatClampNeg) rl3 _ _ w) rfl ⟨Nat.le_of_ble_eq_true rfl, Nat.le_of_ble_eq_true rfl⟩ ⟨rfl, rfl⟩ (by exact Nat.le_of_ble_eq_true rfl) rfl dL_law_1384 ⟨(by show _ ≤ (603072 : Nat); omega), (by show _ ≤ (7190633 : Nat); omega)⟩ (fun x113 h H locs S w => ?_)
    refine W.cs (cells' := (1034 + (513 - (n + 1)) * 21)) (slots' := (15212 + (513 - (n + 1)) * 5126)) (by omega) (by omega) ?_
    refine lv_istore (lv' := [(6, .int x113), (0, .ref a0), (1, va_rf rl1), (2, va_rf rl2), (3, va_rf rl3), (4, va_rf rl4), (5, .int xl5)]) C.1.1 C.1.2.1 dL_law_1387 hl (by decide) rfl (fun ls hl => ?_)
    refine ql_aload_n (r := rl2) C dL_law_1389 rfl (lv_at hl 3 rfl) ?_
    refine ql_aload_n (r := (some a0)) C dL_law_1390 rfl (lv_at hl 1 rfl) ?_
    refine lv_iload C.1.1 C.1.2.1 dL_law_1391 (lv_at hl 6 rfl) ?_
    refine lv_iconst (v := (1 : Int32)) C.1.1 C.1.2.1 dL_law_1393 (by decide) ?_
    refine lv_iadd C.1.1 C.1.2.1 dL_law_1394 ?_
    refine ql_sld C S hX w.1 dL_law_1395 ?_
    replace w := w.2
    refine ql_VI (As := [.int (xs9 (xl5 + (1 : Int32)).toNatClampNeg)]) (rest := []) C S htab hlocks hl qy_X12_daysUntilLapsed qi_X12_daysUntilLapsed qs_X12_daysUntilLapsed gw_1904 (ci := 13) rfl w (fun b w => qm_X12_daysUntilLapsed l hl9 D _ b (xs9 (xl5 + (1 : Int32)).toNatClampNeg) _ _ w) rfl ⟨Nat.le_of_ble_eq_true rfl, Nat.le_of_ble_eq_true rfl⟩ ⟨rfl, rfl⟩ (by exact Nat.le_of_ble_eq_true rfl) (fun b e9 => by cases e9; rfl) dL_law_1396 ⟨(by show _ ≤ (603072 : Nat); omega), (by show _ ≤ (7190633 : Nat); omega)⟩ ⟨(by show _ ≤ (603072 : Nat); omega), (by show _ ≤ (7190633 : Nat); omega)⟩ (fun x114 h H locs S w => ?_)
    refine W.cs (cells' := (1034 + (513 - (n + 1)) * 21)) (slots' := (15212 + (513 - (n + 1)) * 5126)) (by omega) (by omega) ?_
    refine lv_istore (lv' := [(7, .int x114), (6, .int x113), (0, .ref a0), (1, va_rf rl1), (2, va_rf rl2), (3, va_rf rl3), (4, va_rf rl4), (5, .int xl5)]) C.1.1 C.1.2.1 dL_law_1399 hl (by decide) rfl (fun ls hl => ?_)
    refine ql_aload_n (r := rl2) C dL_law_1401 rfl (lv_at hl 4 rfl) ?_
    refine ql_VI (As := []) (rest := []) C S htab hlocks hl qy_X12_thrown qi_X12_thrown qs_X12_thrown gw_1727 (ci := 13) rfl w (fun b w => qm_X12_thrown l hl9 D _ b _ _ w) rfl ⟨Nat.le_of_ble_eq_true rfl, Nat.le_of_ble_eq_true rfl⟩ ⟨rfl, rfl⟩ (by exact Nat.le_of_ble_eq_true rfl) (fun b e9 => by cases e9; rfl) dL_law_1402 ⟨(by show _ ≤ (603072 : Nat); omega), (by show _ ≤ (7190633 : Nat); omega)⟩ ⟨(by show _ ≤ (603072 : Nat); omega), (by show _ ≤ (7190633 : Nat); omega)⟩ (fun x116 h H locs S w => ?_)
    refine W.cs (cells' := (1034 + (513 - (n + 1)) * 21)) (slots' := (15212 + (513 - (n + 1)) * 5126)) (by omega) (by omega) ?_
    refine lv_iload C.1.1 C.1.2.1 dL_law_1405 (lv_at hl 1 rfl) ?_
    refine lv_icmp_eq (tgt := 1412) C.1.1 C.1.2.1 dL_law_1407 (by decide) (fun c9 => ?_) (fun c9 => ?_)
    · replace w := ql_if w c9
      refine lv_iload C.1.1 C.1.2.1 dL_law_1412 (lv_at hl 1 rfl) ?_
      refine lv_if_ne (tgt := 1429) C.1.1 C.1.2.1 dL_law_1414 (by decide) (fun c9 => ?_) (fun c9 => ?_)
      · replace w := ql_ifn w c9
        exact hB1429 n hn9 k28 hk28 rl1 rl2 rl3 rl4 xl5 _ _ _ _ S (lv_sub hl [2, 3, 4, 5, 6, 7] rfl) w
      · replace w := ql_if w c9
        refine ql_aload_n (r := rl3) C dL_law_1417 rfl (lv_at hl 5 rfl) ?_
        refine lv_iconst (v := (0 : Int32)) C.1.1 C.1.2.1 dL_law_1418 (by decide) ?_
        refine ql_lald C S dL_law_1419 w (fun j118 w => ?_)
        refine lv_iload C.1.1 C.1.2.1 dL_law_1420 (lv_at hl 0 rfl) ?_
        refine lv_i2l C.1.1 C.1.2.1 dL_law_1422 rfl ?_
        refine W.lcmp C.1.1 C.1.2.1 dL_law_1423 ?_
        refine lv_if_eq (tgt := 1429) C.1.1 C.1.2.1 dL_law_1424 (by decide) (fun c9 => ?_) (fun c9 => ?_)
        · replace w := ql_if w c9
          exact hB1429 n hn9 k28 hk28 rl1 rl2 rl3 rl4 xl5 _ _ _ _ S (lv_sub hl [2, 3, 4, 5, 6, 7] rfl) w
        · replace w := ql_ifn w c9
          refine lv_iconst (v := (0 : Int32)) C.1.1 C.1.2.1 dL_law_1427 (by decide) ?_
          exact ql_zret C S hr hlocks dL_law_1428 ⟨(by show _ ≤ (603072 : Nat); omega), (by show _ ≤ (7190633 : Nat); omega)⟩ w
    · replace w := ql_ifn w c9
      refine lv_iconst (v := (0 : Int32)) C.1.1 C.1.2.1 dL_law_1410 (by decide) ?_
      exact ql_zret C S hr hlocks dL_law_1411 ⟨(by show _ ≤ (603072 : Nat); omega), (by show _ ≤ (7190633 : Nat); omega)⟩ w
  have hB1485 : ∀ n : Nat, n + 1 ≤ 513 → ∀ (k28 : Option Nat → Option Nat → Option Nat → Option Nat → Int32 → ql_H → Prop) (hk28 : ∀ (rl1 : Option Nat) (rl2 : Option Nat) (rl3 : Option Nat) (rl4 : Option Nat) (xl5 : Int32) (h : ql_H) (H : Heap) (locs : List Loc) (ls : Array Slot), ql_S D h0 s H locs h → lv_has ls 9 [(0, .ref a0), (1, va_rf rl1), (2, va_rf rl2), (3, va_rf rl3), (4, va_rf rl4), (5, .int xl5)] → k28 rl1 rl2 rl3 rl4 xl5 h → W p l e ({ frames := 2048, cells := 603072, slots := 7190633, locals := 94400 } : Room) s m ([.ref a0] : List Value).toArray below meth c H locs (1032 + (513 - n) * 21) (15200 + (513 - n) * 5126) (vx_MQ below (ql_Q D h0 (ql_rI Q)) (ql_X D h0 X) ([.ref a0] : List Value).toArray s 603072 7190633 (ql_A h0)) (F0 m 28 ls [])) , ∀ (rl1 : Option Nat) (rl2 : Option Nat) (rl3 : Option Nat) (rl4 : Option Nat) (xl5 : Int32) (h : ql_H) (H : Heap) (locs : List Loc) (ls : Array Slot), ql_S D h0 s H locs h → lv_has ls 9 [(0, .ref a0), (1, va_rf rl1), (2, va_rf rl2), (3, va_rf rl3), (4, va_rf rl4), (5, .int xl5)] → qw_L_law_1485 D.2 L9 xs9 a0 Q X k28 rl1 rl2 rl3 rl4 xl5 h → W p l e ({ frames := 2048, cells := 603072, slots := 7190633, locals := 94400 } : Room) s m ([.ref a0] : List Value).toArray below meth c H locs (1033 + (513 - (n + 1)) * 21) (15206 + (513 - (n + 1)) * 5126) (vx_MQ below (ql_Q D h0 (ql_rI Q)) (ql_X D h0 X) ([.ref a0] : List Value).toArray s 603072 7190633 (ql_A h0)) (F0 m 1485 ls []) := by
    intro n hn9 k28 hk28 rl1 rl2 rl3 rl4 xl5 h H locs ls S hl w
    unfold qw_L_law_1485 at w
    refine lv_goto (tgt := 2957) C.1.1 C.1.2.1 dL_law_1485 (by decide) ?_
    refine W.cs (cells' := (1053 + (513 - (n + 1)) * 21)) (slots' := (20326 + (513 - (n + 1)) * 5126)) (by omega) (by omega) ?_
    exact hB2957 n hn9 k28 hk28 rl1 rl2 rl3 rl4 xl5 _ _ _ _ S (lv_sub hl [0, 1, 2, 3, 4, 5] rfl) w
  have hB1432 : ∀ n : Nat, n + 1 ≤ 513 → ∀ (k28 : Option Nat → Option Nat → Option Nat → Option Nat → Int32 → ql_H → Prop) (hk28 : ∀ (rl1 : Option Nat) (rl2 : Option Nat) (rl3 : Option Nat) (rl4 : Option Nat) (xl5 : Int32) (h : ql_H) (H : Heap) (locs : List Loc) (ls : Array Slot), ql_S D h0 s H locs h → lv_has ls 9 [(0, .ref a0), (1, va_rf rl1), (2, va_rf rl2), (3, va_rf rl3), (4, va_rf rl4), (5, .int xl5)] → k28 rl1 rl2 rl3 rl4 xl5 h → W p l e ({ frames := 2048, cells := 603072, slots := 7190633, locals := 94400 } : Room) s m ([.ref a0] : List Value).toArray below meth c H locs (1032 + (513 - n) * 21) (15200 + (513 - n) * 5126) (vx_MQ below (ql_Q D h0 (ql_rI Q)) (ql_X D h0 X) ([.ref a0] : List Value).toArray s 603072 7190633 (ql_A h0)) (F0 m 28 ls [])) , ∀ (rl1 : Option Nat) (rl2 : Option Nat) (rl3 : Option Nat) (rl4 : Option Nat) (xl5 : Int32) (h : ql_H) (H : Heap) (locs : List Loc) (ls : Array Slot), ql_S D h0 s H locs h → lv_has ls 9 [(0, .ref a0), (1, va_rf rl1), (2, va_rf rl2), (3, va_rf rl3), (4, va_rf rl4), (5, .int xl5)] → qw_L_law_1432 D.2 L9 xs9 a0 Q X k28 rl1 rl2 rl3 rl4 xl5 h → W p l e ({ frames := 2048, cells := 603072, slots := 7190633, locals := 94400 } : Room) s m ([.ref a0] : List Value).toArray below meth c H locs (1032 + (513 - (n + 1)) * 21) (15200 + (513 - (n + 1)) * 5126) (vx_MQ below (ql_Q D h0 (ql_rI Q)) (ql_X D h0 X) ([.ref a0] : List Value).toArray s 603072 7190633 (ql_A h0)) (F0 m 1432 ls []) := by
    intro n hn9 k28 hk28 rl1 rl2 rl3 rl4 xl5 h H locs ls S hl w
    unfold qw_L_law_1432 at w
    refine ql_aload_n (r := rl1) C dL_law_1432 rfl (lv_at hl 1 rfl) ?_
    refine ql_aload_n (r := (some a0)) C dL_law_1433 rfl (lv_at hl 0 rfl) ?_
    refine lv_iload C.1.1 C.1.2.1 dL_law_1434 (lv_at hl 5 rfl) ?_
    refine lv_iconst (v := (1 : Int32)) C.1.1 C.1.2.1 dL_law_1436 (by decide) ?_
    refine lv_iadd C.1.1 C.1.2.1 dL_law_1437 ?_
    refine ql_sld C S hX w.1 dL_law_1438 ?_
    replace w := w.2
    refine ql_aload_n (r := rl3) C dL_law_1439 rfl (lv_at hl 3 rfl) ?_
    refine ql_SHI (As := [va_rf rl1, .int (xs9 (xl5 + (1 : Int32)).toNatClampNeg), va_rf rl3]) (rest := []) C S hl qyh_L_length gw_1042 (qm_L_length l hl9 D _ rl1 (xs9 (xl5 + (1 : Int32)).toNatClampNeg) rl3 _ _ w) rfl ⟨Nat.le_of_ble_eq_true rfl, Nat.le_of_ble_eq_true rfl⟩ ⟨rfl, rfl⟩ (by exact Nat.le_of_ble_eq_true rfl) rfl dL_law_1440 ⟨(by show _ ≤ (603072 : Nat); omega), (by show _ ≤ (7190633 : Nat); omega)⟩ (fun x119 h H locs S w => ?_)
    refine W.cs (cells' := (1033 + (513 - (n + 1)) * 21)) (slots' := (15206 + (513 - (n + 1)) * 5126)) (by omega) (by omega) ?_
    refine lv_istore (lv' := [(6, .int x119), (0, .ref a0), (1, va_rf rl1), (2, va_rf rl2), (3, va_rf rl3), (4, va_rf rl4), (5, .int xl5)]) C.1.1 C.1.2.1 dL_law_1443 hl (by decide) rfl (fun ls hl => ?_)
    refine ql_aload_n (r := rl2) C dL_law_1445 rfl (lv_at hl 3 rfl) ?_
    refine ql_aload_n (r := (some a0)) C dL_law_1446 rfl (lv_at hl 1 rfl) ?_
    refine lv_iload C.1.1 C.1.2.1 dL_law_1447 (lv_at hl 6 rfl) ?_
    refine lv_iconst (v := (1 : Int32)) C.1.1 C.1.2.1 dL_law_1449 (by decide) ?_
    refine lv_iadd C.1.1 C.1.2.1 dL_law_1450 ?_
    refine ql_sld C S hX w.1 dL_law_1451 ?_
    replace w := w.2
    refine ql_VI (As := [.int (xs9 (xl5 + (1 : Int32)).toNatClampNeg)]) (rest := []) C S htab hlocks hl qy_X12_length qi_X12_length qs_X12_length gw_1911 (ci := 13) rfl w (fun b w => qm_X12_length l hl9 D _ b (xs9 (xl5 + (1 : Int32)).toNatClampNeg) _ _ w) rfl ⟨Nat.le_of_ble_eq_true rfl, Nat.le_of_ble_eq_true rfl⟩ ⟨rfl, rfl⟩ (by exact Nat.le_of_ble_eq_true rfl) (fun b e9 => by cases e9; rfl) dL_law_1452 ⟨(by show _ ≤ (603072 : Nat); omega), (by show _ ≤ (7190633 : Nat); omega)⟩ ⟨(by show _ ≤ (603072 : Nat); omega), (by show _ ≤ (7190633 : Nat); omega)⟩ (fun x120 h H locs S w => ?_)
    refine W.cs (cells' := (1033 + (513 - (n + 1)) * 21)) (slots' := (15206 + (513 - (n + 1)) * 5126)) (by omega) (by omega) ?_
    refine lv_istore (lv' := [(7, .int x120), (6, .int x119), (0, .ref a0), (1, va_rf rl1), (2, va_rf rl2), (3, va_rf rl3), (4, va_rf rl4), (5, .int xl5)]) C.1.1 C.1.2.1 dL_law_1455 hl (by decide) rfl (fun ls hl => ?_)
    refine ql_aload_n (r := rl2) C dL_law_1457 rfl (lv_at hl 4 rfl) ?_
    refine ql_VI (As := []) (rest := []) C S htab hlocks hl qy_X12_thrown qi_X12_thrown qs_X12_thrown gw_1727 (ci := 13) rfl w (fun b w => qm_X12_thrown l hl9 D _ b _ _ w) rfl ⟨Nat.le_of_ble_eq_true rfl, Nat.le_of_ble_eq_true rfl⟩ ⟨rfl, rfl⟩ (by exact Nat.le_of_ble_eq_true rfl) (fun b e9 => by cases e9; rfl) dL_law_1458 ⟨(by show _ ≤ (603072 : Nat); omega), (by show _ ≤ (7190633 : Nat); omega)⟩ ⟨(by show _ ≤ (603072 : Nat); omega), (by show _ ≤ (7190633 : Nat); omega)⟩ (fun x122 h H locs S w => ?_)
    refine W.cs (cells' := (1033 + (513 - (n + 1)) * 21)) (slots' := (15206 + (513 - (n + 1)) * 5126)) (by omega) (by omega) ?_
    refine lv_iload C.1.1 C.1.2.1 dL_law_1461 (lv_at hl 1 rfl) ?_
    refine lv_icmp_eq (tgt := 1468) C.1.1 C.1.2.1 dL_law_1463 (by decide) (fun c9 => ?_) (fun c9 => ?_)
    · replace w := ql_if w c9
      refine lv_iload C.1.1 C.1.2.1 dL_law_1468 (lv_at hl 1 rfl) ?_
      refine lv_if_ne (tgt := 1485) C.1.1 C.1.2.1 dL_law_1470 (by decide) (fun c9 => ?_) (fun c9 => ?_)
      · replace w := ql_ifn w c9
        exact hB1485 n hn9 k28 hk28 rl1 rl2 rl3 rl4 xl5 _ _ _ _ S (lv_sub hl [2, 3, 4, 5, 6, 7] rfl) w
      · replace w := ql_if w c9
        refine ql_aload_n (r := rl3) C dL_law_1473 rfl (lv_at hl 5 rfl) ?_
        refine lv_iconst (v := (0 : Int32)) C.1.1 C.1.2.1 dL_law_1474 (by decide) ?_
        refine ql_lald C S dL_law_1475 w (fun j124 w => ?_)
        refine lv_iload C.1.1 C.1.2.1 dL_law_1476 (lv_at hl 0 rfl) ?_
        refine lv_i2l C.1.1 C.1.2.1 dL_law_1478 rfl ?_
        refine W.lcmp C.1.1 C.1.2.1 dL_law_1479 ?_
        refine lv_if_eq (tgt := 1485) C.1.1 C.1.2.1 dL_law_1480 (by decide) (fun c9 => ?_) (fun c9 => ?_)
        · replace w := ql_if w c9
          exact hB1485 n hn9 k28 hk28 rl1 rl2 rl3 rl4 xl5 _ _ _ _ S (lv_sub hl [2, 3, 4, 5, 6, 7] rfl) w
        · replace w := ql_ifn w c9
          refine lv_iconst (v := (0 : Int32)) C.1.1 C.1.2.1 dL_law_1483 (by decide) ?_
          exact ql_zret C S hr hlocks dL_law_1484 ⟨(by show _ ≤ (603072 : Nat); omega), (by show _ ≤ (7190633 : Nat); omega)⟩ w
    · replace w := ql_ifn w c9
      refine lv_iconst (v := (0 : Int32)) C.1.1 C.1.2.1 dL_law_1466 (by decide) ?_
      exact ql_zret C S hr hlocks dL_law_1467 ⟨(by show _ ≤ (603072 : Nat); omega), (by show _ ≤ (7190633 : Nat); omega)⟩ w
  have hB1553 : ∀ n : Nat, n + 1 ≤ 513 → ∀ (k28 : Option Nat → Option Nat → Option Nat → Option Nat → Int32 → ql_H → Prop) (hk28 : ∀ (rl1 : Option Nat) (rl2 : Option Nat) (rl3 : Option Nat) (rl4 : Option Nat) (xl5 : Int32) (h : ql_H) (H : Heap) (locs : List Loc) (ls : Array Slot), ql_S D h0 s H locs h → lv_has ls 9 [(0, .ref a0), (1, va_rf rl1), (2, va_rf rl2), (3, va_rf rl3), (4, va_rf rl4), (5, .int xl5)] → k28 rl1 rl2 rl3 rl4 xl5 h → W p l e ({ frames := 2048, cells := 603072, slots := 7190633, locals := 94400 } : Room) s m ([.ref a0] : List Value).toArray below meth c H locs (1032 + (513 - n) * 21) (15200 + (513 - n) * 5126) (vx_MQ below (ql_Q D h0 (ql_rI Q)) (ql_X D h0 X) ([.ref a0] : List Value).toArray s 603072 7190633 (ql_A h0)) (F0 m 28 ls [])) , ∀ (rl1 : Option Nat) (rl2 : Option Nat) (rl3 : Option Nat) (rl4 : Option Nat) (xl5 : Int32) (h : ql_H) (H : Heap) (locs : List Loc) (ls : Array Slot), ql_S D h0 s H locs h → lv_has ls 9 [(0, .ref a0), (1, va_rf rl1), (2, va_rf rl2), (3, va_rf rl3), (4, va_rf rl4), (5, .int xl5)] → qw_L_law_1553 D.2 L9 xs9 a0 Q X k28 rl1 rl2 rl3 rl4 xl5 h → W p l e ({ frames := 2048, cells := 603072, slots := 7190633, locals := 94400 } : Room) s m ([.ref a0] : List Value).toArray below meth c H locs (1034 + (513 - (n + 1)) * 21) (15212 + (513 - (n + 1)) * 5126) (vx_MQ below (ql_Q D h0 (ql_rI Q)) (ql_X D h0 X) ([.ref a0] : List Value).toArray s 603072 7190633 (ql_A h0)) (F0 m 1553 ls []) := by
    intro n hn9 k28 hk28 rl1 rl2 rl3 rl4 xl5 h H locs ls S hl w
    unfold qw_L_law_1553 at w
    refine lv_goto (tgt := 2957) C.1.1 C.1.2.1 dL_law_1553 (by decide) ?_
    refine W.cs (cells' := (1053 + (513 - (n + 1)) * 21)) (slots' := (20326 + (513 - (n + 1)) * 5126)) (by omega) (by omega) ?_
    exact hB2957 n hn9 k28 hk28 rl1 rl2 rl3 rl4 xl5 _ _ _ _ S (lv_sub hl [0, 1, 2, 3, 4, 5] rfl) w
  have hB1488 : ∀ n : Nat, n + 1 ≤ 513 → ∀ (k28 : Option Nat → Option Nat → Option Nat → Option Nat → Int32 → ql_H → Prop) (hk28 : ∀ (rl1 : Option Nat) (rl2 : Option Nat) (rl3 : Option Nat) (rl4 : Option Nat) (xl5 : Int32) (h : ql_H) (H : Heap) (locs : List Loc) (ls : Array Slot), ql_S D h0 s H locs h → lv_has ls 9 [(0, .ref a0), (1, va_rf rl1), (2, va_rf rl2), (3, va_rf rl3), (4, va_rf rl4), (5, .int xl5)] → k28 rl1 rl2 rl3 rl4 xl5 h → W p l e ({ frames := 2048, cells := 603072, slots := 7190633, locals := 94400 } : Room) s m ([.ref a0] : List Value).toArray below meth c H locs (1032 + (513 - n) * 21) (15200 + (513 - n) * 5126) (vx_MQ below (ql_Q D h0 (ql_rI Q)) (ql_X D h0 X) ([.ref a0] : List Value).toArray s 603072 7190633 (ql_A h0)) (F0 m 28 ls [])) , ∀ (rl1 : Option Nat) (rl2 : Option Nat) (rl3 : Option Nat) (rl4 : Option Nat) (xl5 : Int32) (h : ql_H) (H : Heap) (locs : List Loc) (ls : Array Slot), ql_S D h0 s H locs h → lv_has ls 9 [(0, .ref a0), (1, va_rf rl1), (2, va_rf rl2), (3, va_rf rl3), (4, va_rf rl4), (5, .int xl5)] → qw_L_law_1488 D.2 L9 xs9 a0 Q X k28 rl1 rl2 rl3 rl4 xl5 h → W p l e ({ frames := 2048, cells := 603072, slots := 7190633, locals := 94400 } : Room) s m ([.ref a0] : List Value).toArray below meth c H locs (1032 + (513 - (n + 1)) * 21) (15200 + (513 - (n + 1)) * 5126) (vx_MQ below (ql_Q D h0 (ql_rI Q)) (ql_X D h0 X) ([.ref a0] : List Value).toArray s 603072 7190633 (ql_A h0)) (F0 m 1488 ls []) := by
    intro n hn9 k28 hk28 rl1 rl2 rl3 rl4 xl5 h H locs ls S hl w
    unfold qw_L_law_1488 at w
    refine ql_aload_n (r := rl1) C dL_law_1488 rfl (lv_at hl 1 rfl) ?_
    refine ql_aload_n (r := (some a0)) C dL_law_1489 rfl (lv_at hl 0 rfl) ?_
    refine lv_iload C.1.1 C.1.2.1 dL_law_1490 (lv_at hl 5 rfl) ?_
    refine lv_iconst (v := (1 : Int32)) C.1.1 C.1.2.1 dL_law_1492 (by decide) ?_
    refine lv_iadd C.1.1 C.1.2.1 dL_law_1493 ?_
    refine ql_sld C S hX w.1 dL_law_1494 ?_
    replace w := w.2
    refine ql_aload_n (r := (some a0)) C dL_law_1495 rfl (lv_at hl 0 rfl) ?_
    refine lv_iload C.1.1 C.1.2.1 dL_law_1496 (lv_at hl 5 rfl) ?_
    refine lv_iconst (v := (2 : Int32)) C.1.1 C.1.2.1 dL_law_1498 (by decide) ?_
    refine lv_iadd C.1.1 C.1.2.1 dL_law_1499 ?_
    refine ql_sld C S hX w.1 dL_law_1500 ?_
    replace w := w.2
    refine ql_aload_n (r := rl3) C dL_law_1501 rfl (lv_at hl 3 rfl) ?_
    refine ql_SHI (As := [va_rf rl1, .int (xs9 (xl5 + (1 : Int32)).toNatClampNeg), .int (xs9 (xl5 + (2 : Int32)).toNatClampNeg), va_rf rl3]) (rest := []) C S hl qyh_L_noteAt gw_1050 (qm_L_noteAt l hl9 D _ rl1 (xs9 (xl5 + (1 : Int32)).toNatClampNeg) (xs9 (xl5 + (2 : Int32)).toNatClampNeg) rl3 _ _ w) rfl ⟨Nat.le_of_ble_eq_true rfl, Nat.le_of_ble_eq_true rfl⟩ ⟨rfl, rfl⟩ (by exact Nat.le_of_ble_eq_true rfl) rfl dL_law_1502 ⟨(by show _ ≤ (603072 : Nat); omega), (by show _ ≤ (7190633 : Nat); omega)⟩ (fun x125 h H locs S w => ?_)
    refine W.cs (cells' := (1034 + (513 - (n + 1)) * 21)) (slots' := (15212 + (513 - (n + 1)) * 5126)) (by omega) (by omega) ?_
    refine lv_istore (lv' := [(6, .int x125), (0, .ref a0), (1, va_rf rl1), (2, va_rf rl2), (3, va_rf rl3), (4, va_rf rl4), (5, .int xl5)]) C.1.1 C.1.2.1 dL_law_1505 hl (by decide) rfl (fun ls hl => ?_)
    refine ql_aload_n (r := rl2) C dL_law_1507 rfl (lv_at hl 3 rfl) ?_
    refine ql_aload_n (r := (some a0)) C dL_law_1508 rfl (lv_at hl 1 rfl) ?_
    refine lv_iload C.1.1 C.1.2.1 dL_law_1509 (lv_at hl 6 rfl) ?_
    refine lv_iconst (v := (1 : Int32)) C.1.1 C.1.2.1 dL_law_1511 (by decide) ?_
    refine lv_iadd C.1.1 C.1.2.1 dL_law_1512 ?_
    refine ql_sld C S hX w.1 dL_law_1513 ?_
    replace w := w.2
    refine ql_aload_n (r := (some a0)) C dL_law_1514 rfl (lv_at hl 1 rfl) ?_
    refine lv_iload C.1.1 C.1.2.1 dL_law_1515 (lv_at hl 6 rfl) ?_
    refine lv_iconst (v := (2 : Int32)) C.1.1 C.1.2.1 dL_law_1517 (by decide) ?_
    refine lv_iadd C.1.1 C.1.2.1 dL_law_1518 ?_
    refine ql_sld C S hX w.1 dL_law_1519 ?_
    replace w := w.2
    refine ql_VI (As := [.int (xs9 (xl5 + (1 : Int32)).toNatClampNeg), .int (xs9 (xl5 + (2 : Int32)).toNatClampNeg)]) (rest := []) C S htab hlocks hl qy_X12_noteAt qi_X12_noteAt qs_X12_noteAt gw_1915 (ci := 13) rfl w (fun b w => qm_X12_noteAt l hl9 D _ b (xs9 (xl5 + (1 : Int32)).toNatClampNeg) (xs9 (xl5 + (2 : Int32)).toNatClampNeg) _ _ w) rfl ⟨Nat.le_of_ble_eq_true rfl, Nat.le_of_ble_eq_true rfl⟩ ⟨rfl, rfl⟩ (by exact Nat.le_of_ble_eq_true rfl) (fun b e9 => by cases e9; rfl) dL_law_1520 ⟨(by show _ ≤ (603072 : Nat); omega), (by show _ ≤ (7190633 : Nat); omega)⟩ ⟨(by show _ ≤ (603072 : Nat); omega), (by show _ ≤ (7190633 : Nat); omega)⟩ (fun x126 h H locs S w => ?_)
    refine W.cs (cells' := (1034 + (513 - (n + 1)) * 21)) (slots' := (15212 + (513 - (n + 1)) * 5126)) (by omega) (by omega) ?_
    refine lv_istore (lv' := [(7, .int x126), (6, .int x125), (0, .ref a0), (1, va_rf rl1), (2, va_rf rl2), (3, va_rf rl3), (4, va_rf rl4), (5, .int xl5)]) C.1.1 C.1.2.1 dL_law_1523 hl (by decide) rfl (fun ls hl => ?_)
    refine ql_aload_n (r := rl2) C dL_law_1525 rfl (lv_at hl 4 rfl) ?_
    refine ql_VI (As := []) (rest := []) C S htab hlocks hl qy_X12_thrown qi_X12_thrown qs_X12_thrown gw_1727 (ci := 13) rfl w (fun b w => qm_X12_thrown l hl9 D _ b _ _ w) rfl ⟨Nat.le_of_ble_eq_true rfl, Nat.le_of_ble_eq_true rfl⟩ ⟨rfl, rfl⟩ (by exact Nat.le_of_ble_eq_true rfl) (fun b e9 => by cases e9; rfl) dL_law_1526 ⟨(by show _ ≤ (603072 : Nat); omega), (by show _ ≤ (7190633 : Nat); omega)⟩ ⟨(by show _ ≤ (603072 : Nat); omega), (by show _ ≤ (7190633 : Nat); omega)⟩ (fun x128 h H locs S w => ?_)
    refine W.cs (cells' := (1034 + (513 - (n + 1)) * 21)) (slots' := (15212 + (513 - (n + 1)) * 5126)) (by omega) (by omega) ?_
    refine lv_iload C.1.1 C.1.2.1 dL_law_1529 (lv_at hl 1 rfl) ?_
    refine lv_icmp_eq (tgt := 1536) C.1.1 C.1.2.1 dL_law_1531 (by decide) (fun c9 => ?_) (fun c9 => ?_)
    · replace w := ql_if w c9
      refine lv_iload C.1.1 C.1.2.1 dL_law_1536 (lv_at hl 1 rfl) ?_
      refine lv_if_ne (tgt := 1553) C.1.1 C.1.2.1 dL_law_1538 (by decide) (fun c9 => ?_) (fun c9 => ?_)
      · replace w := ql_ifn w c9
        exact hB1553 n hn9 k28 hk28 rl1 rl2 rl3 rl4 xl5 _ _ _ _ S (lv_sub hl [2, 3, 4, 5, 6, 7] rfl) w
      · replace w := ql_if w c9
        refine ql_aload_n (r := rl3) C dL_law_1541 rfl (lv_at hl 5 rfl) ?_
        refine lv_iconst (v := (0 : Int32)) C.1.1 C.1.2.1 dL_law_1542 (by decide) ?_
        refine ql_lald C S dL_law_1543 w (fun j130 w => ?_)
        refine lv_iload C.1.1 C.1.2.1 dL_law_1544 (lv_at hl 0 rfl) ?_
        refine lv_i2l C.1.1 C.1.2.1 dL_law_1546 rfl ?_
        refine W.lcmp C.1.1 C.1.2.1 dL_law_1547 ?_
        refine lv_if_eq (tgt := 1553) C.1.1 C.1.2.1 dL_law_1548 (by decide) (fun c9 => ?_) (fun c9 => ?_)
        · replace w := ql_if w c9
          exact hB1553 n hn9 k28 hk28 rl1 rl2 rl3 rl4 xl5 _ _ _ _ S (lv_sub hl [2, 3, 4, 5, 6, 7] rfl) w
        · replace w := ql_ifn w c9
          refine lv_iconst (v := (0 : Int32)) C.1.1 C.1.2.1 dL_law_1551 (by decide) ?_
          exact ql_zret C S hr hlocks dL_law_1552 ⟨(by show _ ≤ (603072 : Nat); omega), (by show _ ≤ (7190633 : Nat); omega)⟩ w
    · replace w := ql_ifn w c9
      refine lv_iconst (v := (0 : Int32)) C.1.1 C.1.2.1 dL_law_1534 (by decide) ?_
      exact ql_zret C S hr hlocks dL_law_1535 ⟨(by show _ ≤ (603072 : Nat); omega), (by show _ ≤ (7190633 : Nat); omega)⟩ w
  have hB1609 : ∀ n : Nat, n + 1 ≤ 513 → ∀ (k28 : Option Nat → Option Nat → Option Nat → Option Nat → Int32 → ql_H → Prop) (hk28 : ∀ (rl1 : Option Nat) (rl2 : Option Nat) (rl3 : Option Nat) (rl4 : Option Nat) (xl5 : Int32) (h : ql_H) (H : Heap) (locs : List Loc) (ls : Array Slot), ql_S D h0 s H locs h → lv_has ls 9 [(0, .ref a0), (1, va_rf rl1), (2, va_rf rl2), (3, va_rf rl3), (4, va_rf rl4), (5, .int xl5)] → k28 rl1 rl2 rl3 rl4 xl5 h → W p l e ({ frames := 2048, cells := 603072, slots := 7190633, locals := 94400 } : Room) s m ([.ref a0] : List Value).toArray below meth c H locs (1032 + (513 - n) * 21) (15200 + (513 - n) * 5126) (vx_MQ below (ql_Q D h0 (ql_rI Q)) (ql_X D h0 X) ([.ref a0] : List Value).toArray s 603072 7190633 (ql_A h0)) (F0 m 28 ls [])) , ∀ (rl1 : Option Nat) (rl2 : Option Nat) (rl3 : Option Nat) (rl4 : Option Nat) (xl5 : Int32) (h : ql_H) (H : Heap) (locs : List Loc) (ls : Array Slot), ql_S D h0 s H locs h → lv_has ls 9 [(0, .ref a0), (1, va_rf rl1), (2, va_rf rl2), (3, va_rf rl3), (4, va_rf rl4), (5, .int xl5)] → qw_L_law_1609 D.2 L9 xs9 a0 Q X k28 rl1 rl2 rl3 rl4 xl5 h → W p l e ({ frames := 2048, cells := 603072, slots := 7190633, locals := 94400 } : Room) s m ([.ref a0] : List Value).toArray below meth c H locs (1033 + (513 - (n + 1)) * 21) (15206 + (513 - (n + 1)) * 5126) (vx_MQ below (ql_Q D h0 (ql_rI Q)) (ql_X D h0 X) ([.ref a0] : List Value).toArray s 603072 7190633 (ql_A h0)) (F0 m 1609 ls []) := by
    intro n hn9 k28 hk28 rl1 rl2 rl3 rl4 xl5 h H locs ls S hl w
    unfold qw_L_law_1609 at w
    refine lv_goto (tgt := 2957) C.1.1 C.1.2.1 dL_law_1609 (by decide) ?_
    refine W.cs (cells' := (1053 + (513 - (n + 1)) * 21)) (slots' := (20326 + (513 - (n + 1)) * 5126)) (by omega) (by omega) ?_
    exact hB2957 n hn9 k28 hk28 rl1 rl2 rl3 rl4 xl5 _ _ _ _ S (lv_sub hl [0, 1, 2, 3, 4, 5] rfl) w
  have hB1556 : ∀ n : Nat, n + 1 ≤ 513 → ∀ (k28 : Option Nat → Option Nat → Option Nat → Option Nat → Int32 → ql_H → Prop) (hk28 : ∀ (rl1 : Option Nat) (rl2 : Option Nat) (rl3 : Option Nat) (rl4 : Option Nat) (xl5 : Int32) (h : ql_H) (H : Heap) (locs : List Loc) (ls : Array Slot), ql_S D h0 s H locs h → lv_has ls 9 [(0, .ref a0), (1, va_rf rl1), (2, va_rf rl2), (3, va_rf rl3), (4, va_rf rl4), (5, .int xl5)] → k28 rl1 rl2 rl3 rl4 xl5 h → W p l e ({ frames := 2048, cells := 603072, slots := 7190633, locals := 94400 } : Room) s m ([.ref a0] : List Value).toArray below meth c H locs (1032 + (513 - n) * 21) (15200 + (513 - n) * 5126) (vx_MQ below (ql_Q D h0 (ql_rI Q)) (ql_X D h0 X) ([.ref a0] : List Value).toArray s 603072 7190633 (ql_A h0)) (F0 m 28 ls [])) , ∀ (rl1 : Option Nat) (rl2 : Option Nat) (rl3 : Option Nat) (rl4 : Option Nat) (xl5 : Int32) (h : ql_H) (H : Heap) (locs : List Loc) (ls : Array Slot), ql_S D h0 s H locs h → lv_has ls 9 [(0, .ref a0), (1, va_rf rl1), (2, va_rf rl2), (3, va_rf rl3), (4, va_rf rl4), (5, .int xl5)] → qw_L_law_1556 D.2 L9 xs9 a0 Q X k28 rl1 rl2 rl3 rl4 xl5 h → W p l e ({ frames := 2048, cells := 603072, slots := 7190633, locals := 94400 } : Room) s m ([.ref a0] : List Value).toArray below meth c H locs (1032 + (513 - (n + 1)) * 21) (15200 + (513 - (n + 1)) * 5126) (vx_MQ below (ql_Q D h0 (ql_rI Q)) (ql_X D h0 X) ([.ref a0] : List Value).toArray s 603072 7190633 (ql_A h0)) (F0 m 1556 ls []) := by
    intro n hn9 k28 hk28 rl1 rl2 rl3 rl4 xl5 h H locs ls S hl w
    unfold qw_L_law_1556 at w
    refine ql_aload_n (r := rl1) C dL_law_1556 rfl (lv_at hl 1 rfl) ?_
    refine ql_aload_n (r := (some a0)) C dL_law_1557 rfl (lv_at hl 0 rfl) ?_
    refine lv_iload C.1.1 C.1.2.1 dL_law_1558 (lv_at hl 5 rfl) ?_
    refine lv_iconst (v := (1 : Int32)) C.1.1 C.1.2.1 dL_law_1560 (by decide) ?_
    refine lv_iadd C.1.1 C.1.2.1 dL_law_1561 ?_
    refine ql_sld C S hX w.1 dL_law_1562 ?_
    replace w := w.2
    refine ql_aload_n (r := rl3) C dL_law_1563 rfl (lv_at hl 3 rfl) ?_
    refine ql_SHI (As := [va_rf rl1, .int (xs9 (xl5 + (1 : Int32)).toNatClampNeg), va_rf rl3]) (rest := []) C S hl qyh_L_versionCount gw_1061 (qm_L_versionCount l hl9 D _ rl1 (xs9 (xl5 + (1 : Int32)).toNatClampNeg) rl3 _ _ w) rfl ⟨Nat.le_of_ble_eq_true rfl, Nat.le_of_ble_eq_true rfl⟩ ⟨rfl, rfl⟩ (by exact Nat.le_of_ble_eq_true rfl) rfl dL_law_1564 ⟨(by show _ ≤ (603072 : Nat); omega), (by show _ ≤ (7190633 : Nat); omega)⟩ (fun x131 h H locs S w => ?_)
    refine W.cs (cells' := (1033 + (513 - (n + 1)) * 21)) (slots' := (15206 + (513 - (n + 1)) * 5126)) (by omega) (by omega) ?_
    refine lv_istore (lv' := [(6, .int x131), (0, .ref a0), (1, va_rf rl1), (2, va_rf rl2), (3, va_rf rl3), (4, va_rf rl4), (5, .int xl5)]) C.1.1 C.1.2.1 dL_law_1567 hl (by decide) rfl (fun ls hl => ?_)
    refine ql_aload_n (r := rl2) C dL_law_1569 rfl (lv_at hl 3 rfl) ?_
    refine ql_aload_n (r := (some a0)) C dL_law_1570 rfl (lv_at hl 1 rfl) ?_
    refine lv_iload C.1.1 C.1.2.1 dL_law_1571 (lv_at hl 6 rfl) ?_
    refine lv_iconst (v := (1 : Int32)) C.1.1 C.1.2.1 dL_law_1573 (by decide) ?_
    refine lv_iadd C.1.1 C.1.2.1 dL_law_1574 ?_
    refine ql_sld C S hX w.1 dL_law_1575 ?_
    replace w := w.2
    refine ql_VI (As := [.int (xs9 (xl5 + (1 : Int32)).toNatClampNeg)]) (rest := []) C S htab hlocks hl qy_X12_versionCount qi_X12_versionCount qs_X12_versionCount gw_1919 (ci := 13) rfl w (fun b w => qm_X12_versionCount l hl9 D _ b (xs9 (xl5 + (1 : Int32)).toNatClampNeg) _ _ w) rfl ⟨Nat.le_of_ble_eq_true rfl, Nat.le_of_ble_eq_true rfl⟩ ⟨rfl, rfl⟩ (by exact Nat.le_of_ble_eq_true rfl) (fun b e9 => by cases e9; rfl) dL_law_1576 ⟨(by show _ ≤ (603072 : Nat); omega), (by show _ ≤ (7190633 : Nat); omega)⟩ ⟨(by show _ ≤ (603072 : Nat); omega), (by show _ ≤ (7190633 : Nat); omega)⟩ (fun x132 h H locs S w => ?_)
    refine W.cs (cells' := (1033 + (513 - (n + 1)) * 21)) (slots' := (15206 + (513 - (n + 1)) * 5126)) (by omega) (by omega) ?_
    refine lv_istore (lv' := [(7, .int x132), (6, .int x131), (0, .ref a0), (1, va_rf rl1), (2, va_rf rl2), (3, va_rf rl3), (4, va_rf rl4), (5, .int xl5)]) C.1.1 C.1.2.1 dL_law_1579 hl (by decide) rfl (fun ls hl => ?_)
    refine ql_aload_n (r := rl2) C dL_law_1581 rfl (lv_at hl 4 rfl) ?_
    refine ql_VI (As := []) (rest := []) C S htab hlocks hl qy_X12_thrown qi_X12_thrown qs_X12_thrown gw_1727 (ci := 13) rfl w (fun b w => qm_X12_thrown l hl9 D _ b _ _ w) rfl ⟨Nat.le_of_ble_eq_true rfl, Nat.le_of_ble_eq_true rfl⟩ ⟨rfl, rfl⟩ (by exact Nat.le_of_ble_eq_true rfl) (fun b e9 => by cases e9; rfl) dL_law_1582 ⟨(by show _ ≤ (603072 : Nat); omega), (by show _ ≤ (7190633 : Nat); omega)⟩ ⟨(by show _ ≤ (603072 : Nat); omega), (by show _ ≤ (7190633 : Nat); omega)⟩ (fun x134 h H locs S w => ?_)
    refine W.cs (cells' := (1033 + (513 - (n + 1)) * 21)) (slots' := (15206 + (513 - (n + 1)) * 5126)) (by omega) (by omega) ?_
    refine lv_iload C.1.1 C.1.2.1 dL_law_1585 (lv_at hl 1 rfl) ?_
    refine lv_icmp_eq (tgt := 1592) C.1.1 C.1.2.1 dL_law_1587 (by decide) (fun c9 => ?_) (fun c9 => ?_)
    · replace w := ql_if w c9
      refine lv_iload C.1.1 C.1.2.1 dL_law_1592 (lv_at hl 1 rfl) ?_
      refine lv_if_ne (tgt := 1609) C.1.1 C.1.2.1 dL_law_1594 (by decide) (fun c9 => ?_) (fun c9 => ?_)
      · replace w := ql_ifn w c9
        exact hB1609 n hn9 k28 hk28 rl1 rl2 rl3 rl4 xl5 _ _ _ _ S (lv_sub hl [2, 3, 4, 5, 6, 7] rfl) w
      · replace w := ql_if w c9
        refine ql_aload_n (r := rl3) C dL_law_1597 rfl (lv_at hl 5 rfl) ?_
        refine lv_iconst (v := (0 : Int32)) C.1.1 C.1.2.1 dL_law_1598 (by decide) ?_
        refine ql_lald C S dL_law_1599 w (fun j136 w => ?_)
        refine lv_iload C.1.1 C.1.2.1 dL_law_1600 (lv_at hl 0 rfl) ?_
        refine lv_i2l C.1.1 C.1.2.1 dL_law_1602 rfl ?_
        refine W.lcmp C.1.1 C.1.2.1 dL_law_1603 ?_
        refine lv_if_eq (tgt := 1609) C.1.1 C.1.2.1 dL_law_1604 (by decide) (fun c9 => ?_) (fun c9 => ?_)
        · replace w := ql_if w c9
          exact hB1609 n hn9 k28 hk28 rl1 rl2 rl3 rl4 xl5 _ _ _ _ S (lv_sub hl [2, 3, 4, 5, 6, 7] rfl) w
        · replace w := ql_ifn w c9
          refine lv_iconst (v := (0 : Int32)) C.1.1 C.1.2.1 dL_law_1607 (by decide) ?_
          exact ql_zret C S hr hlocks dL_law_1608 ⟨(by show _ ≤ (603072 : Nat); omega), (by show _ ≤ (7190633 : Nat); omega)⟩ w
    · replace w := ql_ifn w c9
      refine lv_iconst (v := (0 : Int32)) C.1.1 C.1.2.1 dL_law_1590 (by decide) ?_
      exact ql_zret C S hr hlocks dL_law_1591 ⟨(by show _ ≤ (603072 : Nat); omega), (by show _ ≤ (7190633 : Nat); omega)⟩ w
  have hB1677 : ∀ n : Nat, n + 1 ≤ 513 → ∀ (k28 : Option Nat → Option Nat → Option Nat → Option Nat → Int32 → ql_H → Prop) (hk28 : ∀ (rl1 : Option Nat) (rl2 : Option Nat) (rl3 : Option Nat) (rl4 : Option Nat) (xl5 : Int32) (h : ql_H) (H : Heap) (locs : List Loc) (ls : Array Slot), ql_S D h0 s H locs h → lv_has ls 9 [(0, .ref a0), (1, va_rf rl1), (2, va_rf rl2), (3, va_rf rl3), (4, va_rf rl4), (5, .int xl5)] → k28 rl1 rl2 rl3 rl4 xl5 h → W p l e ({ frames := 2048, cells := 603072, slots := 7190633, locals := 94400 } : Room) s m ([.ref a0] : List Value).toArray below meth c H locs (1032 + (513 - n) * 21) (15200 + (513 - n) * 5126) (vx_MQ below (ql_Q D h0 (ql_rI Q)) (ql_X D h0 X) ([.ref a0] : List Value).toArray s 603072 7190633 (ql_A h0)) (F0 m 28 ls [])) , ∀ (rl1 : Option Nat) (rl2 : Option Nat) (rl3 : Option Nat) (rl4 : Option Nat) (xl5 : Int32) (h : ql_H) (H : Heap) (locs : List Loc) (ls : Array Slot), ql_S D h0 s H locs h → lv_has ls 9 [(0, .ref a0), (1, va_rf rl1), (2, va_rf rl2), (3, va_rf rl3), (4, va_rf rl4), (5, .int xl5)] → qw_L_law_1677 D.2 L9 xs9 a0 Q X k28 rl1 rl2 rl3 rl4 xl5 h → W p l e ({ frames := 2048, cells := 603072, slots := 7190633, locals := 94400 } : Room) s m ([.ref a0] : List Value).toArray below meth c H locs (1034 + (513 - (n + 1)) * 21) (15212 + (513 - (n + 1)) * 5126) (vx_MQ below (ql_Q D h0 (ql_rI Q)) (ql_X D h0 X) ([.ref a0] : List Value).toArray s 603072 7190633 (ql_A h0)) (F0 m 1677 ls []) := by
    intro n hn9 k28 hk28 rl1 rl2 rl3 rl4 xl5 h H locs ls S hl w
    unfold qw_L_law_1677 at w
    refine lv_goto (tgt := 2957) C.1.1 C.1.2.1 dL_law_1677 (by decide) ?_
    refine W.cs (cells' := (1053 + (513 - (n + 1)) * 21)) (slots' := (20326 + (513 - (n + 1)) * 5126)) (by omega) (by omega) ?_
    exact hB2957 n hn9 k28 hk28 rl1 rl2 rl3 rl4 xl5 _ _ _ _ S (lv_sub hl [0, 1, 2, 3, 4, 5] rfl) w
  have hB1612 : ∀ n : Nat, n + 1 ≤ 513 → ∀ (k28 : Option Nat → Option Nat → Option Nat → Option Nat → Int32 → ql_H → Prop) (hk28 : ∀ (rl1 : Option Nat) (rl2 : Option Nat) (rl3 : Option Nat) (rl4 : Option Nat) (xl5 : Int32) (h : ql_H) (H : Heap) (locs : List Loc) (ls : Array Slot), ql_S D h0 s H locs h → lv_has ls 9 [(0, .ref a0), (1, va_rf rl1), (2, va_rf rl2), (3, va_rf rl3), (4, va_rf rl4), (5, .int xl5)] → k28 rl1 rl2 rl3 rl4 xl5 h → W p l e ({ frames := 2048, cells := 603072, slots := 7190633, locals := 94400 } : Room) s m ([.ref a0] : List Value).toArray below meth c H locs (1032 + (513 - n) * 21) (15200 + (513 - n) * 5126) (vx_MQ below (ql_Q D h0 (ql_rI Q)) (ql_X D h0 X) ([.ref a0] : List Value).toArray s 603072 7190633 (ql_A h0)) (F0 m 28 ls [])) , ∀ (rl1 : Option Nat) (rl2 : Option Nat) (rl3 : Option Nat) (rl4 : Option Nat) (xl5 : Int32) (h : ql_H) (H : Heap) (locs : List Loc) (ls : Array Slot), ql_S D h0 s H locs h → lv_has ls 9 [(0, .ref a0), (1, va_rf rl1), (2, va_rf rl2), (3, va_rf rl3), (4, va_rf rl4), (5, .int xl5)] → qw_L_law_1612 D.2 L9 xs9 a0 Q X k28 rl1 rl2 rl3 rl4 xl5 h → W p l e ({ frames := 2048, cells := 603072, slots := 7190633, locals := 94400 } : Room) s m ([.ref a0] : List Value).toArray below meth c H locs (1032 + (513 - (n + 1)) * 21) (15200 + (513 - (n + 1)) * 5126) (vx_MQ below (ql_Q D h0 (ql_rI Q)) (ql_X D h0 X) ([.ref a0] : List Value).toArray s 603072 7190633 (ql_A h0)) (F0 m 1612 ls []) := by
    intro n hn9 k28 hk28 rl1 rl2 rl3 rl4 xl5 h H locs ls S hl w
    unfold qw_L_law_1612 at w
    refine ql_aload_n (r := rl1) C dL_law_1612 rfl (lv_at hl 1 rfl) ?_
    refine ql_aload_n (r := (some a0)) C dL_law_1613 rfl (lv_at hl 0 rfl) ?_
    refine lv_iload C.1.1 C.1.2.1 dL_law_1614 (lv_at hl 5 rfl) ?_
    refine lv_iconst (v := (1 : Int32)) C.1.1 C.1.2.1 dL_law_1616 (by decide) ?_
    refine lv_iadd C.1.1 C.1.2.1 dL_law_1617 ?_
    refine ql_sld C S hX w.1 dL_law_1618 ?_
    replace w := w.2
    refine ql_aload_n (r := (some a0)) C dL_law_1619 rfl (lv_at hl 0 rfl) ?_
    refine lv_iload C.1.1 C.1.2.1 dL_law_1620 (lv_at hl 5 rfl) ?_
    refine lv_iconst (v := (2 : Int32)) C.1.1 C.1.2.1 dL_law_1622 (by decide) ?_
    refine lv_iadd C.1.1 C.1.2.1 dL_law_1623 ?_
    refine ql_sld C S hX w.1 dL_law_1624 ?_
    replace w := w.2
    refine ql_aload_n (r := rl3) C dL_law_1625 rfl (lv_at hl 3 rfl) ?_
    refine ql_SHI (As := [va_rf rl1, .int (xs9 (xl5 + (1 : Int32)).toNatClampNeg), .int (xs9 (xl5 + (2 : Int32)).toNatClampNeg), va_rf rl3]) (rest := []) C S hl qyh_L_lengthOn gw_1069 (qm_L_lengthOn l hl9 D _ rl1 (xs9 (xl5 + (1 : Int32)).toNatClampNeg) (xs9 (xl5 + (2 : Int32)).toNatClampNeg) rl3 _ _ w) rfl ⟨Nat.le_of_ble_eq_true rfl, Nat.le_of_ble_eq_true rfl⟩ ⟨rfl, rfl⟩ (by exact Nat.le_of_ble_eq_true rfl) rfl dL_law_1626 ⟨(by show _ ≤ (603072 : Nat); omega), (by show _ ≤ (7190633 : Nat); omega)⟩ (fun x137 h H locs S w => ?_)
    refine W.cs (cells' := (1034 + (513 - (n + 1)) * 21)) (slots' := (15212 + (513 - (n + 1)) * 5126)) (by omega) (by omega) ?_
    refine lv_istore (lv' := [(6, .int x137), (0, .ref a0), (1, va_rf rl1), (2, va_rf rl2), (3, va_rf rl3), (4, va_rf rl4), (5, .int xl5)]) C.1.1 C.1.2.1 dL_law_1629 hl (by decide) rfl (fun ls hl => ?_)
    refine ql_aload_n (r := rl2) C dL_law_1631 rfl (lv_at hl 3 rfl) ?_
    refine ql_aload_n (r := (some a0)) C dL_law_1632 rfl (lv_at hl 1 rfl) ?_
    refine lv_iload C.1.1 C.1.2.1 dL_law_1633 (lv_at hl 6 rfl) ?_
    refine lv_iconst (v := (1 : Int32)) C.1.1 C.1.2.1 dL_law_1635 (by decide) ?_
    refine lv_iadd C.1.1 C.1.2.1 dL_law_1636 ?_
    refine ql_sld C S hX w.1 dL_law_1637 ?_
    replace w := w.2
    refine ql_aload_n (r := (some a0)) C dL_law_1638 rfl (lv_at hl 1 rfl) ?_
    refine lv_iload C.1.1 C.1.2.1 dL_law_1639 (lv_at hl 6 rfl) ?_
    refine lv_iconst (v := (2 : Int32)) C.1.1 C.1.2.1 dL_law_1641 (by decide) ?_
    refine lv_iadd C.1.1 C.1.2.1 dL_law_1642 ?_
    refine ql_sld C S hX w.1 dL_law_1643 ?_
    replace w := w.2
    refine ql_VI (As := [.int (xs9 (xl5 + (1 : Int32)).toNatClampNeg), .int (xs9 (xl5 + (2 : Int32)).toNatClampNeg)]) (rest := []) C S htab hlocks hl qy_X12_lengthOn qi_X12_lengthOn qs_X12_lengthOn gw_1923 (ci := 13) rfl w (fun b w => qm_X12_lengthOn l hl9 D _ b (xs9 (xl5 + (1 : Int32)).toNatClampNeg) (xs9 (xl5 + (2 : Int32)).toNatClampNeg) _ _ w) rfl ⟨Nat.le_of_ble_eq_true rfl, Nat.le_of_ble_eq_true rfl⟩ ⟨rfl, rfl⟩ (by exact Nat.le_of_ble_eq_true rfl) (fun b e9 => by cases e9; rfl) dL_law_1644 ⟨(by show _ ≤ (603072 : Nat); omega), (by show _ ≤ (7190633 : Nat); omega)⟩ ⟨(by show _ ≤ (603072 : Nat); omega), (by show _ ≤ (7190633 : Nat); omega)⟩ (fun x138 h H locs S w => ?_)
    refine W.cs (cells' := (1034 + (513 - (n + 1)) * 21)) (slots' := (15212 + (513 - (n + 1)) * 5126)) (by omega) (by omega) ?_
    refine lv_istore (lv' := [(7, .int x138), (6, .int x137), (0, .ref a0), (1, va_rf rl1), (2, va_rf rl2), (3, va_rf rl3), (4, va_rf rl4), (5, .int xl5)]) C.1.1 C.1.2.1 dL_law_1647 hl (by decide) rfl (fun ls hl => ?_)
    refine ql_aload_n (r := rl2) C dL_law_1649 rfl (lv_at hl 4 rfl) ?_
    refine ql_VI (As := []) (rest := []) C S htab hlocks hl qy_X12_thrown qi_X12_thrown qs_X12_thrown gw_1727 (ci := 13) rfl w (fun b w => qm_X12_thrown l hl9 D _ b _ _ w) rfl ⟨Nat.le_of_ble_eq_true rfl, Nat.le_of_ble_eq_true rfl⟩ ⟨rfl, rfl⟩ (by exact Nat.le_of_ble_eq_true rfl) (fun b e9 => by cases e9; rfl) dL_law_1650 ⟨(by show _ ≤ (603072 : Nat); omega), (by show _ ≤ (7190633 : Nat); omega)⟩ ⟨(by show _ ≤ (603072 : Nat); omega), (by show _ ≤ (7190633 : Nat); omega)⟩ (fun x140 h H locs S w => ?_)
    refine W.cs (cells' := (1034 + (513 - (n + 1)) * 21)) (slots' := (15212 + (513 - (n + 1)) * 5126)) (by omega) (by omega) ?_
    refine lv_iload C.1.1 C.1.2.1 dL_law_1653 (lv_at hl 1 rfl) ?_
    refine lv_icmp_eq (tgt := 1660) C.1.1 C.1.2.1 dL_law_1655 (by decide) (fun c9 => ?_) (fun c9 => ?_)
    · replace w := ql_if w c9
      refine lv_iload C.1.1 C.1.2.1 dL_law_1660 (lv_at hl 1 rfl) ?_
      refine lv_if_ne (tgt := 1677) C.1.1 C.1.2.1 dL_law_1662 (by decide) (fun c9 => ?_) (fun c9 => ?_)
      · replace w := ql_ifn w c9
        exact hB1677 n hn9 k28 hk28 rl1 rl2 rl3 rl4 xl5 _ _ _ _ S (lv_sub hl [2, 3, 4, 5, 6, 7] rfl) w
      · replace w := ql_if w c9
        refine ql_aload_n (r := rl3) C dL_law_1665 rfl (lv_at hl 5 rfl) ?_
        refine lv_iconst (v := (0 : Int32)) C.1.1 C.1.2.1 dL_law_1666 (by decide) ?_
        refine ql_lald C S dL_law_1667 w (fun j142 w => ?_)
        refine lv_iload C.1.1 C.1.2.1 dL_law_1668 (lv_at hl 0 rfl) ?_
        refine lv_i2l C.1.1 C.1.2.1 dL_law_1670 rfl ?_
        refine W.lcmp C.1.1 C.1.2.1 dL_law_1671 ?_
        refine lv_if_eq (tgt := 1677) C.1.1 C.1.2.1 dL_law_1672 (by decide) (fun c9 => ?_) (fun c9 => ?_)
        · replace w := ql_if w c9
          exact hB1677 n hn9 k28 hk28 rl1 rl2 rl3 rl4 xl5 _ _ _ _ S (lv_sub hl [2, 3, 4, 5, 6, 7] rfl) w
        · replace w := ql_ifn w c9
          refine lv_iconst (v := (0 : Int32)) C.1.1 C.1.2.1 dL_law_1675 (by decide) ?_
          exact ql_zret C S hr hlocks dL_law_1676 ⟨(by show _ ≤ (603072 : Nat); omega), (by show _ ≤ (7190633 : Nat); omega)⟩ w
    · replace w := ql_ifn w c9
      refine lv_iconst (v := (0 : Int32)) C.1.1 C.1.2.1 dL_law_1658 (by decide) ?_
      exact ql_zret C S hr hlocks dL_law_1659 ⟨(by show _ ≤ (603072 : Nat); omega), (by show _ ≤ (7190633 : Nat); omega)⟩ w
  have hB1757 : ∀ n : Nat, n + 1 ≤ 513 → ∀ (k28 : Option Nat → Option Nat → Option Nat → Option Nat → Int32 → ql_H → Prop) (hk28 : ∀ (rl1 : Option Nat) (rl2 : Option Nat) (rl3 : Option Nat) (rl4 : Option Nat) (xl5 : Int32) (h : ql_H) (H : Heap) (locs : List Loc) (ls : Array Slot), ql_S D h0 s H locs h → lv_has ls 9 [(0, .ref a0), (1, va_rf rl1), (2, va_rf rl2), (3, va_rf rl3), (4, va_rf rl4), (5, .int xl5)] → k28 rl1 rl2 rl3 rl4 xl5 h → W p l e ({ frames := 2048, cells := 603072, slots := 7190633, locals := 94400 } : Room) s m ([.ref a0] : List Value).toArray below meth c H locs (1032 + (513 - n) * 21) (15200 + (513 - n) * 5126) (vx_MQ below (ql_Q D h0 (ql_rI Q)) (ql_X D h0 X) ([.ref a0] : List Value).toArray s 603072 7190633 (ql_A h0)) (F0 m 28 ls [])) , ∀ (rl1 : Option Nat) (rl2 : Option Nat) (rl3 : Option Nat) (rl4 : Option Nat) (xl5 : Int32) (h : ql_H) (H : Heap) (locs : List Loc) (ls : Array Slot), ql_S D h0 s H locs h → lv_has ls 9 [(0, .ref a0), (1, va_rf rl1), (2, va_rf rl2), (3, va_rf rl3), (4, va_rf rl4), (5, .int xl5)] → qw_L_law_1757 D.2 L9 xs9 a0 Q X k28 rl1 rl2 rl3 rl4 xl5 h → W p l e ({ frames := 2048, cells := 603072, slots := 7190633, locals := 94400 } : Room) s m ([.ref a0] : List Value).toArray below meth c H locs (1035 + (513 - (n + 1)) * 21) (15218 + (513 - (n + 1)) * 5126) (vx_MQ below (ql_Q D h0 (ql_rI Q)) (ql_X D h0 X) ([.ref a0] : List Value).toArray s 603072 7190633 (ql_A h0)) (F0 m 1757 ls []) := by
    intro n hn9 k28 hk28 rl1 rl2 rl3 rl4 xl5 h H locs ls S hl w
    unfold qw_L_law_1757 at w
    refine lv_goto (tgt := 2957) C.1.1 C.1.2.1 dL_law_1757 (by decide) ?_
    refine W.cs (cells' := (1053 + (513 - (n + 1)) * 21)) (slots' := (20326 + (513 - (n + 1)) * 5126)) (by omega) (by omega) ?_
    exact hB2957 n hn9 k28 hk28 rl1 rl2 rl3 rl4 xl5 _ _ _ _ S (lv_sub hl [0, 1, 2, 3, 4, 5] rfl) w
  have hB1680 : ∀ n : Nat, n + 1 ≤ 513 → ∀ (k28 : Option Nat → Option Nat → Option Nat → Option Nat → Int32 → ql_H → Prop) (hk28 : ∀ (rl1 : Option Nat) (rl2 : Option Nat) (rl3 : Option Nat) (rl4 : Option Nat) (xl5 : Int32) (h : ql_H) (H : Heap) (locs : List Loc) (ls : Array Slot), ql_S D h0 s H locs h → lv_has ls 9 [(0, .ref a0), (1, va_rf rl1), (2, va_rf rl2), (3, va_rf rl3), (4, va_rf rl4), (5, .int xl5)] → k28 rl1 rl2 rl3 rl4 xl5 h → W p l e ({ frames := 2048, cells := 603072, slots := 7190633, locals := 94400 } : Room) s m ([.ref a0] : List Value).toArray below meth c H locs (1032 + (513 - n) * 21) (15200 + (513 - n) * 5126) (vx_MQ below (ql_Q D h0 (ql_rI Q)) (ql_X D h0 X) ([.ref a0] : List Value).toArray s 603072 7190633 (ql_A h0)) (F0 m 28 ls [])) , ∀ (rl1 : Option Nat) (rl2 : Option Nat) (rl3 : Option Nat) (rl4 : Option Nat) (xl5 : Int32) (h : ql_H) (H : Heap) (locs : List Loc) (ls : Array Slot), ql_S D h0 s H locs h → lv_has ls 9 [(0, .ref a0), (1, va_rf rl1), (2, va_rf rl2), (3, va_rf rl3), (4, va_rf rl4), (5, .int xl5)] → qw_L_law_1680 D.2 L9 xs9 a0 Q X k28 rl1 rl2 rl3 rl4 xl5 h → W p l e ({ frames := 2048, cells := 603072, slots := 7190633, locals := 94400 } : Room) s m ([.ref a0] : List Value).toArray below meth c H locs (1032 + (513 - (n + 1)) * 21) (15200 + (513 - (n + 1)) * 5126) (vx_MQ below (ql_Q D h0 (ql_rI Q)) (ql_X D h0 X) ([.ref a0] : List Value).toArray s 603072 7190633 (ql_A h0)) (F0 m 1680 ls []) := by
    intro n hn9 k28 hk28 rl1 rl2 rl3 rl4 xl5 h H locs ls S hl w
    unfold qw_L_law_1680 at w
    refine ql_aload_n (r := rl1) C dL_law_1680 rfl (lv_at hl 1 rfl) ?_
    refine ql_aload_n (r := (some a0)) C dL_law_1681 rfl (lv_at hl 0 rfl) ?_
    refine lv_iload C.1.1 C.1.2.1 dL_law_1682 (lv_at hl 5 rfl) ?_
    refine lv_iconst (v := (1 : Int32)) C.1.1 C.1.2.1 dL_law_1684 (by decide) ?_
    refine lv_iadd C.1.1 C.1.2.1 dL_law_1685 ?_
    refine ql_sld C S hX w.1 dL_law_1686 ?_
    replace w := w.2
    refine ql_aload_n (r := (some a0)) C dL_law_1687 rfl (lv_at hl 0 rfl) ?_
    refine lv_iload C.1.1 C.1.2.1 dL_law_1688 (lv_at hl 5 rfl) ?_
    refine lv_iconst (v := (2 : Int32)) C.1.1 C.1.2.1 dL_law_1690 (by decide) ?_
    refine lv_iadd C.1.1 C.1.2.1 dL_law_1691 ?_
    refine ql_sld C S hX w.1 dL_law_1692 ?_
    replace w := w.2
    refine ql_aload_n (r := (some a0)) C dL_law_1693 rfl (lv_at hl 0 rfl) ?_
    refine lv_iload C.1.1 C.1.2.1 dL_law_1694 (lv_at hl 5 rfl) ?_
    refine lv_iconst (v := (3 : Int32)) C.1.1 C.1.2.1 dL_law_1696 (by decide) ?_
    refine lv_iadd C.1.1 C.1.2.1 dL_law_1697 ?_
    refine ql_sld C S hX w.1 dL_law_1698 ?_
    replace w := w.2
    refine ql_aload_n (r := rl3) C dL_law_1699 rfl (lv_at hl 3 rfl) ?_
    refine ql_SHI (As := [va_rf rl1, .int (xs9 (xl5 + (1 : Int32)).toNatClampNeg), .int (xs9 (xl5 + (2 : Int32)).toNatClampNeg), .int (xs9 (xl5 + (3 : Int32)).toNatClampNeg), va_rf rl3]) (rest := []) C S hl qyh_L_noteOn gw_1079 (qm_L_noteOn l hl9 D _ rl1 (xs9 (xl5 + (1 : Int32)).toNatClampNeg) (xs9 (xl5 + (2 : Int32)).toNatClampNeg) (xs9 (xl5 + (3 : Int32)).toNatClampNeg) rl3 _ _ w) rfl ⟨Nat.le_of_ble_eq_true rfl, Nat.le_of_ble_eq_true rfl⟩ ⟨rfl, rfl⟩ (by exact Nat.le_of_ble_eq_true rfl) rfl dL_law_1700 ⟨(by show _ ≤ (603072 : Nat); omega), (by show _ ≤ (7190633 : Nat); omega)⟩ (fun x143 h H locs S w => ?_)
    refine W.cs (cells' := (1035 + (513 - (n + 1)) * 21)) (slots' := (15218 + (513 - (n + 1)) * 5126)) (by omega) (by omega) ?_
    refine lv_istore (lv' := [(6, .int x143), (0, .ref a0), (1, va_rf rl1), (2, va_rf rl2), (3, va_rf rl3), (4, va_rf rl4), (5, .int xl5)]) C.1.1 C.1.2.1 dL_law_1703 hl (by decide) rfl (fun ls hl => ?_)
    refine ql_aload_n (r := rl2) C dL_law_1705 rfl (lv_at hl 3 rfl) ?_
    refine ql_aload_n (r := (some a0)) C dL_law_1706 rfl (lv_at hl 1 rfl) ?_
    refine lv_iload C.1.1 C.1.2.1 dL_law_1707 (lv_at hl 6 rfl) ?_
    refine lv_iconst (v := (1 : Int32)) C.1.1 C.1.2.1 dL_law_1709 (by decide) ?_
    refine lv_iadd C.1.1 C.1.2.1 dL_law_1710 ?_
    refine ql_sld C S hX w.1 dL_law_1711 ?_
    replace w := w.2
    refine ql_aload_n (r := (some a0)) C dL_law_1712 rfl (lv_at hl 1 rfl) ?_
    refine lv_iload C.1.1 C.1.2.1 dL_law_1713 (lv_at hl 6 rfl) ?_
    refine lv_iconst (v := (2 : Int32)) C.1.1 C.1.2.1 dL_law_1715 (by decide) ?_
    refine lv_iadd C.1.1 C.1.2.1 dL_law_1716 ?_
    refine ql_sld C S hX w.1 dL_law_1717 ?_
    replace w := w.2
    refine ql_aload_n (r := (some a0)) C dL_law_1718 rfl (lv_at hl 1 rfl) ?_
    refine lv_iload C.1.1 C.1.2.1 dL_law_1719 (lv_at hl 6 rfl) ?_
    refine lv_iconst (v := (3 : Int32)) C.1.1 C.1.2.1 dL_law_1721 (by decide) ?_
    refine lv_iadd C.1.1 C.1.2.1 dL_law_1722 ?_
    refine ql_sld C S hX w.1 dL_law_1723 ?_
    replace w := w.2
    refine ql_VI (As := [.int (xs9 (xl5 + (1 : Int32)).toNatClampNeg), .int (xs9 (xl5 + (2 : Int32)).toNatClampNeg), .int (xs9 (xl5 + (3 : Int32)).toNatClampNeg)]) (rest := []) C S htab hlocks hl qy_X12_noteOn qi_X12_noteOn qs_X12_noteOn gw_1935 (ci := 13) rfl w (fun b w => qm_X12_noteOn l hl9 D _ b (xs9 (xl5 + (1 : Int32)).toNatClampNeg) (xs9 (xl5 + (2 : Int32)).toNatClampNeg) (xs9 (xl5 + (3 : Int32)).toNatClampNeg) _ _ w) rfl ⟨Nat.le_of_ble_eq_true rfl, Nat.le_of_ble_eq_true rfl⟩ ⟨rfl, rfl⟩ (by exact Nat.le_of_ble_eq_true rfl) (fun b e9 => by cases e9; rfl) dL_law_1724 ⟨(by show _ ≤ (603072 : Nat); omega), (by show _ ≤ (7190633 : Nat); omega)⟩ ⟨(by show _ ≤ (603072 : Nat); omega), (by show _ ≤ (7190633 : Nat); omega)⟩ (fun x144 h H locs S w => ?_)
    refine W.cs (cells' := (1035 + (513 - (n + 1)) * 21)) (slots' := (15218 + (513 - (n + 1)) * 5126)) (by omega) (by omega) ?_
    refine lv_istore (lv' := [(7, .int x144), (6, .int x143), (0, .ref a0), (1, va_rf rl1), (2, va_rf rl2), (3, va_rf rl3), (4, va_rf rl4), (5, .int xl5)]) C.1.1 C.1.2.1 dL_law_1727 hl (by decide) rfl (fun ls hl => ?_)
    refine ql_aload_n (r := rl2) C dL_law_1729 rfl (lv_at hl 4 rfl) ?_
    refine ql_VI (As := []) (rest := []) C S htab hlocks hl qy_X12_thrown qi_X12_thrown qs_X12_thrown gw_1727 (ci := 13) rfl w (fun b w => qm_X12_thrown l hl9 D _ b _ _ w) rfl ⟨Nat.le_of_ble_eq_true rfl, Nat.le_of_ble_eq_true rfl⟩ ⟨rfl, rfl⟩ (by exact Nat.le_of_ble_eq_true rfl) (fun b e9 => by cases e9; rfl) dL_law_1730 ⟨(by show _ ≤ (603072 : Nat); omega), (by show _ ≤ (7190633 : Nat); omega)⟩ ⟨(by show _ ≤ (603072 : Nat); omega), (by show _ ≤ (7190633 : Nat); omega)⟩ (fun x146 h H locs S w => ?_)
    refine W.cs (cells' := (1035 + (513 - (n + 1)) * 21)) (slots' := (15218 + (513 - (n + 1)) * 5126)) (by omega) (by omega) ?_
    refine lv_iload C.1.1 C.1.2.1 dL_law_1733 (lv_at hl 1 rfl) ?_
    refine lv_icmp_eq (tgt := 1740) C.1.1 C.1.2.1 dL_law_1735 (by decide) (fun c9 => ?_) (fun c9 => ?_)
    · replace w := ql_if w c9
      refine lv_iload C.1.1 C.1.2.1 dL_law_1740 (lv_at hl 1 rfl) ?_
      refine lv_if_ne (tgt := 1757) C.1.1 C.1.2.1 dL_law_1742 (by decide) (fun c9 => ?_) (fun c9 => ?_)
      · replace w := ql_ifn w c9
        exact hB1757 n hn9 k28 hk28 rl1 rl2 rl3 rl4 xl5 _ _ _ _ S (lv_sub hl [2, 3, 4, 5, 6, 7] rfl) w
      · replace w := ql_if w c9
        refine ql_aload_n (r := rl3) C dL_law_1745 rfl (lv_at hl 5 rfl) ?_
        refine lv_iconst (v := (0 : Int32)) C.1.1 C.1.2.1 dL_law_1746 (by decide) ?_
        refine ql_lald C S dL_law_1747 w (fun j148 w => ?_)
        refine lv_iload C.1.1 C.1.2.1 dL_law_1748 (lv_at hl 0 rfl) ?_
        refine lv_i2l C.1.1 C.1.2.1 dL_law_1750 rfl ?_
        refine W.lcmp C.1.1 C.1.2.1 dL_law_1751 ?_
        refine lv_if_eq (tgt := 1757) C.1.1 C.1.2.1 dL_law_1752 (by decide) (fun c9 => ?_) (fun c9 => ?_)
        · replace w := ql_if w c9
          exact hB1757 n hn9 k28 hk28 rl1 rl2 rl3 rl4 xl5 _ _ _ _ S (lv_sub hl [2, 3, 4, 5, 6, 7] rfl) w
        · replace w := ql_ifn w c9
          refine lv_iconst (v := (0 : Int32)) C.1.1 C.1.2.1 dL_law_1755 (by decide) ?_
          exact ql_zret C S hr hlocks dL_law_1756 ⟨(by show _ ≤ (603072 : Nat); omega), (by show _ ≤ (7190633 : Nat); omega)⟩ w
    · replace w := ql_ifn w c9
      refine lv_iconst (v := (0 : Int32)) C.1.1 C.1.2.1 dL_law_1738 (by decide) ?_
      exact ql_zret C S hr hlocks dL_law_1739 ⟨(by show _ ≤ (603072 : Nat); omega), (by show _ ≤ (7190633 : Nat); omega)⟩ w
  have hB1837 : ∀ n : Nat, n + 1 ≤ 513 → ∀ (k28 : Option Nat → Option Nat → Option Nat → Option Nat → Int32 → ql_H → Prop) (hk28 : ∀ (rl1 : Option Nat) (rl2 : Option Nat) (rl3 : Option Nat) (rl4 : Option Nat) (xl5 : Int32) (h : ql_H) (H : Heap) (locs : List Loc) (ls : Array Slot), ql_S D h0 s H locs h → lv_has ls 9 [(0, .ref a0), (1, va_rf rl1), (2, va_rf rl2), (3, va_rf rl3), (4, va_rf rl4), (5, .int xl5)] → k28 rl1 rl2 rl3 rl4 xl5 h → W p l e ({ frames := 2048, cells := 603072, slots := 7190633, locals := 94400 } : Room) s m ([.ref a0] : List Value).toArray below meth c H locs (1032 + (513 - n) * 21) (15200 + (513 - n) * 5126) (vx_MQ below (ql_Q D h0 (ql_rI Q)) (ql_X D h0 X) ([.ref a0] : List Value).toArray s 603072 7190633 (ql_A h0)) (F0 m 28 ls [])) , ∀ (rl1 : Option Nat) (rl2 : Option Nat) (rl3 : Option Nat) (rl4 : Option Nat) (xl5 : Int32) (h : ql_H) (H : Heap) (locs : List Loc) (ls : Array Slot), ql_S D h0 s H locs h → lv_has ls 9 [(0, .ref a0), (1, va_rf rl1), (2, va_rf rl2), (3, va_rf rl3), (4, va_rf rl4), (5, .int xl5)] → qw_L_law_1837 D.2 L9 xs9 a0 Q X k28 rl1 rl2 rl3 rl4 xl5 h → W p l e ({ frames := 2048, cells := 603072, slots := 7190633, locals := 94400 } : Room) s m ([.ref a0] : List Value).toArray below meth c H locs (1035 + (513 - (n + 1)) * 21) (15218 + (513 - (n + 1)) * 5126) (vx_MQ below (ql_Q D h0 (ql_rI Q)) (ql_X D h0 X) ([.ref a0] : List Value).toArray s 603072 7190633 (ql_A h0)) (F0 m 1837 ls []) := by
    intro n hn9 k28 hk28 rl1 rl2 rl3 rl4 xl5 h H locs ls S hl w
    unfold qw_L_law_1837 at w
    refine lv_goto (tgt := 2957) C.1.1 C.1.2.1 dL_law_1837 (by decide) ?_
    refine W.cs (cells' := (1053 + (513 - (n + 1)) * 21)) (slots' := (20326 + (513 - (n + 1)) * 5126)) (by omega) (by omega) ?_
    exact hB2957 n hn9 k28 hk28 rl1 rl2 rl3 rl4 xl5 _ _ _ _ S (lv_sub hl [0, 1, 2, 3, 4, 5] rfl) w
  have hB1760 : ∀ n : Nat, n + 1 ≤ 513 → ∀ (k28 : Option Nat → Option Nat → Option Nat → Option Nat → Int32 → ql_H → Prop) (hk28 : ∀ (rl1 : Option Nat) (rl2 : Option Nat) (rl3 : Option Nat) (rl4 : Option Nat) (xl5 : Int32) (h : ql_H) (H : Heap) (locs : List Loc) (ls : Array Slot), ql_S D h0 s H locs h → lv_has ls 9 [(0, .ref a0), (1, va_rf rl1), (2, va_rf rl2), (3, va_rf rl3), (4, va_rf rl4), (5, .int xl5)] → k28 rl1 rl2 rl3 rl4 xl5 h → W p l e ({ frames := 2048, cells := 603072, slots := 7190633, locals := 94400 } : Room) s m ([.ref a0] : List Value).toArray below meth c H locs (1032 + (513 - n) * 21) (15200 + (513 - n) * 5126) (vx_MQ below (ql_Q D h0 (ql_rI Q)) (ql_X D h0 X) ([.ref a0] : List Value).toArray s 603072 7190633 (ql_A h0)) (F0 m 28 ls [])) , ∀ (rl1 : Option Nat) (rl2 : Option Nat) (rl3 : Option Nat) (rl4 : Option Nat) (xl5 : Int32) (h : ql_H) (H : Heap) (locs : List Loc) (ls : Array Slot), ql_S D h0 s H locs h → lv_has ls 9 [(0, .ref a0), (1, va_rf rl1), (2, va_rf rl2), (3, va_rf rl3), (4, va_rf rl4), (5, .int xl5)] → qw_L_law_1760 D.2 L9 xs9 a0 Q X k28 rl1 rl2 rl3 rl4 xl5 h → W p l e ({ frames := 2048, cells := 603072, slots := 7190633, locals := 94400 } : Room) s m ([.ref a0] : List Value).toArray below meth c H locs (1032 + (513 - (n + 1)) * 21) (15200 + (513 - (n + 1)) * 5126) (vx_MQ below (ql_Q D h0 (ql_rI Q)) (ql_X D h0 X) ([.ref a0] : List Value).toArray s 603072 7190633 (ql_A h0)) (F0 m 1760 ls []) := by
    intro n hn9 k28 hk28 rl1 rl2 rl3 rl4 xl5 h H locs ls S hl w
    unfold qw_L_law_1760 at w
    refine ql_aload_n (r := rl1) C dL_law_1760 rfl (lv_at hl 1 rfl) ?_
    refine ql_aload_n (r := (some a0)) C dL_law_1761 rfl (lv_at hl 0 rfl) ?_
    refine lv_iload C.1.1 C.1.2.1 dL_law_1762 (lv_at hl 5 rfl) ?_
    refine lv_iconst (v := (1 : Int32)) C.1.1 C.1.2.1 dL_law_1764 (by decide) ?_
    refine lv_iadd C.1.1 C.1.2.1 dL_law_1765 ?_
    refine ql_sld C S hX w.1 dL_law_1766 ?_
    replace w := w.2
    refine ql_aload_n (r := (some a0)) C dL_law_1767 rfl (lv_at hl 0 rfl) ?_
    refine lv_iload C.1.1 C.1.2.1 dL_law_1768 (lv_at hl 5 rfl) ?_
    refine lv_iconst (v := (2 : Int32)) C.1.1 C.1.2.1 dL_law_1770 (by decide) ?_
    refine lv_iadd C.1.1 C.1.2.1 dL_law_1771 ?_
    refine ql_sld C S hX w.1 dL_law_1772 ?_
    replace w := w.2
    refine ql_aload_n (r := (some a0)) C dL_law_1773 rfl (lv_at hl 0 rfl) ?_
    refine lv_iload C.1.1 C.1.2.1 dL_law_1774 (lv_at hl 5 rfl) ?_
    refine lv_iconst (v := (3 : Int32)) C.1.1 C.1.2.1 dL_law_1776 (by decide) ?_
    refine lv_iadd C.1.1 C.1.2.1 dL_law_1777 ?_
    refine ql_sld C S hX w.1 dL_law_1778 ?_
    replace w := w.2
    refine ql_aload_n (r := rl3) C dL_law_1779 rfl (lv_at hl 3 rfl) ?_
    refine ql_SHI (As := [va_rf rl1, .int (xs9 (xl5 + (1 : Int32)).toNatClampNeg), .int (xs9 (xl5 + (2 : Int32)).toNatClampNeg), .int (xs9 (xl5 + (3 : Int32)).toNatClampNeg), va_rf rl3]) (rest := []) C S hl qyh_L_difference gw_1086 (qm_L_difference l hl9 D _ rl1 (xs9 (xl5 + (1 : Int32)).toNatClampNeg) (xs9 (xl5 + (2 : Int32)).toNatClampNeg) (xs9 (xl5 + (3 : Int32)).toNatClampNeg) rl3 _ _ w) rfl ⟨Nat.le_of_ble_eq_true rfl, Nat.le_of_ble_eq_true rfl⟩ ⟨rfl, rfl⟩ (by exact Nat.le_of_ble_eq_true rfl) rfl dL_law_1780 ⟨(by show _ ≤ (603072 : Nat); omega), (by show _ ≤ (7190633 : Nat); omega)⟩ (fun x149 h H locs S w => ?_)
    refine W.cs (cells' := (1035 + (513 - (n + 1)) * 21)) (slots' := (15218 + (513 - (n + 1)) * 5126)) (by omega) (by omega) ?_
    refine lv_istore (lv' := [(6, .int x149), (0, .ref a0), (1, va_rf rl1), (2, va_rf rl2), (3, va_rf rl3), (4, va_rf rl4), (5, .int xl5)]) C.1.1 C.1.2.1 dL_law_1783 hl (by decide) rfl (fun ls hl => ?_)
    refine ql_aload_n (r := rl2) C dL_law_1785 rfl (lv_at hl 3 rfl) ?_
    refine ql_aload_n (r := (some a0)) C dL_law_1786 rfl (lv_at hl 1 rfl) ?_
    refine lv_iload C.1.1 C.1.2.1 dL_law_1787 (lv_at hl 6 rfl) ?_
    refine lv_iconst (v := (1 : Int32)) C.1.1 C.1.2.1 dL_law_1789 (by decide) ?_
    refine lv_iadd C.1.1 C.1.2.1 dL_law_1790 ?_
    refine ql_sld C S hX w.1 dL_law_1791 ?_
    replace w := w.2
    refine ql_aload_n (r := (some a0)) C dL_law_1792 rfl (lv_at hl 1 rfl) ?_
    refine lv_iload C.1.1 C.1.2.1 dL_law_1793 (lv_at hl 6 rfl) ?_
    refine lv_iconst (v := (2 : Int32)) C.1.1 C.1.2.1 dL_law_1795 (by decide) ?_
    refine lv_iadd C.1.1 C.1.2.1 dL_law_1796 ?_
    refine ql_sld C S hX w.1 dL_law_1797 ?_
    replace w := w.2
    refine ql_aload_n (r := (some a0)) C dL_law_1798 rfl (lv_at hl 1 rfl) ?_
    refine lv_iload C.1.1 C.1.2.1 dL_law_1799 (lv_at hl 6 rfl) ?_
    refine lv_iconst (v := (3 : Int32)) C.1.1 C.1.2.1 dL_law_1801 (by decide) ?_
    refine lv_iadd C.1.1 C.1.2.1 dL_law_1802 ?_
    refine ql_sld C S hX w.1 dL_law_1803 ?_
    replace w := w.2
    refine ql_VI (As := [.int (xs9 (xl5 + (1 : Int32)).toNatClampNeg), .int (xs9 (xl5 + (2 : Int32)).toNatClampNeg), .int (xs9 (xl5 + (3 : Int32)).toNatClampNeg)]) (rest := []) C S htab hlocks hl qy_X12_difference qi_X12_difference qs_X12_difference gw_1939 (ci := 13) rfl w (fun b w => qm_X12_difference l hl9 D _ b (xs9 (xl5 + (1 : Int32)).toNatClampNeg) (xs9 (xl5 + (2 : Int32)).toNatClampNeg) (xs9 (xl5 + (3 : Int32)).toNatClampNeg) _ _ w) rfl ⟨Nat.le_of_ble_eq_true rfl, Nat.le_of_ble_eq_true rfl⟩ ⟨rfl, rfl⟩ (by exact Nat.le_of_ble_eq_true rfl) (fun b e9 => by cases e9; rfl) dL_law_1804 ⟨(by show _ ≤ (603072 : Nat); omega), (by show _ ≤ (7190633 : Nat); omega)⟩ ⟨(by show _ ≤ (603072 : Nat); omega), (by show _ ≤ (7190633 : Nat); omega)⟩ (fun x150 h H locs S w => ?_)
    refine W.cs (cells' := (1035 + (513 - (n + 1)) * 21)) (slots' := (15218 + (513 - (n + 1)) * 5126)) (by omega) (by omega) ?_
    refine lv_istore (lv' := [(7, .int x150), (6, .int x149), (0, .ref a0), (1, va_rf rl1), (2, va_rf rl2), (3, va_rf rl3), (4, va_rf rl4), (5, .int xl5)]) C.1.1 C.1.2.1 dL_law_1807 hl (by decide) rfl (fun ls hl => ?_)
    refine ql_aload_n (r := rl2) C dL_law_1809 rfl (lv_at hl 4 rfl) ?_
    refine ql_VI (As := []) (rest := []) C S htab hlocks hl qy_X12_thrown qi_X12_thrown qs_X12_thrown gw_1727 (ci := 13) rfl w (fun b w => qm_X12_thrown l hl9 D _ b _ _ w) rfl ⟨Nat.le_of_ble_eq_true rfl, Nat.le_of_ble_eq_true rfl⟩ ⟨rfl, rfl⟩ (by exact Nat.le_of_ble_eq_true rfl) (fun b e9 => by cases e9; rfl) dL_law_1810 ⟨(by show _ ≤ (603072 : Nat); omega), (by show _ ≤ (7190633 : Nat); omega)⟩ ⟨(by show _ ≤ (603072 : Nat); omega), (by show _ ≤ (7190633 : Nat); omega)⟩ (fun x152 h H locs S w => ?_)
    refine W.cs (cells' := (1035 + (513 - (n + 1)) * 21)) (slots' := (15218 + (513 - (n + 1)) * 5126)) (by omega) (by omega) ?_
    refine lv_iload C.1.1 C.1.2.1 dL_law_1813 (lv_at hl 1 rfl) ?_
    refine lv_icmp_eq (tgt := 1820) C.1.1 C.1.2.1 dL_law_1815 (by decide) (fun c9 => ?_) (fun c9 => ?_)
    · replace w := ql_if w c9
      refine lv_iload C.1.1 C.1.2.1 dL_law_1820 (lv_at hl 1 rfl) ?_
      refine lv_if_ne (tgt := 1837) C.1.1 C.1.2.1 dL_law_1822 (by decide) (fun c9 => ?_) (fun c9 => ?_)
      · replace w := ql_ifn w c9
        exact hB1837 n hn9 k28 hk28 rl1 rl2 rl3 rl4 xl5 _ _ _ _ S (lv_sub hl [2, 3, 4, 5, 6, 7] rfl) w
      · replace w := ql_if w c9
        refine ql_aload_n (r := rl3) C dL_law_1825 rfl (lv_at hl 5 rfl) ?_
        refine lv_iconst (v := (0 : Int32)) C.1.1 C.1.2.1 dL_law_1826 (by decide) ?_
        refine ql_lald C S dL_law_1827 w (fun j154 w => ?_)
        refine lv_iload C.1.1 C.1.2.1 dL_law_1828 (lv_at hl 0 rfl) ?_
        refine lv_i2l C.1.1 C.1.2.1 dL_law_1830 rfl ?_
        refine W.lcmp C.1.1 C.1.2.1 dL_law_1831 ?_
        refine lv_if_eq (tgt := 1837) C.1.1 C.1.2.1 dL_law_1832 (by decide) (fun c9 => ?_) (fun c9 => ?_)
        · replace w := ql_if w c9
          exact hB1837 n hn9 k28 hk28 rl1 rl2 rl3 rl4 xl5 _ _ _ _ S (lv_sub hl [2, 3, 4, 5, 6, 7] rfl) w
        · replace w := ql_ifn w c9
          refine lv_iconst (v := (0 : Int32)) C.1.1 C.1.2.1 dL_law_1835 (by decide) ?_
          exact ql_zret C S hr hlocks dL_law_1836 ⟨(by show _ ≤ (603072 : Nat); omega), (by show _ ≤ (7190633 : Nat); omega)⟩ w
    · replace w := ql_ifn w c9
      refine lv_iconst (v := (0 : Int32)) C.1.1 C.1.2.1 dL_law_1818 (by decide) ?_
      exact ql_zret C S hr hlocks dL_law_1819 ⟨(by show _ ≤ (603072 : Nat); omega), (by show _ ≤ (7190633 : Nat); omega)⟩ w
  have hB1917 : ∀ n : Nat, n + 1 ≤ 513 → ∀ (k28 : Option Nat → Option Nat → Option Nat → Option Nat → Int32 → ql_H → Prop) (hk28 : ∀ (rl1 : Option Nat) (rl2 : Option Nat) (rl3 : Option Nat) (rl4 : Option Nat) (xl5 : Int32) (h : ql_H) (H : Heap) (locs : List Loc) (ls : Array Slot), ql_S D h0 s H locs h → lv_has ls 9 [(0, .ref a0), (1, va_rf rl1), (2, va_rf rl2), (3, va_rf rl3), (4, va_rf rl4), (5, .int xl5)] → k28 rl1 rl2 rl3 rl4 xl5 h → W p l e ({ frames := 2048, cells := 603072, slots := 7190633, locals := 94400 } : Room) s m ([.ref a0] : List Value).toArray below meth c H locs (1032 + (513 - n) * 21) (15200 + (513 - n) * 5126) (vx_MQ below (ql_Q D h0 (ql_rI Q)) (ql_X D h0 X) ([.ref a0] : List Value).toArray s 603072 7190633 (ql_A h0)) (F0 m 28 ls [])) , ∀ (rl1 : Option Nat) (rl2 : Option Nat) (rl3 : Option Nat) (rl4 : Option Nat) (xl5 : Int32) (h : ql_H) (H : Heap) (locs : List Loc) (ls : Array Slot), ql_S D h0 s H locs h → lv_has ls 9 [(0, .ref a0), (1, va_rf rl1), (2, va_rf rl2), (3, va_rf rl3), (4, va_rf rl4), (5, .int xl5)] → qw_L_law_1917 D.2 L9 xs9 a0 Q X k28 rl1 rl2 rl3 rl4 xl5 h → W p l e ({ frames := 2048, cells := 603072, slots := 7190633, locals := 94400 } : Room) s m ([.ref a0] : List Value).toArray below meth c H locs (1035 + (513 - (n + 1)) * 21) (15218 + (513 - (n + 1)) * 5126) (vx_MQ below (ql_Q D h0 (ql_rI Q)) (ql_X D h0 X) ([.ref a0] : List Value).toArray s 603072 7190633 (ql_A h0)) (F0 m 1917 ls []) := by
    intro n hn9 k28 hk28 rl1 rl2 rl3 rl4 xl5 h H locs ls S hl w
    unfold qw_L_law_1917 at w
    refine lv_goto (tgt := 2957) C.1.1 C.1.2.1 dL_law_1917 (by decide) ?_
    refine W.cs (cells' := (1053 + (513 - (n + 1)) * 21)) (slots' := (20326 + (513 - (n + 1)) * 5126)) (by omega) (by omega) ?_
    exact hB2957 n hn9 k28 hk28 rl1 rl2 rl3 rl4 xl5 _ _ _ _ S (lv_sub hl [0, 1, 2, 3, 4, 5] rfl) w
  have hB1840 : ∀ n : Nat, n + 1 ≤ 513 → ∀ (k28 : Option Nat → Option Nat → Option Nat → Option Nat → Int32 → ql_H → Prop) (hk28 : ∀ (rl1 : Option Nat) (rl2 : Option Nat) (rl3 : Option Nat) (rl4 : Option Nat) (xl5 : Int32) (h : ql_H) (H : Heap) (locs : List Loc) (ls : Array Slot), ql_S D h0 s H locs h → lv_has ls 9 [(0, .ref a0), (1, va_rf rl1), (2, va_rf rl2), (3, va_rf rl3), (4, va_rf rl4), (5, .int xl5)] → k28 rl1 rl2 rl3 rl4 xl5 h → W p l e ({ frames := 2048, cells := 603072, slots := 7190633, locals := 94400 } : Room) s m ([.ref a0] : List Value).toArray below meth c H locs (1032 + (513 - n) * 21) (15200 + (513 - n) * 5126) (vx_MQ below (ql_Q D h0 (ql_rI Q)) (ql_X D h0 X) ([.ref a0] : List Value).toArray s 603072 7190633 (ql_A h0)) (F0 m 28 ls [])) , ∀ (rl1 : Option Nat) (rl2 : Option Nat) (rl3 : Option Nat) (rl4 : Option Nat) (xl5 : Int32) (h : ql_H) (H : Heap) (locs : List Loc) (ls : Array Slot), ql_S D h0 s H locs h → lv_has ls 9 [(0, .ref a0), (1, va_rf rl1), (2, va_rf rl2), (3, va_rf rl3), (4, va_rf rl4), (5, .int xl5)] → qw_L_law_1840 D.2 L9 xs9 a0 Q X k28 rl1 rl2 rl3 rl4 xl5 h → W p l e ({ frames := 2048, cells := 603072, slots := 7190633, locals := 94400 } : Room) s m ([.ref a0] : List Value).toArray below meth c H locs (1032 + (513 - (n + 1)) * 21) (15200 + (513 - (n + 1)) * 5126) (vx_MQ below (ql_Q D h0 (ql_rI Q)) (ql_X D h0 X) ([.ref a0] : List Value).toArray s 603072 7190633 (ql_A h0)) (F0 m 1840 ls []) := by
    intro n hn9 k28 hk28 rl1 rl2 rl3 rl4 xl5 h H locs ls S hl w
    unfold qw_L_law_1840 at w
    refine ql_aload_n (r := rl1) C dL_law_1840 rfl (lv_at hl 1 rfl) ?_
    refine ql_aload_n (r := (some a0)) C dL_law_1841 rfl (lv_at hl 0 rfl) ?_
    refine lv_iload C.1.1 C.1.2.1 dL_law_1842 (lv_at hl 5 rfl) ?_
    refine lv_iconst (v := (1 : Int32)) C.1.1 C.1.2.1 dL_law_1844 (by decide) ?_
    refine lv_iadd C.1.1 C.1.2.1 dL_law_1845 ?_
    refine ql_sld C S hX w.1 dL_law_1846 ?_
    replace w := w.2
    refine ql_aload_n (r := (some a0)) C dL_law_1847 rfl (lv_at hl 0 rfl) ?_
    refine lv_iload C.1.1 C.1.2.1 dL_law_1848 (lv_at hl 5 rfl) ?_
    refine lv_iconst (v := (2 : Int32)) C.1.1 C.1.2.1 dL_law_1850 (by decide) ?_
    refine lv_iadd C.1.1 C.1.2.1 dL_law_1851 ?_
    refine ql_sld C S hX w.1 dL_law_1852 ?_
    replace w := w.2
    refine ql_aload_n (r := (some a0)) C dL_law_1853 rfl (lv_at hl 0 rfl) ?_
    refine lv_iload C.1.1 C.1.2.1 dL_law_1854 (lv_at hl 5 rfl) ?_
    refine lv_iconst (v := (3 : Int32)) C.1.1 C.1.2.1 dL_law_1856 (by decide) ?_
    refine lv_iadd C.1.1 C.1.2.1 dL_law_1857 ?_
    refine ql_sld C S hX w.1 dL_law_1858 ?_
    replace w := w.2
    refine ql_aload_n (r := rl3) C dL_law_1859 rfl (lv_at hl 3 rfl) ?_
    refine ql_SHI (As := [va_rf rl1, .int (xs9 (xl5 + (1 : Int32)).toNatClampNeg), .int (xs9 (xl5 + (2 : Int32)).toNatClampNeg), .int (xs9 (xl5 + (3 : Int32)).toNatClampNeg), va_rf rl3]) (rest := []) C S hl qyh_L_differenceByEnds gw_1093 (qm_L_differenceByEnds l hl9 D _ rl1 (xs9 (xl5 + (1 : Int32)).toNatClampNeg) (xs9 (xl5 + (2 : Int32)).toNatClampNeg) (xs9 (xl5 + (3 : Int32)).toNatClampNeg) rl3 _ _ w) rfl ⟨Nat.le_of_ble_eq_true rfl, Nat.le_of_ble_eq_true rfl⟩ ⟨rfl, rfl⟩ (by exact Nat.le_of_ble_eq_true rfl) rfl dL_law_1860 ⟨(by show _ ≤ (603072 : Nat); omega), (by show _ ≤ (7190633 : Nat); omega)⟩ (fun x155 h H locs S w => ?_)
    refine W.cs (cells' := (1035 + (513 - (n + 1)) * 21)) (slots' := (15218 + (513 - (n + 1)) * 5126)) (by omega) (by omega) ?_
    refine lv_istore (lv' := [(6, .int x155), (0, .ref a0), (1, va_rf rl1), (2, va_rf rl2), (3, va_rf rl3), (4, va_rf rl4), (5, .int xl5)]) C.1.1 C.1.2.1 dL_law_1863 hl (by decide) rfl (fun ls hl => ?_)
    refine ql_aload_n (r := rl2) C dL_law_1865 rfl (lv_at hl 3 rfl) ?_
    refine ql_aload_n (r := (some a0)) C dL_law_1866 rfl (lv_at hl 1 rfl) ?_
    refine lv_iload C.1.1 C.1.2.1 dL_law_1867 (lv_at hl 6 rfl) ?_
    refine lv_iconst (v := (1 : Int32)) C.1.1 C.1.2.1 dL_law_1869 (by decide) ?_
    refine lv_iadd C.1.1 C.1.2.1 dL_law_1870 ?_
    refine ql_sld C S hX w.1 dL_law_1871 ?_
    replace w := w.2
    refine ql_aload_n (r := (some a0)) C dL_law_1872 rfl (lv_at hl 1 rfl) ?_
    refine lv_iload C.1.1 C.1.2.1 dL_law_1873 (lv_at hl 6 rfl) ?_
    refine lv_iconst (v := (2 : Int32)) C.1.1 C.1.2.1 dL_law_1875 (by decide) ?_
    refine lv_iadd C.1.1 C.1.2.1 dL_law_1876 ?_
    refine ql_sld C S hX w.1 dL_law_1877 ?_
    replace w := w.2
    refine ql_aload_n (r := (some a0)) C dL_law_1878 rfl (lv_at hl 1 rfl) ?_
    refine lv_iload C.1.1 C.1.2.1 dL_law_1879 (lv_at hl 6 rfl) ?_
    refine lv_iconst (v := (3 : Int32)) C.1.1 C.1.2.1 dL_law_1881 (by decide) ?_
    refine lv_iadd C.1.1 C.1.2.1 dL_law_1882 ?_
    refine ql_sld C S hX w.1 dL_law_1883 ?_
    replace w := w.2
    refine ql_VI (As := [.int (xs9 (xl5 + (1 : Int32)).toNatClampNeg), .int (xs9 (xl5 + (2 : Int32)).toNatClampNeg), .int (xs9 (xl5 + (3 : Int32)).toNatClampNeg)]) (rest := []) C S htab hlocks hl qy_X12_differenceByEnds qi_X12_differenceByEnds qs_X12_differenceByEnds gw_1947 (ci := 13) rfl w (fun b w => qm_X12_differenceByEnds l hl9 D _ b (xs9 (xl5 + (1 : Int32)).toNatClampNeg) (xs9 (xl5 + (2 : Int32)).toNatClampNeg) (xs9 (xl5 + (3 : Int32)).toNatClampNeg) _ _ w) rfl ⟨Nat.le_of_ble_eq_true rfl, Nat.le_of_ble_eq_true rfl⟩ ⟨rfl, rfl⟩ (by exact Nat.le_of_ble_eq_true rfl) (fun b e9 => by cases e9; rfl) dL_law_1884 ⟨(by show _ ≤ (603072 : Nat); omega), (by show _ ≤ (7190633 : Nat); omega)⟩ ⟨(by show _ ≤ (603072 : Nat); omega), (by show _ ≤ (7190633 : Nat); omega)⟩ (fun x156 h H locs S w => ?_)
    refine W.cs (cells' := (1035 + (513 - (n + 1)) * 21)) (slots' := (15218 + (513 - (n + 1)) * 5126)) (by omega) (by omega) ?_
    refine lv_istore (lv' := [(7, .int x156), (6, .int x155), (0, .ref a0), (1, va_rf rl1), (2, va_rf rl2), (3, va_rf rl3), (4, va_rf rl4), (5, .int xl5)]) C.1.1 C.1.2.1 dL_law_1887 hl (by decide) rfl (fun ls hl => ?_)
    refine ql_aload_n (r := rl2) C dL_law_1889 rfl (lv_at hl 4 rfl) ?_
    refine ql_VI (As := []) (rest := []) C S htab hlocks hl qy_X12_thrown qi_X12_thrown qs_X12_thrown gw_1727 (ci := 13) rfl w (fun b w => qm_X12_thrown l hl9 D _ b _ _ w) rfl ⟨Nat.le_of_ble_eq_true rfl, Nat.le_of_ble_eq_true rfl⟩ ⟨rfl, rfl⟩ (by exact Nat.le_of_ble_eq_true rfl) (fun b e9 => by cases e9; rfl) dL_law_1890 ⟨(by show _ ≤ (603072 : Nat); omega), (by show _ ≤ (7190633 : Nat); omega)⟩ ⟨(by show _ ≤ (603072 : Nat); omega), (by show _ ≤ (7190633 : Nat); omega)⟩ (fun x158 h H locs S w => ?_)
    refine W.cs (cells' := (1035 + (513 - (n + 1)) * 21)) (slots' := (15218 + (513 - (n + 1)) * 5126)) (by omega) (by omega) ?_
    refine lv_iload C.1.1 C.1.2.1 dL_law_1893 (lv_at hl 1 rfl) ?_
    refine lv_icmp_eq (tgt := 1900) C.1.1 C.1.2.1 dL_law_1895 (by decide) (fun c9 => ?_) (fun c9 => ?_)
    · replace w := ql_if w c9
      refine lv_iload C.1.1 C.1.2.1 dL_law_1900 (lv_at hl 1 rfl) ?_
      refine lv_if_ne (tgt := 1917) C.1.1 C.1.2.1 dL_law_1902 (by decide) (fun c9 => ?_) (fun c9 => ?_)
      · replace w := ql_ifn w c9
        exact hB1917 n hn9 k28 hk28 rl1 rl2 rl3 rl4 xl5 _ _ _ _ S (lv_sub hl [2, 3, 4, 5, 6, 7] rfl) w
      · replace w := ql_if w c9
        refine ql_aload_n (r := rl3) C dL_law_1905 rfl (lv_at hl 5 rfl) ?_
        refine lv_iconst (v := (0 : Int32)) C.1.1 C.1.2.1 dL_law_1906 (by decide) ?_
        refine ql_lald C S dL_law_1907 w (fun j160 w => ?_)
        refine lv_iload C.1.1 C.1.2.1 dL_law_1908 (lv_at hl 0 rfl) ?_
        refine lv_i2l C.1.1 C.1.2.1 dL_law_1910 rfl ?_
        refine W.lcmp C.1.1 C.1.2.1 dL_law_1911 ?_
        refine lv_if_eq (tgt := 1917) C.1.1 C.1.2.1 dL_law_1912 (by decide) (fun c9 => ?_) (fun c9 => ?_)
        · replace w := ql_if w c9
          exact hB1917 n hn9 k28 hk28 rl1 rl2 rl3 rl4 xl5 _ _ _ _ S (lv_sub hl [2, 3, 4, 5, 6, 7] rfl) w
        · replace w := ql_ifn w c9
          refine lv_iconst (v := (0 : Int32)) C.1.1 C.1.2.1 dL_law_1915 (by decide) ?_
          exact ql_zret C S hr hlocks dL_law_1916 ⟨(by show _ ≤ (603072 : Nat); omega), (by show _ ≤ (7190633 : Nat); omega)⟩ w
    · replace w := ql_ifn w c9
      refine lv_iconst (v := (0 : Int32)) C.1.1 C.1.2.1 dL_law_1898 (by decide) ?_
      exact ql_zret C S hr hlocks dL_law_1899 ⟨(by show _ ≤ (603072 : Nat); omega), (by show _ ≤ (7190633 : Nat); omega)⟩ w
  have hB1920 : ∀ n : Nat, n + 1 ≤ 513 → ∀ (k28 : Option Nat → Option Nat → Option Nat → Option Nat → Int32 → ql_H → Prop) (hk28 : ∀ (rl1 : Option Nat) (rl2 : Option Nat) (rl3 : Option Nat) (rl4 : Option Nat) (xl5 : Int32) (h : ql_H) (H : Heap) (locs : List Loc) (ls : Array Slot), ql_S D h0 s H locs h → lv_has ls 9 [(0, .ref a0), (1, va_rf rl1), (2, va_rf rl2), (3, va_rf rl3), (4, va_rf rl4), (5, .int xl5)] → k28 rl1 rl2 rl3 rl4 xl5 h → W p l e ({ frames := 2048, cells := 603072, slots := 7190633, locals := 94400 } : Room) s m ([.ref a0] : List Value).toArray below meth c H locs (1032 + (513 - n) * 21) (15200 + (513 - n) * 5126) (vx_MQ below (ql_Q D h0 (ql_rI Q)) (ql_X D h0 X) ([.ref a0] : List Value).toArray s 603072 7190633 (ql_A h0)) (F0 m 28 ls [])) , ∀ (rl1 : Option Nat) (rl2 : Option Nat) (rl3 : Option Nat) (rl4 : Option Nat) (xl5 : Int32) (h : ql_H) (H : Heap) (locs : List Loc) (ls : Array Slot), ql_S D h0 s H locs h → lv_has ls 9 [(0, .ref a0), (1, va_rf rl1), (2, va_rf rl2), (3, va_rf rl3), (4, va_rf rl4), (5, .int xl5)] → qw_L_law_1920 D.2 L9 xs9 a0 Q X k28 rl1 rl2 rl3 rl4 xl5 h → W p l e ({ frames := 2048, cells := 603072, slots := 7190633, locals := 94400 } : Room) s m ([.ref a0] : List Value).toArray below meth c H locs (1032 + (513 - (n + 1)) * 21) (15200 + (513 - (n + 1)) * 5126) (vx_MQ below (ql_Q D h0 (ql_rI Q)) (ql_X D h0 X) ([.ref a0] : List Value).toArray s 603072 7190633 (ql_A h0)) (F0 m 1920 ls []) := by
    intro n hn9 k28 hk28 rl1 rl2 rl3 rl4 xl5 h H locs ls S hl w
    unfold qw_L_law_1920 at w
    refine ql_aload_n (r := rl1) C dL_law_1920 rfl (lv_at hl 1 rfl) ?_
    refine ql_VI (As := []) (rest := []) C S htab hlocks hl qy_X11_duplicatePairs qi_X11_duplicatePairs qs_X11_duplicatePairs gw_649 (ci := 12) rfl w (fun b w => qm_X11_duplicatePairs l hl9 D _ b _ _ w) rfl ⟨Nat.le_of_ble_eq_true rfl, Nat.le_of_ble_eq_true rfl⟩ ⟨rfl, rfl⟩ (by exact Nat.le_of_ble_eq_true rfl) (fun b e9 => by cases e9; rfl) dL_law_1921 ⟨(by show _ ≤ (603072 : Nat); omega), (by show _ ≤ (7190633 : Nat); omega)⟩ ⟨(by show _ ≤ (603072 : Nat); omega), (by show _ ≤ (7190633 : Nat); omega)⟩ (fun x161 h H locs S w => ?_)
    refine W.cs (cells' := (1032 + (513 - (n + 1)) * 21)) (slots' := (15200 + (513 - (n + 1)) * 5126)) (by omega) (by omega) ?_
    refine ql_aload_n (r := rl2) C dL_law_1924 rfl (lv_at hl 2 rfl) ?_
    refine ql_VI (As := []) (rest := [.int x161]) C S htab hlocks hl qy_X12_duplicatePairs qi_X12_duplicatePairs qs_X12_duplicatePairs gw_1951 (ci := 13) rfl w (fun b w => qm_X12_duplicatePairs l hl9 D _ b _ _ w) rfl ⟨Nat.le_of_ble_eq_true rfl, Nat.le_of_ble_eq_true rfl⟩ ⟨rfl, rfl⟩ (by exact Nat.le_of_ble_eq_true rfl) (fun b e9 => by cases e9; rfl) dL_law_1925 ⟨(by show _ ≤ (603072 : Nat); omega), (by show _ ≤ (7190633 : Nat); omega)⟩ ⟨(by show _ ≤ (603072 : Nat); omega), (by show _ ≤ (7190633 : Nat); omega)⟩ (fun x163 h H locs S w => ?_)
    refine W.cs (cells' := (1032 + (513 - (n + 1)) * 21)) (slots' := (15200 + (513 - (n + 1)) * 5126)) (by omega) (by omega) ?_
    refine lv_icmp_eq (tgt := 2957) C.1.1 C.1.2.1 dL_law_1928 (by decide) (fun c9 => ?_) (fun c9 => ?_)
    · replace w := ql_if w c9
      refine W.cs (cells' := (1053 + (513 - (n + 1)) * 21)) (slots' := (20326 + (513 - (n + 1)) * 5126)) (by omega) (by omega) ?_
      exact hB2957 n hn9 k28 hk28 rl1 rl2 rl3 rl4 xl5 _ _ _ _ S (lv_sub hl [0, 1, 2, 3, 4, 5] rfl) w
    · replace w := ql_ifn w c9
      refine lv_iconst (v := (0 : Int32)) C.1.1 C.1.2.1 dL_law_1931 (by decide) ?_
      exact ql_zret C S hr hlocks dL_law_1932 ⟨(by show _ ≤ (603072 : Nat); omega), (by show _ ≤ (7190633 : Nat); omega)⟩ w
  have hB1933 : ∀ n : Nat, n + 1 ≤ 513 → ∀ (k28 : Option Nat → Option Nat → Option Nat → Option Nat → Int32 → ql_H → Prop) (hk28 : ∀ (rl1 : Option Nat) (rl2 : Option Nat) (rl3 : Option Nat) (rl4 : Option Nat) (xl5 : Int32) (h : ql_H) (H : Heap) (locs : List Loc) (ls : Array Slot), ql_S D h0 s H locs h → lv_has ls 9 [(0, .ref a0), (1, va_rf rl1), (2, va_rf rl2), (3, va_rf rl3), (4, va_rf rl4), (5, .int xl5)] → k28 rl1 rl2 rl3 rl4 xl5 h → W p l e ({ frames := 2048, cells := 603072, slots := 7190633, locals := 94400 } : Room) s m ([.ref a0] : List Value).toArray below meth c H locs (1032 + (513 - n) * 21) (15200 + (513 - n) * 5126) (vx_MQ below (ql_Q D h0 (ql_rI Q)) (ql_X D h0 X) ([.ref a0] : List Value).toArray s 603072 7190633 (ql_A h0)) (F0 m 28 ls [])) , ∀ (rl1 : Option Nat) (rl2 : Option Nat) (rl3 : Option Nat) (rl4 : Option Nat) (xl5 : Int32) (h : ql_H) (H : Heap) (locs : List Loc) (ls : Array Slot), ql_S D h0 s H locs h → lv_has ls 9 [(0, .ref a0), (1, va_rf rl1), (2, va_rf rl2), (3, va_rf rl3), (4, va_rf rl4), (5, .int xl5)] → qw_L_law_1933 D.2 L9 xs9 a0 Q X k28 rl1 rl2 rl3 rl4 xl5 h → W p l e ({ frames := 2048, cells := 603072, slots := 7190633, locals := 94400 } : Room) s m ([.ref a0] : List Value).toArray below meth c H locs (1032 + (513 - (n + 1)) * 21) (15200 + (513 - (n + 1)) * 5126) (vx_MQ below (ql_Q D h0 (ql_rI Q)) (ql_X D h0 X) ([.ref a0] : List Value).toArray s 603072 7190633 (ql_A h0)) (F0 m 1933 ls []) := by
    intro n hn9 k28 hk28 rl1 rl2 rl3 rl4 xl5 h H locs ls S hl w
    unfold qw_L_law_1933 at w
    refine ql_aload_n (r := rl1) C dL_law_1933 rfl (lv_at hl 1 rfl) ?_
    refine ql_VI (As := []) (rest := []) C S htab hlocks hl qy_X11_duplicatePairsByComparing qi_X11_duplicatePairsByComparing qs_X11_duplicatePairsByComparing gw_666 (ci := 12) rfl w (fun b w => qm_X11_duplicatePairsByComparing l hl9 D _ b _ _ w) rfl ⟨Nat.le_of_ble_eq_true rfl, Nat.le_of_ble_eq_true rfl⟩ ⟨rfl, rfl⟩ (by exact Nat.le_of_ble_eq_true rfl) (fun b e9 => by cases e9; rfl) dL_law_1934 ⟨(by show _ ≤ (603072 : Nat); omega), (by show _ ≤ (7190633 : Nat); omega)⟩ ⟨(by show _ ≤ (603072 : Nat); omega), (by show _ ≤ (7190633 : Nat); omega)⟩ (fun x165 h H locs S w => ?_)
    refine W.cs (cells' := (1032 + (513 - (n + 1)) * 21)) (slots' := (15200 + (513 - (n + 1)) * 5126)) (by omega) (by omega) ?_
    refine ql_aload_n (r := rl2) C dL_law_1937 rfl (lv_at hl 2 rfl) ?_
    refine ql_VI (As := []) (rest := [.int x165]) C S htab hlocks hl qy_X12_duplicatePairsByComparing qi_X12_duplicatePairsByComparing qs_X12_duplicatePairsByComparing gw_1963 (ci := 13) rfl w (fun b w => qm_X12_duplicatePairsByComparing l hl9 D _ b _ _ w) rfl ⟨Nat.le_of_ble_eq_true rfl, Nat.le_of_ble_eq_true rfl⟩ ⟨rfl, rfl⟩ (by exact Nat.le_of_ble_eq_true rfl) (fun b e9 => by cases e9; rfl) dL_law_1938 ⟨(by show _ ≤ (603072 : Nat); omega), (by show _ ≤ (7190633 : Nat); omega)⟩ ⟨(by show _ ≤ (603072 : Nat); omega), (by show _ ≤ (7190633 : Nat); omega)⟩ (fun x167 h H locs S w => ?_)
    refine W.cs (cells' := (1032 + (513 - (n + 1)) * 21)) (slots' := (15200 + (513 - (n + 1)) * 5126)) (by omega) (by omega) ?_
    refine lv_icmp_eq (tgt := 2957) C.1.1 C.1.2.1 dL_law_1941 (by decide) (fun c9 => ?_) (fun c9 => ?_)
    · replace w := ql_if w c9
      refine W.cs (cells' := (1053 + (513 - (n + 1)) * 21)) (slots' := (20326 + (513 - (n + 1)) * 5126)) (by omega) (by omega) ?_
      exact hB2957 n hn9 k28 hk28 rl1 rl2 rl3 rl4 xl5 _ _ _ _ S (lv_sub hl [0, 1, 2, 3, 4, 5] rfl) w
    · replace w := ql_ifn w c9
      refine lv_iconst (v := (0 : Int32)) C.1.1 C.1.2.1 dL_law_1944 (by decide) ?_
      exact ql_zret C S hr hlocks dL_law_1945 ⟨(by show _ ≤ (603072 : Nat); omega), (by show _ ≤ (7190633 : Nat); omega)⟩ w
  have hB1999 : ∀ n : Nat, n + 1 ≤ 513 → ∀ (k28 : Option Nat → Option Nat → Option Nat → Option Nat → Int32 → ql_H → Prop) (hk28 : ∀ (rl1 : Option Nat) (rl2 : Option Nat) (rl3 : Option Nat) (rl4 : Option Nat) (xl5 : Int32) (h : ql_H) (H : Heap) (locs : List Loc) (ls : Array Slot), ql_S D h0 s H locs h → lv_has ls 9 [(0, .ref a0), (1, va_rf rl1), (2, va_rf rl2), (3, va_rf rl3), (4, va_rf rl4), (5, .int xl5)] → k28 rl1 rl2 rl3 rl4 xl5 h → W p l e ({ frames := 2048, cells := 603072, slots := 7190633, locals := 94400 } : Room) s m ([.ref a0] : List Value).toArray below meth c H locs (1032 + (513 - n) * 21) (15200 + (513 - n) * 5126) (vx_MQ below (ql_Q D h0 (ql_rI Q)) (ql_X D h0 X) ([.ref a0] : List Value).toArray s 603072 7190633 (ql_A h0)) (F0 m 28 ls [])) , ∀ (rl1 : Option Nat) (rl2 : Option Nat) (rl3 : Option Nat) (rl4 : Option Nat) (xl5 : Int32) (h : ql_H) (H : Heap) (locs : List Loc) (ls : Array Slot), ql_S D h0 s H locs h → lv_has ls 9 [(0, .ref a0), (1, va_rf rl1), (2, va_rf rl2), (3, va_rf rl3), (4, va_rf rl4), (5, .int xl5)] → qw_L_law_1999 D.2 L9 xs9 a0 Q X k28 rl1 rl2 rl3 rl4 xl5 h → W p l e ({ frames := 2048, cells := 603072, slots := 7190633, locals := 94400 } : Room) s m ([.ref a0] : List Value).toArray below meth c H locs (1033 + (513 - (n + 1)) * 21) (15206 + (513 - (n + 1)) * 5126) (vx_MQ below (ql_Q D h0 (ql_rI Q)) (ql_X D h0 X) ([.ref a0] : List Value).toArray s 603072 7190633 (ql_A h0)) (F0 m 1999 ls []) := by
    intro n hn9 k28 hk28 rl1 rl2 rl3 rl4 xl5 h H locs ls S hl w
    unfold qw_L_law_1999 at w
    refine lv_goto (tgt := 2957) C.1.1 C.1.2.1 dL_law_1999 (by decide) ?_
    refine W.cs (cells' := (1053 + (513 - (n + 1)) * 21)) (slots' := (20326 + (513 - (n + 1)) * 5126)) (by omega) (by omega) ?_
    exact hB2957 n hn9 k28 hk28 rl1 rl2 rl3 rl4 xl5 _ _ _ _ S (lv_sub hl [0, 1, 2, 3, 4, 5] rfl) w
  have hB1946 : ∀ n : Nat, n + 1 ≤ 513 → ∀ (k28 : Option Nat → Option Nat → Option Nat → Option Nat → Int32 → ql_H → Prop) (hk28 : ∀ (rl1 : Option Nat) (rl2 : Option Nat) (rl3 : Option Nat) (rl4 : Option Nat) (xl5 : Int32) (h : ql_H) (H : Heap) (locs : List Loc) (ls : Array Slot), ql_S D h0 s H locs h → lv_has ls 9 [(0, .ref a0), (1, va_rf rl1), (2, va_rf rl2), (3, va_rf rl3), (4, va_rf rl4), (5, .int xl5)] → k28 rl1 rl2 rl3 rl4 xl5 h → W p l e ({ frames := 2048, cells := 603072, slots := 7190633, locals := 94400 } : Room) s m ([.ref a0] : List Value).toArray below meth c H locs (1032 + (513 - n) * 21) (15200 + (513 - n) * 5126) (vx_MQ below (ql_Q D h0 (ql_rI Q)) (ql_X D h0 X) ([.ref a0] : List Value).toArray s 603072 7190633 (ql_A h0)) (F0 m 28 ls [])) , ∀ (rl1 : Option Nat) (rl2 : Option Nat) (rl3 : Option Nat) (rl4 : Option Nat) (xl5 : Int32) (h : ql_H) (H : Heap) (locs : List Loc) (ls : Array Slot), ql_S D h0 s H locs h → lv_has ls 9 [(0, .ref a0), (1, va_rf rl1), (2, va_rf rl2), (3, va_rf rl3), (4, va_rf rl4), (5, .int xl5)] → qw_L_law_1946 D.2 L9 xs9 a0 Q X k28 rl1 rl2 rl3 rl4 xl5 h → W p l e ({ frames := 2048, cells := 603072, slots := 7190633, locals := 94400 } : Room) s m ([.ref a0] : List Value).toArray below meth c H locs (1032 + (513 - (n + 1)) * 21) (15200 + (513 - (n + 1)) * 5126) (vx_MQ below (ql_Q D h0 (ql_rI Q)) (ql_X D h0 X) ([.ref a0] : List Value).toArray s 603072 7190633 (ql_A h0)) (F0 m 1946 ls []) := by
    intro n hn9 k28 hk28 rl1 rl2 rl3 rl4 xl5 h H locs ls S hl w
    unfold qw_L_law_1946 at w
    refine ql_aload_n (r := rl1) C dL_law_1946 rfl (lv_at hl 1 rfl) ?_
    refine ql_aload_n (r := (some a0)) C dL_law_1947 rfl (lv_at hl 0 rfl) ?_
    refine lv_iload C.1.1 C.1.2.1 dL_law_1948 (lv_at hl 5 rfl) ?_
    refine lv_iconst (v := (1 : Int32)) C.1.1 C.1.2.1 dL_law_1950 (by decide) ?_
    refine lv_iadd C.1.1 C.1.2.1 dL_law_1951 ?_
    refine ql_sld C S hX w.1 dL_law_1952 ?_
    replace w := w.2
    refine ql_aload_n (r := rl3) C dL_law_1953 rfl (lv_at hl 3 rfl) ?_
    refine ql_SHI (As := [va_rf rl1, .int (xs9 (xl5 + (1 : Int32)).toNatClampNeg), va_rf rl3]) (rest := []) C S hl qyh_L_citeCount gw_1100 (qm_L_citeCount l hl9 D _ rl1 (xs9 (xl5 + (1 : Int32)).toNatClampNeg) rl3 _ _ w) rfl ⟨Nat.le_of_ble_eq_true rfl, Nat.le_of_ble_eq_true rfl⟩ ⟨rfl, rfl⟩ (by exact Nat.le_of_ble_eq_true rfl) rfl dL_law_1954 ⟨(by show _ ≤ (603072 : Nat); omega), (by show _ ≤ (7190633 : Nat); omega)⟩ (fun x169 h H locs S w => ?_)
    refine W.cs (cells' := (1033 + (513 - (n + 1)) * 21)) (slots' := (15206 + (513 - (n + 1)) * 5126)) (by omega) (by omega) ?_
    refine lv_istore (lv' := [(6, .int x169), (0, .ref a0), (1, va_rf rl1), (2, va_rf rl2), (3, va_rf rl3), (4, va_rf rl4), (5, .int xl5)]) C.1.1 C.1.2.1 dL_law_1957 hl (by decide) rfl (fun ls hl => ?_)
    refine ql_aload_n (r := rl2) C dL_law_1959 rfl (lv_at hl 3 rfl) ?_
    refine ql_aload_n (r := (some a0)) C dL_law_1960 rfl (lv_at hl 1 rfl) ?_
    refine lv_iload C.1.1 C.1.2.1 dL_law_1961 (lv_at hl 6 rfl) ?_
    refine lv_iconst (v := (1 : Int32)) C.1.1 C.1.2.1 dL_law_1963 (by decide) ?_
    refine lv_iadd C.1.1 C.1.2.1 dL_law_1964 ?_
    refine ql_sld C S hX w.1 dL_law_1965 ?_
    replace w := w.2
    refine ql_VI (As := [.int (xs9 (xl5 + (1 : Int32)).toNatClampNeg)]) (rest := []) C S htab hlocks hl qy_X12_citeCount qi_X12_citeCount qs_X12_citeCount gw_1967 (ci := 13) rfl w (fun b w => qm_X12_citeCount l hl9 D _ b (xs9 (xl5 + (1 : Int32)).toNatClampNeg) _ _ w) rfl ⟨Nat.le_of_ble_eq_true rfl, Nat.le_of_ble_eq_true rfl⟩ ⟨rfl, rfl⟩ (by exact Nat.le_of_ble_eq_true rfl) (fun b e9 => by cases e9; rfl) dL_law_1966 ⟨(by show _ ≤ (603072 : Nat); omega), (by show _ ≤ (7190633 : Nat); omega)⟩ ⟨(by show _ ≤ (603072 : Nat); omega), (by show _ ≤ (7190633 : Nat); omega)⟩ (fun x170 h H locs S w => ?_)
    refine W.cs (cells' := (1033 + (513 - (n + 1)) * 21)) (slots' := (15206 + (513 - (n + 1)) * 5126)) (by omega) (by omega) ?_
    refine lv_istore (lv' := [(7, .int x170), (6, .int x169), (0, .ref a0), (1, va_rf rl1), (2, va_rf rl2), (3, va_rf rl3), (4, va_rf rl4), (5, .int xl5)]) C.1.1 C.1.2.1 dL_law_1969 hl (by decide) rfl (fun ls hl => ?_)
    refine ql_aload_n (r := rl2) C dL_law_1971 rfl (lv_at hl 4 rfl) ?_
    refine ql_VI (As := []) (rest := []) C S htab hlocks hl qy_X12_thrown qi_X12_thrown qs_X12_thrown gw_1727 (ci := 13) rfl w (fun b w => qm_X12_thrown l hl9 D _ b _ _ w) rfl ⟨Nat.le_of_ble_eq_true rfl, Nat.le_of_ble_eq_true rfl⟩ ⟨rfl, rfl⟩ (by exact Nat.le_of_ble_eq_true rfl) (fun b e9 => by cases e9; rfl) dL_law_1972 ⟨(by show _ ≤ (603072 : Nat); omega), (by show _ ≤ (7190633 : Nat); omega)⟩ ⟨(by show _ ≤ (603072 : Nat); omega), (by show _ ≤ (7190633 : Nat); omega)⟩ (fun x172 h H locs S w => ?_)
    refine W.cs (cells' := (1033 + (513 - (n + 1)) * 21)) (slots' := (15206 + (513 - (n + 1)) * 5126)) (by omega) (by omega) ?_
    refine lv_iload C.1.1 C.1.2.1 dL_law_1975 (lv_at hl 1 rfl) ?_
    refine lv_icmp_eq (tgt := 1982) C.1.1 C.1.2.1 dL_law_1977 (by decide) (fun c9 => ?_) (fun c9 => ?_)
    · replace w := ql_if w c9
      refine lv_iload C.1.1 C.1.2.1 dL_law_1982 (lv_at hl 1 rfl) ?_
      refine lv_if_ne (tgt := 1999) C.1.1 C.1.2.1 dL_law_1984 (by decide) (fun c9 => ?_) (fun c9 => ?_)
      · replace w := ql_ifn w c9
        exact hB1999 n hn9 k28 hk28 rl1 rl2 rl3 rl4 xl5 _ _ _ _ S (lv_sub hl [2, 3, 4, 5, 6, 7] rfl) w
      · replace w := ql_if w c9
        refine ql_aload_n (r := rl3) C dL_law_1987 rfl (lv_at hl 5 rfl) ?_
        refine lv_iconst (v := (0 : Int32)) C.1.1 C.1.2.1 dL_law_1988 (by decide) ?_
        refine ql_lald C S dL_law_1989 w (fun j174 w => ?_)
        refine lv_iload C.1.1 C.1.2.1 dL_law_1990 (lv_at hl 0 rfl) ?_
        refine lv_i2l C.1.1 C.1.2.1 dL_law_1992 rfl ?_
        refine W.lcmp C.1.1 C.1.2.1 dL_law_1993 ?_
        refine lv_if_eq (tgt := 1999) C.1.1 C.1.2.1 dL_law_1994 (by decide) (fun c9 => ?_) (fun c9 => ?_)
        · replace w := ql_if w c9
          exact hB1999 n hn9 k28 hk28 rl1 rl2 rl3 rl4 xl5 _ _ _ _ S (lv_sub hl [2, 3, 4, 5, 6, 7] rfl) w
        · replace w := ql_ifn w c9
          refine lv_iconst (v := (0 : Int32)) C.1.1 C.1.2.1 dL_law_1997 (by decide) ?_
          exact ql_zret C S hr hlocks dL_law_1998 ⟨(by show _ ≤ (603072 : Nat); omega), (by show _ ≤ (7190633 : Nat); omega)⟩ w
    · replace w := ql_ifn w c9
      refine lv_iconst (v := (0 : Int32)) C.1.1 C.1.2.1 dL_law_1980 (by decide) ?_
      exact ql_zret C S hr hlocks dL_law_1981 ⟨(by show _ ≤ (603072 : Nat); omega), (by show _ ≤ (7190633 : Nat); omega)⟩ w
  have hB2067 : ∀ n : Nat, n + 1 ≤ 513 → ∀ (k28 : Option Nat → Option Nat → Option Nat → Option Nat → Int32 → ql_H → Prop) (hk28 : ∀ (rl1 : Option Nat) (rl2 : Option Nat) (rl3 : Option Nat) (rl4 : Option Nat) (xl5 : Int32) (h : ql_H) (H : Heap) (locs : List Loc) (ls : Array Slot), ql_S D h0 s H locs h → lv_has ls 9 [(0, .ref a0), (1, va_rf rl1), (2, va_rf rl2), (3, va_rf rl3), (4, va_rf rl4), (5, .int xl5)] → k28 rl1 rl2 rl3 rl4 xl5 h → W p l e ({ frames := 2048, cells := 603072, slots := 7190633, locals := 94400 } : Room) s m ([.ref a0] : List Value).toArray below meth c H locs (1032 + (513 - n) * 21) (15200 + (513 - n) * 5126) (vx_MQ below (ql_Q D h0 (ql_rI Q)) (ql_X D h0 X) ([.ref a0] : List Value).toArray s 603072 7190633 (ql_A h0)) (F0 m 28 ls [])) , ∀ (rl1 : Option Nat) (rl2 : Option Nat) (rl3 : Option Nat) (rl4 : Option Nat) (xl5 : Int32) (h : ql_H) (H : Heap) (locs : List Loc) (ls : Array Slot), ql_S D h0 s H locs h → lv_has ls 9 [(0, .ref a0), (1, va_rf rl1), (2, va_rf rl2), (3, va_rf rl3), (4, va_rf rl4), (5, .int xl5)] → qw_L_law_2067 D.2 L9 xs9 a0 Q X k28 rl1 rl2 rl3 rl4 xl5 h → W p l e ({ frames := 2048, cells := 603072, slots := 7190633, locals := 94400 } : Room) s m ([.ref a0] : List Value).toArray below meth c H locs (1034 + (513 - (n + 1)) * 21) (15212 + (513 - (n + 1)) * 5126) (vx_MQ below (ql_Q D h0 (ql_rI Q)) (ql_X D h0 X) ([.ref a0] : List Value).toArray s 603072 7190633 (ql_A h0)) (F0 m 2067 ls []) := by
    intro n hn9 k28 hk28 rl1 rl2 rl3 rl4 xl5 h H locs ls S hl w
    unfold qw_L_law_2067 at w
    refine lv_goto (tgt := 2957) C.1.1 C.1.2.1 dL_law_2067 (by decide) ?_
    refine W.cs (cells' := (1053 + (513 - (n + 1)) * 21)) (slots' := (20326 + (513 - (n + 1)) * 5126)) (by omega) (by omega) ?_
    exact hB2957 n hn9 k28 hk28 rl1 rl2 rl3 rl4 xl5 _ _ _ _ S (lv_sub hl [0, 1, 2, 3, 4, 5] rfl) w
  have hB2002 : ∀ n : Nat, n + 1 ≤ 513 → ∀ (k28 : Option Nat → Option Nat → Option Nat → Option Nat → Int32 → ql_H → Prop) (hk28 : ∀ (rl1 : Option Nat) (rl2 : Option Nat) (rl3 : Option Nat) (rl4 : Option Nat) (xl5 : Int32) (h : ql_H) (H : Heap) (locs : List Loc) (ls : Array Slot), ql_S D h0 s H locs h → lv_has ls 9 [(0, .ref a0), (1, va_rf rl1), (2, va_rf rl2), (3, va_rf rl3), (4, va_rf rl4), (5, .int xl5)] → k28 rl1 rl2 rl3 rl4 xl5 h → W p l e ({ frames := 2048, cells := 603072, slots := 7190633, locals := 94400 } : Room) s m ([.ref a0] : List Value).toArray below meth c H locs (1032 + (513 - n) * 21) (15200 + (513 - n) * 5126) (vx_MQ below (ql_Q D h0 (ql_rI Q)) (ql_X D h0 X) ([.ref a0] : List Value).toArray s 603072 7190633 (ql_A h0)) (F0 m 28 ls [])) , ∀ (rl1 : Option Nat) (rl2 : Option Nat) (rl3 : Option Nat) (rl4 : Option Nat) (xl5 : Int32) (h : ql_H) (H : Heap) (locs : List Loc) (ls : Array Slot), ql_S D h0 s H locs h → lv_has ls 9 [(0, .ref a0), (1, va_rf rl1), (2, va_rf rl2), (3, va_rf rl3), (4, va_rf rl4), (5, .int xl5)] → qw_L_law_2002 D.2 L9 xs9 a0 Q X k28 rl1 rl2 rl3 rl4 xl5 h → W p l e ({ frames := 2048, cells := 603072, slots := 7190633, locals := 94400 } : Room) s m ([.ref a0] : List Value).toArray below meth c H locs (1032 + (513 - (n + 1)) * 21) (15200 + (513 - (n + 1)) * 5126) (vx_MQ below (ql_Q D h0 (ql_rI Q)) (ql_X D h0 X) ([.ref a0] : List Value).toArray s 603072 7190633 (ql_A h0)) (F0 m 2002 ls []) := by
    intro n hn9 k28 hk28 rl1 rl2 rl3 rl4 xl5 h H locs ls S hl w
    unfold qw_L_law_2002 at w
    refine ql_aload_n (r := rl1) C dL_law_2002 rfl (lv_at hl 1 rfl) ?_
    refine ql_aload_n (r := (some a0)) C dL_law_2003 rfl (lv_at hl 0 rfl) ?_
    refine lv_iload C.1.1 C.1.2.1 dL_law_2004 (lv_at hl 5 rfl) ?_
    refine lv_iconst (v := (1 : Int32)) C.1.1 C.1.2.1 dL_law_2006 (by decide) ?_
    refine lv_iadd C.1.1 C.1.2.1 dL_law_2007 ?_
    refine ql_sld C S hX w.1 dL_law_2008 ?_
    replace w := w.2
    refine ql_aload_n (r := (some a0)) C dL_law_2009 rfl (lv_at hl 0 rfl) ?_
    refine lv_iload C.1.1 C.1.2.1 dL_law_2010 (lv_at hl 5 rfl) ?_
    refine lv_iconst (v := (2 : Int32)) C.1.1 C.1.2.1 dL_law_2012 (by decide) ?_
    refine lv_iadd C.1.1 C.1.2.1 dL_law_2013 ?_
    refine ql_sld C S hX w.1 dL_law_2014 ?_
    replace w := w.2
    refine ql_aload_n (r := rl3) C dL_law_2015 rfl (lv_at hl 3 rfl) ?_
    refine ql_SHI (As := [va_rf rl1, .int (xs9 (xl5 + (1 : Int32)).toNatClampNeg), .int (xs9 (xl5 + (2 : Int32)).toNatClampNeg), va_rf rl3]) (rest := []) C S hl qyh_L_citeAt gw_1108 (qm_L_citeAt l hl9 D _ rl1 (xs9 (xl5 + (1 : Int32)).toNatClampNeg) (xs9 (xl5 + (2 : Int32)).toNatClampNeg) rl3 _ _ w) rfl ⟨Nat.le_of_ble_eq_true rfl, Nat.le_of_ble_eq_true rfl⟩ ⟨rfl, rfl⟩ (by exact Nat.le_of_ble_eq_true rfl) rfl dL_law_2016 ⟨(by show _ ≤ (603072 : Nat); omega), (by show _ ≤ (7190633 : Nat); omega)⟩ (fun x175 h H locs S w => ?_)
    refine W.cs (cells' := (1034 + (513 - (n + 1)) * 21)) (slots' := (15212 + (513 - (n + 1)) * 5126)) (by omega) (by omega) ?_
    refine lv_istore (lv' := [(6, .int x175), (0, .ref a0), (1, va_rf rl1), (2, va_rf rl2), (3, va_rf rl3), (4, va_rf rl4), (5, .int xl5)]) C.1.1 C.1.2.1 dL_law_2019 hl (by decide) rfl (fun ls hl => ?_)
    refine ql_aload_n (r := rl2) C dL_law_2021 rfl (lv_at hl 3 rfl) ?_
    refine ql_aload_n (r := (some a0)) C dL_law_2022 rfl (lv_at hl 1 rfl) ?_
    refine lv_iload C.1.1 C.1.2.1 dL_law_2023 (lv_at hl 6 rfl) ?_
    refine lv_iconst (v := (1 : Int32)) C.1.1 C.1.2.1 dL_law_2025 (by decide) ?_
    refine lv_iadd C.1.1 C.1.2.1 dL_law_2026 ?_
    refine ql_sld C S hX w.1 dL_law_2027 ?_
    replace w := w.2
    refine ql_aload_n (r := (some a0)) C dL_law_2028 rfl (lv_at hl 1 rfl) ?_
    refine lv_iload C.1.1 C.1.2.1 dL_law_2029 (lv_at hl 6 rfl) ?_
    refine lv_iconst (v := (2 : Int32)) C.1.1 C.1.2.1 dL_law_2031 (by decide) ?_
    refine lv_iadd C.1.1 C.1.2.1 dL_law_2032 ?_
    refine ql_sld C S hX w.1 dL_law_2033 ?_
    replace w := w.2
    refine ql_VI (As := [.int (xs9 (xl5 + (1 : Int32)).toNatClampNeg), .int (xs9 (xl5 + (2 : Int32)).toNatClampNeg)]) (rest := []) C S htab hlocks hl qy_X12_citeAt qi_X12_citeAt qs_X12_citeAt gw_1971 (ci := 13) rfl w (fun b w => qm_X12_citeAt l hl9 D _ b (xs9 (xl5 + (1 : Int32)).toNatClampNeg) (xs9 (xl5 + (2 : Int32)).toNatClampNeg) _ _ w) rfl ⟨Nat.le_of_ble_eq_true rfl, Nat.le_of_ble_eq_true rfl⟩ ⟨rfl, rfl⟩ (by exact Nat.le_of_ble_eq_true rfl) (fun b e9 => by cases e9; rfl) dL_law_2034 ⟨(by show _ ≤ (603072 : Nat); omega), (by show _ ≤ (7190633 : Nat); omega)⟩ ⟨(by show _ ≤ (603072 : Nat); omega), (by show _ ≤ (7190633 : Nat); omega)⟩ (fun x176 h H locs S w => ?_)
    refine W.cs (cells' := (1034 + (513 - (n + 1)) * 21)) (slots' := (15212 + (513 - (n + 1)) * 5126)) (by omega) (by omega) ?_
    refine lv_istore (lv' := [(7, .int x176), (6, .int x175), (0, .ref a0), (1, va_rf rl1), (2, va_rf rl2), (3, va_rf rl3), (4, va_rf rl4), (5, .int xl5)]) C.1.1 C.1.2.1 dL_law_2037 hl (by decide) rfl (fun ls hl => ?_)
    refine ql_aload_n (r := rl2) C dL_law_2039 rfl (lv_at hl 4 rfl) ?_
    refine ql_VI (As := []) (rest := []) C S htab hlocks hl qy_X12_thrown qi_X12_thrown qs_X12_thrown gw_1727 (ci := 13) rfl w (fun b w => qm_X12_thrown l hl9 D _ b _ _ w) rfl ⟨Nat.le_of_ble_eq_true rfl, Nat.le_of_ble_eq_true rfl⟩ ⟨rfl, rfl⟩ (by exact Nat.le_of_ble_eq_true rfl) (fun b e9 => by cases e9; rfl) dL_law_2040 ⟨(by show _ ≤ (603072 : Nat); omega), (by show _ ≤ (7190633 : Nat); omega)⟩ ⟨(by show _ ≤ (603072 : Nat); omega), (by show _ ≤ (7190633 : Nat); omega)⟩ (fun x178 h H locs S w => ?_)
    refine W.cs (cells' := (1034 + (513 - (n + 1)) * 21)) (slots' := (15212 + (513 - (n + 1)) * 5126)) (by omega) (by omega) ?_
    refine lv_iload C.1.1 C.1.2.1 dL_law_2043 (lv_at hl 1 rfl) ?_
    refine lv_icmp_eq (tgt := 2050) C.1.1 C.1.2.1 dL_law_2045 (by decide) (fun c9 => ?_) (fun c9 => ?_)
    · replace w := ql_if w c9
      refine lv_iload C.1.1 C.1.2.1 dL_law_2050 (lv_at hl 1 rfl) ?_
      refine lv_if_ne (tgt := 2067) C.1.1 C.1.2.1 dL_law_2052 (by decide) (fun c9 => ?_) (fun c9 => ?_)
      · replace w := ql_ifn w c9
        exact hB2067 n hn9 k28 hk28 rl1 rl2 rl3 rl4 xl5 _ _ _ _ S (lv_sub hl [2, 3, 4, 5, 6, 7] rfl) w
      · replace w := ql_if w c9
        refine ql_aload_n (r := rl3) C dL_law_2055 rfl (lv_at hl 5 rfl) ?_
        refine lv_iconst (v := (0 : Int32)) C.1.1 C.1.2.1 dL_law_2056 (by decide) ?_
        refine ql_lald C S dL_law_2057 w (fun j180 w => ?_)
        refine lv_iload C.1.1 C.1.2.1 dL_law_2058 (lv_at hl 0 rfl) ?_
        refine lv_i2l C.1.1 C.1.2.1 dL_law_2060 rfl ?_
        refine W.lcmp C.1.1 C.1.2.1 dL_law_2061 ?_
        refine lv_if_eq (tgt := 2067) C.1.1 C.1.2.1 dL_law_2062 (by decide) (fun c9 => ?_) (fun c9 => ?_)
        · replace w := ql_if w c9
          exact hB2067 n hn9 k28 hk28 rl1 rl2 rl3 rl4 xl5 _ _ _ _ S (lv_sub hl [2, 3, 4, 5, 6, 7] rfl) w
        · replace w := ql_ifn w c9
          refine lv_iconst (v := (0 : Int32)) C.1.1 C.1.2.1 dL_law_2065 (by decide) ?_
          exact ql_zret C S hr hlocks dL_law_2066 ⟨(by show _ ≤ (603072 : Nat); omega), (by show _ ≤ (7190633 : Nat); omega)⟩ w
    · replace w := ql_ifn w c9
      refine lv_iconst (v := (0 : Int32)) C.1.1 C.1.2.1 dL_law_2048 (by decide) ?_
      exact ql_zret C S hr hlocks dL_law_2049 ⟨(by show _ ≤ (603072 : Nat); omega), (by show _ ≤ (7190633 : Nat); omega)⟩ w
  have hB2070 : ∀ n : Nat, n + 1 ≤ 513 → ∀ (k28 : Option Nat → Option Nat → Option Nat → Option Nat → Int32 → ql_H → Prop) (hk28 : ∀ (rl1 : Option Nat) (rl2 : Option Nat) (rl3 : Option Nat) (rl4 : Option Nat) (xl5 : Int32) (h : ql_H) (H : Heap) (locs : List Loc) (ls : Array Slot), ql_S D h0 s H locs h → lv_has ls 9 [(0, .ref a0), (1, va_rf rl1), (2, va_rf rl2), (3, va_rf rl3), (4, va_rf rl4), (5, .int xl5)] → k28 rl1 rl2 rl3 rl4 xl5 h → W p l e ({ frames := 2048, cells := 603072, slots := 7190633, locals := 94400 } : Room) s m ([.ref a0] : List Value).toArray below meth c H locs (1032 + (513 - n) * 21) (15200 + (513 - n) * 5126) (vx_MQ below (ql_Q D h0 (ql_rI Q)) (ql_X D h0 X) ([.ref a0] : List Value).toArray s 603072 7190633 (ql_A h0)) (F0 m 28 ls [])) , ∀ (rl1 : Option Nat) (rl2 : Option Nat) (rl3 : Option Nat) (rl4 : Option Nat) (xl5 : Int32) (h : ql_H) (H : Heap) (locs : List Loc) (ls : Array Slot), ql_S D h0 s H locs h → lv_has ls 9 [(0, .ref a0), (1, va_rf rl1), (2, va_rf rl2), (3, va_rf rl3), (4, va_rf rl4), (5, .int xl5)] → qw_L_law_2070 D.2 L9 xs9 a0 Q X k28 rl1 rl2 rl3 rl4 xl5 h → W p l e ({ frames := 2048, cells := 603072, slots := 7190633, locals := 94400 } : Room) s m ([.ref a0] : List Value).toArray below meth c H locs (1032 + (513 - (n + 1)) * 21) (15200 + (513 - (n + 1)) * 5126) (vx_MQ below (ql_Q D h0 (ql_rI Q)) (ql_X D h0 X) ([.ref a0] : List Value).toArray s 603072 7190633 (ql_A h0)) (F0 m 2070 ls []) := by
    intro n hn9 k28 hk28 rl1 rl2 rl3 rl4 xl5 h H locs ls S hl w
    unfold qw_L_law_2070 at w
    refine ql_aload_n (r := rl1) C dL_law_2070 rfl (lv_at hl 1 rfl) ?_
    refine ql_VI (As := []) (rest := []) C S htab hlocks hl qy_X11_brokenCites qi_X11_brokenCites qs_X11_brokenCites gw_670 (ci := 12) rfl w (fun b w => qm_X11_brokenCites l hl9 D _ b _ _ w) rfl ⟨Nat.le_of_ble_eq_true rfl, Nat.le_of_ble_eq_true rfl⟩ ⟨rfl, rfl⟩ (by exact Nat.le_of_ble_eq_true rfl) (fun b e9 => by cases e9; rfl) dL_law_2071 ⟨(by show _ ≤ (603072 : Nat); omega), (by show _ ≤ (7190633 : Nat); omega)⟩ ⟨(by show _ ≤ (603072 : Nat); omega), (by show _ ≤ (7190633 : Nat); omega)⟩ (fun x181 h H locs S w => ?_)
    refine W.cs (cells' := (1032 + (513 - (n + 1)) * 21)) (slots' := (15200 + (513 - (n + 1)) * 5126)) (by omega) (by omega) ?_
    refine ql_aload_n (r := rl2) C dL_law_2074 rfl (lv_at hl 2 rfl) ?_
    refine ql_VI (As := []) (rest := [.int x181]) C S htab hlocks hl qy_X12_brokenCites qi_X12_brokenCites qs_X12_brokenCites gw_1975 (ci := 13) rfl w (fun b w => qm_X12_brokenCites l hl9 D _ b _ _ w) rfl ⟨Nat.le_of_ble_eq_true rfl, Nat.le_of_ble_eq_true rfl⟩ ⟨rfl, rfl⟩ (by exact Nat.le_of_ble_eq_true rfl) (fun b e9 => by cases e9; rfl) dL_law_2075 ⟨(by show _ ≤ (603072 : Nat); omega), (by show _ ≤ (7190633 : Nat); omega)⟩ ⟨(by show _ ≤ (603072 : Nat); omega), (by show _ ≤ (7190633 : Nat); omega)⟩ (fun x183 h H locs S w => ?_)
    refine W.cs (cells' := (1032 + (513 - (n + 1)) * 21)) (slots' := (15200 + (513 - (n + 1)) * 5126)) (by omega) (by omega) ?_
    refine lv_icmp_eq (tgt := 2957) C.1.1 C.1.2.1 dL_law_2078 (by decide) (fun c9 => ?_) (fun c9 => ?_)
    · replace w := ql_if w c9
      refine W.cs (cells' := (1053 + (513 - (n + 1)) * 21)) (slots' := (20326 + (513 - (n + 1)) * 5126)) (by omega) (by omega) ?_
      exact hB2957 n hn9 k28 hk28 rl1 rl2 rl3 rl4 xl5 _ _ _ _ S (lv_sub hl [0, 1, 2, 3, 4, 5] rfl) w
    · replace w := ql_ifn w c9
      refine lv_iconst (v := (0 : Int32)) C.1.1 C.1.2.1 dL_law_2081 (by decide) ?_
      exact ql_zret C S hr hlocks dL_law_2082 ⟨(by show _ ≤ (603072 : Nat); omega), (by show _ ≤ (7190633 : Nat); omega)⟩ w
  have hB2155 : ∀ n : Nat, n + 1 ≤ 513 → ∀ (k28 : Option Nat → Option Nat → Option Nat → Option Nat → Int32 → ql_H → Prop) (hk28 : ∀ (rl1 : Option Nat) (rl2 : Option Nat) (rl3 : Option Nat) (rl4 : Option Nat) (xl5 : Int32) (h : ql_H) (H : Heap) (locs : List Loc) (ls : Array Slot), ql_S D h0 s H locs h → lv_has ls 9 [(0, .ref a0), (1, va_rf rl1), (2, va_rf rl2), (3, va_rf rl3), (4, va_rf rl4), (5, .int xl5)] → k28 rl1 rl2 rl3 rl4 xl5 h → W p l e ({ frames := 2048, cells := 603072, slots := 7190633, locals := 94400 } : Room) s m ([.ref a0] : List Value).toArray below meth c H locs (1032 + (513 - n) * 21) (15200 + (513 - n) * 5126) (vx_MQ below (ql_Q D h0 (ql_rI Q)) (ql_X D h0 X) ([.ref a0] : List Value).toArray s 603072 7190633 (ql_A h0)) (F0 m 28 ls [])) , ∀ (rl1 : Option Nat) (rl2 : Option Nat) (rl3 : Option Nat) (rl4 : Option Nat) (xl5 : Int32) (h : ql_H) (H : Heap) (locs : List Loc) (ls : Array Slot), ql_S D h0 s H locs h → lv_has ls 9 [(0, .ref a0), (1, va_rf rl1), (2, va_rf rl2), (3, va_rf rl3), (4, va_rf rl4), (5, .int xl5)] → qw_L_law_2155 D.2 L9 xs9 a0 Q X k28 rl1 rl2 rl3 rl4 xl5 h → W p l e ({ frames := 2048, cells := 603072, slots := 7190633, locals := 94400 } : Room) s m ([.ref a0] : List Value).toArray below meth c H locs (1034 + (513 - (n + 1)) * 21) (15212 + (513 - (n + 1)) * 5126) (vx_MQ below (ql_Q D h0 (ql_rI Q)) (ql_X D h0 X) ([.ref a0] : List Value).toArray s 603072 7190633 (ql_A h0)) (F0 m 2155 ls []) := by
    intro n hn9 k28 hk28 rl1 rl2 rl3 rl4 xl5 h H locs ls S hl w
    unfold qw_L_law_2155 at w
    refine lv_goto (tgt := 2957) C.1.1 C.1.2.1 dL_law_2155 (by decide) ?_
    refine W.cs (cells' := (1053 + (513 - (n + 1)) * 21)) (slots' := (20326 + (513 - (n + 1)) * 5126)) (by omega) (by omega) ?_
    exact hB2957 n hn9 k28 hk28 rl1 rl2 rl3 rl4 xl5 _ _ _ _ S (lv_sub hl [0, 1, 2, 3, 4, 5] rfl) w
  have hB2149 : ∀ n : Nat, n + 1 ≤ 513 → ∀ (k28 : Option Nat → Option Nat → Option Nat → Option Nat → Int32 → ql_H → Prop) (hk28 : ∀ (rl1 : Option Nat) (rl2 : Option Nat) (rl3 : Option Nat) (rl4 : Option Nat) (xl5 : Int32) (h : ql_H) (H : Heap) (locs : List Loc) (ls : Array Slot), ql_S D h0 s H locs h → lv_has ls 9 [(0, .ref a0), (1, va_rf rl1), (2, va_rf rl2), (3, va_rf rl3), (4, va_rf rl4), (5, .int xl5)] → k28 rl1 rl2 rl3 rl4 xl5 h → W p l e ({ frames := 2048, cells := 603072, slots := 7190633, locals := 94400 } : Room) s m ([.ref a0] : List Value).toArray below meth c H locs (1032 + (513 - n) * 21) (15200 + (513 - n) * 5126) (vx_MQ below (ql_Q D h0 (ql_rI Q)) (ql_X D h0 X) ([.ref a0] : List Value).toArray s 603072 7190633 (ql_A h0)) (F0 m 28 ls [])) , ∀ (rl1 : Option Nat) (rl2 : Option Nat) (rl3 : Option Nat) (rl4 : Option Nat) (xl5 : Int32) (js0 : Int64) (js1 : Int64) (h : ql_H) (H : Heap) (locs : List Loc) (ls : Array Slot), ql_S D h0 s H locs h → lv_has ls 9 [(0, .ref a0), (1, va_rf rl1), (2, va_rf rl2), (3, va_rf rl3), (4, va_rf rl4), (5, .int xl5)] → qw_L_law_2149 D.2 L9 xs9 a0 Q X k28 rl1 rl2 rl3 rl4 xl5 js0 js1 h → W p l e ({ frames := 2048, cells := 603072, slots := 7190633, locals := 94400 } : Room) s m ([.ref a0] : List Value).toArray below meth c H locs (1034 + (513 - (n + 1)) * 21) (15212 + (513 - (n + 1)) * 5126) (vx_MQ below (ql_Q D h0 (ql_rI Q)) (ql_X D h0 X) ([.ref a0] : List Value).toArray s 603072 7190633 (ql_A h0)) (F0 m 2149 ls [.long js1, .long js0]) := by
    intro n hn9 k28 hk28 rl1 rl2 rl3 rl4 xl5 js0 js1 h H locs ls S hl w
    unfold qw_L_law_2149 at w
    refine W.lcmp C.1.1 C.1.2.1 dL_law_2149 ?_
    refine lv_if_eq (tgt := 2155) C.1.1 C.1.2.1 dL_law_2150 (by decide) (fun c9 => ?_) (fun c9 => ?_)
    · replace w := ql_if w c9
      exact hB2155 n hn9 k28 hk28 rl1 rl2 rl3 rl4 xl5 _ _ _ _ S (lv_sub hl [0, 1, 2, 3, 4, 5] rfl) w
    · replace w := ql_ifn w c9
      refine lv_iconst (v := (0 : Int32)) C.1.1 C.1.2.1 dL_law_2153 (by decide) ?_
      exact ql_zret C S hr hlocks dL_law_2154 ⟨(by show _ ≤ (603072 : Nat); omega), (by show _ ≤ (7190633 : Nat); omega)⟩ w
  have hB2083 : ∀ n : Nat, n + 1 ≤ 513 → ∀ (k28 : Option Nat → Option Nat → Option Nat → Option Nat → Int32 → ql_H → Prop) (hk28 : ∀ (rl1 : Option Nat) (rl2 : Option Nat) (rl3 : Option Nat) (rl4 : Option Nat) (xl5 : Int32) (h : ql_H) (H : Heap) (locs : List Loc) (ls : Array Slot), ql_S D h0 s H locs h → lv_has ls 9 [(0, .ref a0), (1, va_rf rl1), (2, va_rf rl2), (3, va_rf rl3), (4, va_rf rl4), (5, .int xl5)] → k28 rl1 rl2 rl3 rl4 xl5 h → W p l e ({ frames := 2048, cells := 603072, slots := 7190633, locals := 94400 } : Room) s m ([.ref a0] : List Value).toArray below meth c H locs (1032 + (513 - n) * 21) (15200 + (513 - n) * 5126) (vx_MQ below (ql_Q D h0 (ql_rI Q)) (ql_X D h0 X) ([.ref a0] : List Value).toArray s 603072 7190633 (ql_A h0)) (F0 m 28 ls [])) , ∀ (rl1 : Option Nat) (rl2 : Option Nat) (rl3 : Option Nat) (rl4 : Option Nat) (xl5 : Int32) (h : ql_H) (H : Heap) (locs : List Loc) (ls : Array Slot), ql_S D h0 s H locs h → lv_has ls 9 [(0, .ref a0), (1, va_rf rl1), (2, va_rf rl2), (3, va_rf rl3), (4, va_rf rl4), (5, .int xl5)] → qw_L_law_2083 D.2 L9 xs9 a0 Q X k28 rl1 rl2 rl3 rl4 xl5 h → W p l e ({ frames := 2048, cells := 603072, slots := 7190633, locals := 94400 } : Room) s m ([.ref a0] : List Value).toArray below meth c H locs (1032 + (513 - (n + 1)) * 21) (15200 + (513 - (n + 1)) * 5126) (vx_MQ below (ql_Q D h0 (ql_rI Q)) (ql_X D h0 X) ([.ref a0] : List Value).toArray s 603072 7190633 (ql_A h0)) (F0 m 2083 ls []) := by
    intro n hn9 k28 hk28 rl1 rl2 rl3 rl4 xl5 h H locs ls S hl w
    unfold qw_L_law_2083 at w
    refine ql_aload_n (r := rl1) C dL_law_2083 rfl (lv_at hl 1 rfl) ?_
    refine ql_aload_n (r := (some a0)) C dL_law_2084 rfl (lv_at hl 0 rfl) ?_
    refine lv_iload C.1.1 C.1.2.1 dL_law_2085 (lv_at hl 5 rfl) ?_
    refine lv_iconst (v := (1 : Int32)) C.1.1 C.1.2.1 dL_law_2087 (by decide) ?_
    refine lv_iadd C.1.1 C.1.2.1 dL_law_2088 ?_
    refine ql_sld C S hX w.1 dL_law_2089 ?_
    replace w := w.2
    refine ql_aload_n (r := (some a0)) C dL_law_2090 rfl (lv_at hl 0 rfl) ?_
    refine lv_iload C.1.1 C.1.2.1 dL_law_2091 (lv_at hl 5 rfl) ?_
    refine lv_iconst (v := (2 : Int32)) C.1.1 C.1.2.1 dL_law_2093 (by decide) ?_
    refine lv_iadd C.1.1 C.1.2.1 dL_law_2094 ?_
    refine ql_sld C S hX w.1 dL_law_2095 ?_
    replace w := w.2
    refine ql_aload_n (r := rl3) C dL_law_2096 rfl (lv_at hl 3 rfl) ?_
    refine ql_SHI (As := [va_rf rl1, .int (xs9 (xl5 + (1 : Int32)).toNatClampNeg), .int (xs9 (xl5 + (2 : Int32)).toNatClampNeg), va_rf rl3]) (rest := []) C S hl qyh_L_citesIndirectly gw_1116 (qm_L_citesIndirectly l hl9 D _ rl1 (xs9 (xl5 + (1 : Int32)).toNatClampNeg) (xs9 (xl5 + (2 : Int32)).toNatClampNeg) rl3 _ _ w) rfl ⟨Nat.le_of_ble_eq_true rfl, Nat.le_of_ble_eq_true rfl⟩ ⟨rfl, rfl⟩ (by exact Nat.le_of_ble_eq_true rfl) rfl dL_law_2097 ⟨(by show _ ≤ (603072 : Nat); omega), (by show _ ≤ (7190633 : Nat); omega)⟩ (fun x185 h H locs S w => ?_)
    refine W.cs (cells' := (1034 + (513 - (n + 1)) * 21)) (slots' := (15212 + (513 - (n + 1)) * 5126)) (by omega) (by omega) ?_
    refine lv_istore (lv' := [(6, .int x185), (0, .ref a0), (1, va_rf rl1), (2, va_rf rl2), (3, va_rf rl3), (4, va_rf rl4), (5, .int xl5)]) C.1.1 C.1.2.1 dL_law_2100 hl (by decide) rfl (fun ls hl => ?_)
    refine ql_aload_n (r := rl2) C dL_law_2102 rfl (lv_at hl 3 rfl) ?_
    refine ql_aload_n (r := (some a0)) C dL_law_2103 rfl (lv_at hl 1 rfl) ?_
    refine lv_iload C.1.1 C.1.2.1 dL_law_2104 (lv_at hl 6 rfl) ?_
    refine lv_iconst (v := (1 : Int32)) C.1.1 C.1.2.1 dL_law_2106 (by decide) ?_
    refine lv_iadd C.1.1 C.1.2.1 dL_law_2107 ?_
    refine ql_sld C S hX w.1 dL_law_2108 ?_
    replace w := w.2
    refine ql_aload_n (r := (some a0)) C dL_law_2109 rfl (lv_at hl 1 rfl) ?_
    refine lv_iload C.1.1 C.1.2.1 dL_law_2110 (lv_at hl 6 rfl) ?_
    refine lv_iconst (v := (2 : Int32)) C.1.1 C.1.2.1 dL_law_2112 (by decide) ?_
    refine lv_iadd C.1.1 C.1.2.1 dL_law_2113 ?_
    refine ql_sld C S hX w.1 dL_law_2114 ?_
    replace w := w.2
    refine ql_VI (As := [.int (xs9 (xl5 + (1 : Int32)).toNatClampNeg), .int (xs9 (xl5 + (2 : Int32)).toNatClampNeg)]) (rest := []) C S htab hlocks hl qy_X12_citesIndirectly qi_X12_citesIndirectly qs_X12_citesIndirectly gw_1979 (ci := 13) rfl w (fun b w => qm_X12_citesIndirectly l hl9 D _ b (xs9 (xl5 + (1 : Int32)).toNatClampNeg) (xs9 (xl5 + (2 : Int32)).toNatClampNeg) _ _ w) rfl ⟨Nat.le_of_ble_eq_true rfl, Nat.le_of_ble_eq_true rfl⟩ ⟨rfl, rfl⟩ (by exact Nat.le_of_ble_eq_true rfl) (fun b e9 => by cases e9; rfl) dL_law_2115 ⟨(by show _ ≤ (603072 : Nat); omega), (by show _ ≤ (7190633 : Nat); omega)⟩ ⟨(by show _ ≤ (603072 : Nat); omega), (by show _ ≤ (7190633 : Nat); omega)⟩ (fun x186 h H locs S w => ?_)
    refine W.cs (cells' := (1034 + (513 - (n + 1)) * 21)) (slots' := (15212 + (513 - (n + 1)) * 5126)) (by omega) (by omega) ?_
    refine lv_istore (lv' := [(7, .int x186), (6, .int x185), (0, .ref a0), (1, va_rf rl1), (2, va_rf rl2), (3, va_rf rl3), (4, va_rf rl4), (5, .int xl5)]) C.1.1 C.1.2.1 dL_law_2118 hl (by decide) rfl (fun ls hl => ?_)
    refine ql_aload_n (r := rl2) C dL_law_2120 rfl (lv_at hl 4 rfl) ?_
    refine ql_VI (As := []) (rest := []) C S htab hlocks hl qy_X12_thrown qi_X12_thrown qs_X12_thrown gw_1727 (ci := 13) rfl w (fun b w => qm_X12_thrown l hl9 D _ b _ _ w) rfl ⟨Nat.le_of_ble_eq_true rfl, Nat.le_of_ble_eq_true rfl⟩ ⟨rfl, rfl⟩ (by exact Nat.le_of_ble_eq_true rfl) (fun b e9 => by cases e9; rfl) dL_law_2121 ⟨(by show _ ≤ (603072 : Nat); omega), (by show _ ≤ (7190633 : Nat); omega)⟩ ⟨(by show _ ≤ (603072 : Nat); omega), (by show _ ≤ (7190633 : Nat); omega)⟩ (fun x188 h H locs S w => ?_)
    refine W.cs (cells' := (1034 + (513 - (n + 1)) * 21)) (slots' := (15212 + (513 - (n + 1)) * 5126)) (by omega) (by omega) ?_
    refine lv_iload C.1.1 C.1.2.1 dL_law_2124 (lv_at hl 1 rfl) ?_
    refine lv_icmp_eq (tgt := 2131) C.1.1 C.1.2.1 dL_law_2126 (by decide) (fun c9 => ?_) (fun c9 => ?_)
    · replace w := ql_if w c9
      refine lv_iload C.1.1 C.1.2.1 dL_law_2131 (lv_at hl 1 rfl) ?_
      refine lv_if_ne (tgt := 2155) C.1.1 C.1.2.1 dL_law_2133 (by decide) (fun c9 => ?_) (fun c9 => ?_)
      · replace w := ql_ifn w c9
        exact hB2155 n hn9 k28 hk28 rl1 rl2 rl3 rl4 xl5 _ _ _ _ S (lv_sub hl [2, 3, 4, 5, 6, 7] rfl) w
      · replace w := ql_if w c9
        refine ql_aload_n (r := rl3) C dL_law_2136 rfl (lv_at hl 5 rfl) ?_
        refine lv_iconst (v := (0 : Int32)) C.1.1 C.1.2.1 dL_law_2137 (by decide) ?_
        refine ql_lald C S dL_law_2138 w (fun j190 w => ?_)
        refine lv_iload C.1.1 C.1.2.1 dL_law_2139 (lv_at hl 0 rfl) ?_
        refine lv_if_eq (tgt := 2148) C.1.1 C.1.2.1 dL_law_2141 (by decide) (fun c9 => ?_) (fun c9 => ?_)
        · replace w := ql_if w c9
          refine lv_lconst (v := (0 : Int64)) C.1.1 C.1.2.1 dL_law_2148 (by decide) ?_
          exact hB2149 n hn9 k28 hk28 rl1 rl2 rl3 rl4 xl5 j190 (0 : Int64) _ _ _ _ S (lv_sub hl [2, 3, 4, 5, 6, 7] rfl) w
        · replace w := ql_ifn w c9
          refine lv_lconst (v := (1 : Int64)) C.1.1 C.1.2.1 dL_law_2144 (by decide) ?_
          refine lv_goto (tgt := 2149) C.1.1 C.1.2.1 dL_law_2145 (by decide) ?_
          exact hB2149 n hn9 k28 hk28 rl1 rl2 rl3 rl4 xl5 j190 (1 : Int64) _ _ _ _ S (lv_sub hl [2, 3, 4, 5, 6, 7] rfl) w
    · replace w := ql_ifn w c9
      refine lv_iconst (v := (0 : Int32)) C.1.1 C.1.2.1 dL_law_2129 (by decide) ?_
      exact ql_zret C S hr hlocks dL_law_2130 ⟨(by show _ ≤ (603072 : Nat); omega), (by show _ ≤ (7190633 : Nat); omega)⟩ w
  have hB2230 : ∀ n : Nat, n + 1 ≤ 513 → ∀ (k28 : Option Nat → Option Nat → Option Nat → Option Nat → Int32 → ql_H → Prop) (hk28 : ∀ (rl1 : Option Nat) (rl2 : Option Nat) (rl3 : Option Nat) (rl4 : Option Nat) (xl5 : Int32) (h : ql_H) (H : Heap) (locs : List Loc) (ls : Array Slot), ql_S D h0 s H locs h → lv_has ls 9 [(0, .ref a0), (1, va_rf rl1), (2, va_rf rl2), (3, va_rf rl3), (4, va_rf rl4), (5, .int xl5)] → k28 rl1 rl2 rl3 rl4 xl5 h → W p l e ({ frames := 2048, cells := 603072, slots := 7190633, locals := 94400 } : Room) s m ([.ref a0] : List Value).toArray below meth c H locs (1032 + (513 - n) * 21) (15200 + (513 - n) * 5126) (vx_MQ below (ql_Q D h0 (ql_rI Q)) (ql_X D h0 X) ([.ref a0] : List Value).toArray s 603072 7190633 (ql_A h0)) (F0 m 28 ls [])) , ∀ (rl1 : Option Nat) (rl2 : Option Nat) (rl3 : Option Nat) (rl4 : Option Nat) (xl5 : Int32) (h : ql_H) (H : Heap) (locs : List Loc) (ls : Array Slot), ql_S D h0 s H locs h → lv_has ls 9 [(0, .ref a0), (1, va_rf rl1), (2, va_rf rl2), (3, va_rf rl3), (4, va_rf rl4), (5, .int xl5)] → qw_L_law_2230 D.2 L9 xs9 a0 Q X k28 rl1 rl2 rl3 rl4 xl5 h → W p l e ({ frames := 2048, cells := 603072, slots := 7190633, locals := 94400 } : Room) s m ([.ref a0] : List Value).toArray below meth c H locs (1034 + (513 - (n + 1)) * 21) (15212 + (513 - (n + 1)) * 5126) (vx_MQ below (ql_Q D h0 (ql_rI Q)) (ql_X D h0 X) ([.ref a0] : List Value).toArray s 603072 7190633 (ql_A h0)) (F0 m 2230 ls []) := by
    intro n hn9 k28 hk28 rl1 rl2 rl3 rl4 xl5 h H locs ls S hl w
    unfold qw_L_law_2230 at w
    refine lv_goto (tgt := 2957) C.1.1 C.1.2.1 dL_law_2230 (by decide) ?_
    refine W.cs (cells' := (1053 + (513 - (n + 1)) * 21)) (slots' := (20326 + (513 - (n + 1)) * 5126)) (by omega) (by omega) ?_
    exact hB2957 n hn9 k28 hk28 rl1 rl2 rl3 rl4 xl5 _ _ _ _ S (lv_sub hl [0, 1, 2, 3, 4, 5] rfl) w
  have hB2224 : ∀ n : Nat, n + 1 ≤ 513 → ∀ (k28 : Option Nat → Option Nat → Option Nat → Option Nat → Int32 → ql_H → Prop) (hk28 : ∀ (rl1 : Option Nat) (rl2 : Option Nat) (rl3 : Option Nat) (rl4 : Option Nat) (xl5 : Int32) (h : ql_H) (H : Heap) (locs : List Loc) (ls : Array Slot), ql_S D h0 s H locs h → lv_has ls 9 [(0, .ref a0), (1, va_rf rl1), (2, va_rf rl2), (3, va_rf rl3), (4, va_rf rl4), (5, .int xl5)] → k28 rl1 rl2 rl3 rl4 xl5 h → W p l e ({ frames := 2048, cells := 603072, slots := 7190633, locals := 94400 } : Room) s m ([.ref a0] : List Value).toArray below meth c H locs (1032 + (513 - n) * 21) (15200 + (513 - n) * 5126) (vx_MQ below (ql_Q D h0 (ql_rI Q)) (ql_X D h0 X) ([.ref a0] : List Value).toArray s 603072 7190633 (ql_A h0)) (F0 m 28 ls [])) , ∀ (rl1 : Option Nat) (rl2 : Option Nat) (rl3 : Option Nat) (rl4 : Option Nat) (xl5 : Int32) (js0 : Int64) (js1 : Int64) (h : ql_H) (H : Heap) (locs : List Loc) (ls : Array Slot), ql_S D h0 s H locs h → lv_has ls 9 [(0, .ref a0), (1, va_rf rl1), (2, va_rf rl2), (3, va_rf rl3), (4, va_rf rl4), (5, .int xl5)] → qw_L_law_2224 D.2 L9 xs9 a0 Q X k28 rl1 rl2 rl3 rl4 xl5 js0 js1 h → W p l e ({ frames := 2048, cells := 603072, slots := 7190633, locals := 94400 } : Room) s m ([.ref a0] : List Value).toArray below meth c H locs (1034 + (513 - (n + 1)) * 21) (15212 + (513 - (n + 1)) * 5126) (vx_MQ below (ql_Q D h0 (ql_rI Q)) (ql_X D h0 X) ([.ref a0] : List Value).toArray s 603072 7190633 (ql_A h0)) (F0 m 2224 ls [.long js1, .long js0]) := by
    intro n hn9 k28 hk28 rl1 rl2 rl3 rl4 xl5 js0 js1 h H locs ls S hl w
    unfold qw_L_law_2224 at w
    refine W.lcmp C.1.1 C.1.2.1 dL_law_2224 ?_
    refine lv_if_eq (tgt := 2230) C.1.1 C.1.2.1 dL_law_2225 (by decide) (fun c9 => ?_) (fun c9 => ?_)
    · replace w := ql_if w c9
      exact hB2230 n hn9 k28 hk28 rl1 rl2 rl3 rl4 xl5 _ _ _ _ S (lv_sub hl [0, 1, 2, 3, 4, 5] rfl) w
    · replace w := ql_ifn w c9
      refine lv_iconst (v := (0 : Int32)) C.1.1 C.1.2.1 dL_law_2228 (by decide) ?_
      exact ql_zret C S hr hlocks dL_law_2229 ⟨(by show _ ≤ (603072 : Nat); omega), (by show _ ≤ (7190633 : Nat); omega)⟩ w
  have hB2158 : ∀ n : Nat, n + 1 ≤ 513 → ∀ (k28 : Option Nat → Option Nat → Option Nat → Option Nat → Int32 → ql_H → Prop) (hk28 : ∀ (rl1 : Option Nat) (rl2 : Option Nat) (rl3 : Option Nat) (rl4 : Option Nat) (xl5 : Int32) (h : ql_H) (H : Heap) (locs : List Loc) (ls : Array Slot), ql_S D h0 s H locs h → lv_has ls 9 [(0, .ref a0), (1, va_rf rl1), (2, va_rf rl2), (3, va_rf rl3), (4, va_rf rl4), (5, .int xl5)] → k28 rl1 rl2 rl3 rl4 xl5 h → W p l e ({ frames := 2048, cells := 603072, slots := 7190633, locals := 94400 } : Room) s m ([.ref a0] : List Value).toArray below meth c H locs (1032 + (513 - n) * 21) (15200 + (513 - n) * 5126) (vx_MQ below (ql_Q D h0 (ql_rI Q)) (ql_X D h0 X) ([.ref a0] : List Value).toArray s 603072 7190633 (ql_A h0)) (F0 m 28 ls [])) , ∀ (rl1 : Option Nat) (rl2 : Option Nat) (rl3 : Option Nat) (rl4 : Option Nat) (xl5 : Int32) (h : ql_H) (H : Heap) (locs : List Loc) (ls : Array Slot), ql_S D h0 s H locs h → lv_has ls 9 [(0, .ref a0), (1, va_rf rl1), (2, va_rf rl2), (3, va_rf rl3), (4, va_rf rl4), (5, .int xl5)] → qw_L_law_2158 D.2 L9 xs9 a0 Q X k28 rl1 rl2 rl3 rl4 xl5 h → W p l e ({ frames := 2048, cells := 603072, slots := 7190633, locals := 94400 } : Room) s m ([.ref a0] : List Value).toArray below meth c H locs (1032 + (513 - (n + 1)) * 21) (15200 + (513 - (n + 1)) * 5126) (vx_MQ below (ql_Q D h0 (ql_rI Q)) (ql_X D h0 X) ([.ref a0] : List Value).toArray s 603072 7190633 (ql_A h0)) (F0 m 2158 ls []) := by
    intro n hn9 k28 hk28 rl1 rl2 rl3 rl4 xl5 h H locs ls S hl w
    unfold qw_L_law_2158 at w
    refine ql_aload_n (r := rl1) C dL_law_2158 rfl (lv_at hl 1 rfl) ?_
    refine ql_aload_n (r := (some a0)) C dL_law_2159 rfl (lv_at hl 0 rfl) ?_
    refine lv_iload C.1.1 C.1.2.1 dL_law_2160 (lv_at hl 5 rfl) ?_
    refine lv_iconst (v := (1 : Int32)) C.1.1 C.1.2.1 dL_law_2162 (by decide) ?_
    refine lv_iadd C.1.1 C.1.2.1 dL_law_2163 ?_
    refine ql_sld C S hX w.1 dL_law_2164 ?_
    replace w := w.2
    refine ql_aload_n (r := (some a0)) C dL_law_2165 rfl (lv_at hl 0 rfl) ?_
    refine lv_iload C.1.1 C.1.2.1 dL_law_2166 (lv_at hl 5 rfl) ?_
    refine lv_iconst (v := (2 : Int32)) C.1.1 C.1.2.1 dL_law_2168 (by decide) ?_
    refine lv_iadd C.1.1 C.1.2.1 dL_law_2169 ?_
    refine ql_sld C S hX w.1 dL_law_2170 ?_
    replace w := w.2
    refine ql_aload_n (r := rl3) C dL_law_2171 rfl (lv_at hl 3 rfl) ?_
    refine ql_SHI (As := [va_rf rl1, .int (xs9 (xl5 + (1 : Int32)).toNatClampNeg), .int (xs9 (xl5 + (2 : Int32)).toNatClampNeg), va_rf rl3]) (rest := []) C S hl qyh_L_citesByClosure gw_1129 (qm_L_citesByClosure l hl9 D _ rl1 (xs9 (xl5 + (1 : Int32)).toNatClampNeg) (xs9 (xl5 + (2 : Int32)).toNatClampNeg) rl3 _ _ w) rfl ⟨Nat.le_of_ble_eq_true rfl, Nat.le_of_ble_eq_true rfl⟩ ⟨rfl, rfl⟩ (by exact Nat.le_of_ble_eq_true rfl) rfl dL_law_2172 ⟨(by show _ ≤ (603072 : Nat); omega), (by show _ ≤ (7190633 : Nat); omega)⟩ (fun x191 h H locs S w => ?_)
    refine W.cs (cells' := (1034 + (513 - (n + 1)) * 21)) (slots' := (15212 + (513 - (n + 1)) * 5126)) (by omega) (by omega) ?_
    refine lv_istore (lv' := [(6, .int x191), (0, .ref a0), (1, va_rf rl1), (2, va_rf rl2), (3, va_rf rl3), (4, va_rf rl4), (5, .int xl5)]) C.1.1 C.1.2.1 dL_law_2175 hl (by decide) rfl (fun ls hl => ?_)
    refine ql_aload_n (r := rl2) C dL_law_2177 rfl (lv_at hl 3 rfl) ?_
    refine ql_aload_n (r := (some a0)) C dL_law_2178 rfl (lv_at hl 1 rfl) ?_
    refine lv_iload C.1.1 C.1.2.1 dL_law_2179 (lv_at hl 6 rfl) ?_
    refine lv_iconst (v := (1 : Int32)) C.1.1 C.1.2.1 dL_law_2181 (by decide) ?_
    refine lv_iadd C.1.1 C.1.2.1 dL_law_2182 ?_
    refine ql_sld C S hX w.1 dL_law_2183 ?_
    replace w := w.2
    refine ql_aload_n (r := (some a0)) C dL_law_2184 rfl (lv_at hl 1 rfl) ?_
    refine lv_iload C.1.1 C.1.2.1 dL_law_2185 (lv_at hl 6 rfl) ?_
    refine lv_iconst (v := (2 : Int32)) C.1.1 C.1.2.1 dL_law_2187 (by decide) ?_
    refine lv_iadd C.1.1 C.1.2.1 dL_law_2188 ?_
    refine ql_sld C S hX w.1 dL_law_2189 ?_
    replace w := w.2
    refine ql_VI (As := [.int (xs9 (xl5 + (1 : Int32)).toNatClampNeg), .int (xs9 (xl5 + (2 : Int32)).toNatClampNeg)]) (rest := []) C S htab hlocks hl qy_X12_citesByClosure qi_X12_citesByClosure qs_X12_citesByClosure gw_1995 (ci := 13) rfl w (fun b w => qm_X12_citesByClosure l hl9 D _ b (xs9 (xl5 + (1 : Int32)).toNatClampNeg) (xs9 (xl5 + (2 : Int32)).toNatClampNeg) _ _ w) rfl ⟨Nat.le_of_ble_eq_true rfl, Nat.le_of_ble_eq_true rfl⟩ ⟨rfl, rfl⟩ (by exact Nat.le_of_ble_eq_true rfl) (fun b e9 => by cases e9; rfl) dL_law_2190 ⟨(by show _ ≤ (603072 : Nat); omega), (by show _ ≤ (7190633 : Nat); omega)⟩ ⟨(by show _ ≤ (603072 : Nat); omega), (by show _ ≤ (7190633 : Nat); omega)⟩ (fun x192 h H locs S w => ?_)
    refine W.cs (cells' := (1034 + (513 - (n + 1)) * 21)) (slots' := (15212 + (513 - (n + 1)) * 5126)) (by omega) (by omega) ?_
    refine lv_istore (lv' := [(7, .int x192), (6, .int x191), (0, .ref a0), (1, va_rf rl1), (2, va_rf rl2), (3, va_rf rl3), (4, va_rf rl4), (5, .int xl5)]) C.1.1 C.1.2.1 dL_law_2193 hl (by decide) rfl (fun ls hl => ?_)
    refine ql_aload_n (r := rl2) C dL_law_2195 rfl (lv_at hl 4 rfl) ?_
    refine ql_VI (As := []) (rest := []) C S htab hlocks hl qy_X12_thrown qi_X12_thrown qs_X12_thrown gw_1727 (ci := 13) rfl w (fun b w => qm_X12_thrown l hl9 D _ b _ _ w) rfl ⟨Nat.le_of_ble_eq_true rfl, Nat.le_of_ble_eq_true rfl⟩ ⟨rfl, rfl⟩ (by exact Nat.le_of_ble_eq_true rfl) (fun b e9 => by cases e9; rfl) dL_law_2196 ⟨(by show _ ≤ (603072 : Nat); omega), (by show _ ≤ (7190633 : Nat); omega)⟩ ⟨(by show _ ≤ (603072 : Nat); omega), (by show _ ≤ (7190633 : Nat); omega)⟩ (fun x194 h H locs S w => ?_)
    refine W.cs (cells' := (1034 + (513 - (n + 1)) * 21)) (slots' := (15212 + (513 - (n + 1)) * 5126)) (by omega) (by omega) ?_
    refine lv_iload C.1.1 C.1.2.1 dL_law_2199 (lv_at hl 1 rfl) ?_
    refine lv_icmp_eq (tgt := 2206) C.1.1 C.1.2.1 dL_law_2201 (by decide) (fun c9 => ?_) (fun c9 => ?_)
    · replace w := ql_if w c9
      refine lv_iload C.1.1 C.1.2.1 dL_law_2206 (lv_at hl 1 rfl) ?_
      refine lv_if_ne (tgt := 2230) C.1.1 C.1.2.1 dL_law_2208 (by decide) (fun c9 => ?_) (fun c9 => ?_)
      · replace w := ql_ifn w c9
        exact hB2230 n hn9 k28 hk28 rl1 rl2 rl3 rl4 xl5 _ _ _ _ S (lv_sub hl [2, 3, 4, 5, 6, 7] rfl) w
      · replace w := ql_if w c9
        refine ql_aload_n (r := rl3) C dL_law_2211 rfl (lv_at hl 5 rfl) ?_
        refine lv_iconst (v := (0 : Int32)) C.1.1 C.1.2.1 dL_law_2212 (by decide) ?_
        refine ql_lald C S dL_law_2213 w (fun j196 w => ?_)
        refine lv_iload C.1.1 C.1.2.1 dL_law_2214 (lv_at hl 0 rfl) ?_
        refine lv_if_eq (tgt := 2223) C.1.1 C.1.2.1 dL_law_2216 (by decide) (fun c9 => ?_) (fun c9 => ?_)
        · replace w := ql_if w c9
          refine lv_lconst (v := (0 : Int64)) C.1.1 C.1.2.1 dL_law_2223 (by decide) ?_
          exact hB2224 n hn9 k28 hk28 rl1 rl2 rl3 rl4 xl5 j196 (0 : Int64) _ _ _ _ S (lv_sub hl [2, 3, 4, 5, 6, 7] rfl) w
        · replace w := ql_ifn w c9
          refine lv_lconst (v := (1 : Int64)) C.1.1 C.1.2.1 dL_law_2219 (by decide) ?_
          refine lv_goto (tgt := 2224) C.1.1 C.1.2.1 dL_law_2220 (by decide) ?_
          exact hB2224 n hn9 k28 hk28 rl1 rl2 rl3 rl4 xl5 j196 (1 : Int64) _ _ _ _ S (lv_sub hl [2, 3, 4, 5, 6, 7] rfl) w
    · replace w := ql_ifn w c9
      refine lv_iconst (v := (0 : Int32)) C.1.1 C.1.2.1 dL_law_2204 (by decide) ?_
      exact ql_zret C S hr hlocks dL_law_2205 ⟨(by show _ ≤ (603072 : Nat); omega), (by show _ ≤ (7190633 : Nat); omega)⟩ w
  have hB2286 : ∀ n : Nat, n + 1 ≤ 513 → ∀ (k28 : Option Nat → Option Nat → Option Nat → Option Nat → Int32 → ql_H → Prop) (hk28 : ∀ (rl1 : Option Nat) (rl2 : Option Nat) (rl3 : Option Nat) (rl4 : Option Nat) (xl5 : Int32) (h : ql_H) (H : Heap) (locs : List Loc) (ls : Array Slot), ql_S D h0 s H locs h → lv_has ls 9 [(0, .ref a0), (1, va_rf rl1), (2, va_rf rl2), (3, va_rf rl3), (4, va_rf rl4), (5, .int xl5)] → k28 rl1 rl2 rl3 rl4 xl5 h → W p l e ({ frames := 2048, cells := 603072, slots := 7190633, locals := 94400 } : Room) s m ([.ref a0] : List Value).toArray below meth c H locs (1032 + (513 - n) * 21) (15200 + (513 - n) * 5126) (vx_MQ below (ql_Q D h0 (ql_rI Q)) (ql_X D h0 X) ([.ref a0] : List Value).toArray s 603072 7190633 (ql_A h0)) (F0 m 28 ls [])) , ∀ (rl1 : Option Nat) (rl2 : Option Nat) (rl3 : Option Nat) (rl4 : Option Nat) (xl5 : Int32) (h : ql_H) (H : Heap) (locs : List Loc) (ls : Array Slot), ql_S D h0 s H locs h → lv_has ls 9 [(0, .ref a0), (1, va_rf rl1), (2, va_rf rl2), (3, va_rf rl3), (4, va_rf rl4), (5, .int xl5)] → qw_L_law_2286 D.2 L9 xs9 a0 Q X k28 rl1 rl2 rl3 rl4 xl5 h → W p l e ({ frames := 2048, cells := 603072, slots := 7190633, locals := 94400 } : Room) s m ([.ref a0] : List Value).toArray below meth c H locs (1033 + (513 - (n + 1)) * 21) (15206 + (513 - (n + 1)) * 5126) (vx_MQ below (ql_Q D h0 (ql_rI Q)) (ql_X D h0 X) ([.ref a0] : List Value).toArray s 603072 7190633 (ql_A h0)) (F0 m 2286 ls []) := by
    intro n hn9 k28 hk28 rl1 rl2 rl3 rl4 xl5 h H locs ls S hl w
    unfold qw_L_law_2286 at w
    refine lv_goto (tgt := 2957) C.1.1 C.1.2.1 dL_law_2286 (by decide) ?_
    refine W.cs (cells' := (1053 + (513 - (n + 1)) * 21)) (slots' := (20326 + (513 - (n + 1)) * 5126)) (by omega) (by omega) ?_
    exact hB2957 n hn9 k28 hk28 rl1 rl2 rl3 rl4 xl5 _ _ _ _ S (lv_sub hl [0, 1, 2, 3, 4, 5] rfl) w
  have hB2233 : ∀ n : Nat, n + 1 ≤ 513 → ∀ (k28 : Option Nat → Option Nat → Option Nat → Option Nat → Int32 → ql_H → Prop) (hk28 : ∀ (rl1 : Option Nat) (rl2 : Option Nat) (rl3 : Option Nat) (rl4 : Option Nat) (xl5 : Int32) (h : ql_H) (H : Heap) (locs : List Loc) (ls : Array Slot), ql_S D h0 s H locs h → lv_has ls 9 [(0, .ref a0), (1, va_rf rl1), (2, va_rf rl2), (3, va_rf rl3), (4, va_rf rl4), (5, .int xl5)] → k28 rl1 rl2 rl3 rl4 xl5 h → W p l e ({ frames := 2048, cells := 603072, slots := 7190633, locals := 94400 } : Room) s m ([.ref a0] : List Value).toArray below meth c H locs (1032 + (513 - n) * 21) (15200 + (513 - n) * 5126) (vx_MQ below (ql_Q D h0 (ql_rI Q)) (ql_X D h0 X) ([.ref a0] : List Value).toArray s 603072 7190633 (ql_A h0)) (F0 m 28 ls [])) , ∀ (rl1 : Option Nat) (rl2 : Option Nat) (rl3 : Option Nat) (rl4 : Option Nat) (xl5 : Int32) (h : ql_H) (H : Heap) (locs : List Loc) (ls : Array Slot), ql_S D h0 s H locs h → lv_has ls 9 [(0, .ref a0), (1, va_rf rl1), (2, va_rf rl2), (3, va_rf rl3), (4, va_rf rl4), (5, .int xl5)] → qw_L_law_2233 D.2 L9 xs9 a0 Q X k28 rl1 rl2 rl3 rl4 xl5 h → W p l e ({ frames := 2048, cells := 603072, slots := 7190633, locals := 94400 } : Room) s m ([.ref a0] : List Value).toArray below meth c H locs (1032 + (513 - (n + 1)) * 21) (15200 + (513 - (n + 1)) * 5126) (vx_MQ below (ql_Q D h0 (ql_rI Q)) (ql_X D h0 X) ([.ref a0] : List Value).toArray s 603072 7190633 (ql_A h0)) (F0 m 2233 ls []) := by
    intro n hn9 k28 hk28 rl1 rl2 rl3 rl4 xl5 h H locs ls S hl w
    unfold qw_L_law_2233 at w
    refine ql_aload_n (r := rl1) C dL_law_2233 rfl (lv_at hl 1 rfl) ?_
    refine ql_aload_n (r := (some a0)) C dL_law_2234 rfl (lv_at hl 0 rfl) ?_
    refine lv_iload C.1.1 C.1.2.1 dL_law_2235 (lv_at hl 5 rfl) ?_
    refine lv_iconst (v := (1 : Int32)) C.1.1 C.1.2.1 dL_law_2237 (by decide) ?_
    refine lv_iadd C.1.1 C.1.2.1 dL_law_2238 ?_
    refine ql_sld C S hX w.1 dL_law_2239 ?_
    replace w := w.2
    refine ql_aload_n (r := rl3) C dL_law_2240 rfl (lv_at hl 3 rfl) ?_
    refine ql_SHI (As := [va_rf rl1, .int (xs9 (xl5 + (1 : Int32)).toNatClampNeg), va_rf rl3]) (rest := []) C S hl qyh_L_clauseByCites gw_1136 (qm_L_clauseByCites l hl9 D _ rl1 (xs9 (xl5 + (1 : Int32)).toNatClampNeg) rl3 _ _ w) rfl ⟨Nat.le_of_ble_eq_true rfl, Nat.le_of_ble_eq_true rfl⟩ ⟨rfl, rfl⟩ (by exact Nat.le_of_ble_eq_true rfl) rfl dL_law_2241 ⟨(by show _ ≤ (603072 : Nat); omega), (by show _ ≤ (7190633 : Nat); omega)⟩ (fun x197 h H locs S w => ?_)
    refine W.cs (cells' := (1033 + (513 - (n + 1)) * 21)) (slots' := (15206 + (513 - (n + 1)) * 5126)) (by omega) (by omega) ?_
    refine lv_istore (lv' := [(6, .int x197), (0, .ref a0), (1, va_rf rl1), (2, va_rf rl2), (3, va_rf rl3), (4, va_rf rl4), (5, .int xl5)]) C.1.1 C.1.2.1 dL_law_2244 hl (by decide) rfl (fun ls hl => ?_)
    refine ql_aload_n (r := rl2) C dL_law_2246 rfl (lv_at hl 3 rfl) ?_
    refine ql_aload_n (r := (some a0)) C dL_law_2247 rfl (lv_at hl 1 rfl) ?_
    refine lv_iload C.1.1 C.1.2.1 dL_law_2248 (lv_at hl 6 rfl) ?_
    refine lv_iconst (v := (1 : Int32)) C.1.1 C.1.2.1 dL_law_2250 (by decide) ?_
    refine lv_iadd C.1.1 C.1.2.1 dL_law_2251 ?_
    refine ql_sld C S hX w.1 dL_law_2252 ?_
    replace w := w.2
    refine ql_VI (As := [.int (xs9 (xl5 + (1 : Int32)).toNatClampNeg)]) (rest := []) C S htab hlocks hl qy_X12_clauseByCites qi_X12_clauseByCites qs_X12_clauseByCites gw_1999 (ci := 13) rfl w (fun b w => qm_X12_clauseByCites l hl9 D _ b (xs9 (xl5 + (1 : Int32)).toNatClampNeg) _ _ w) rfl ⟨Nat.le_of_ble_eq_true rfl, Nat.le_of_ble_eq_true rfl⟩ ⟨rfl, rfl⟩ (by exact Nat.le_of_ble_eq_true rfl) (fun b e9 => by cases e9; rfl) dL_law_2253 ⟨(by show _ ≤ (603072 : Nat); omega), (by show _ ≤ (7190633 : Nat); omega)⟩ ⟨(by show _ ≤ (603072 : Nat); omega), (by show _ ≤ (7190633 : Nat); omega)⟩ (fun x198 h H locs S w => ?_)
    refine W.cs (cells' := (1033 + (513 - (n + 1)) * 21)) (slots' := (15206 + (513 - (n + 1)) * 5126)) (by omega) (by omega) ?_
    refine lv_istore (lv' := [(7, .int x198), (6, .int x197), (0, .ref a0), (1, va_rf rl1), (2, va_rf rl2), (3, va_rf rl3), (4, va_rf rl4), (5, .int xl5)]) C.1.1 C.1.2.1 dL_law_2256 hl (by decide) rfl (fun ls hl => ?_)
    refine ql_aload_n (r := rl2) C dL_law_2258 rfl (lv_at hl 4 rfl) ?_
    refine ql_VI (As := []) (rest := []) C S htab hlocks hl qy_X12_thrown qi_X12_thrown qs_X12_thrown gw_1727 (ci := 13) rfl w (fun b w => qm_X12_thrown l hl9 D _ b _ _ w) rfl ⟨Nat.le_of_ble_eq_true rfl, Nat.le_of_ble_eq_true rfl⟩ ⟨rfl, rfl⟩ (by exact Nat.le_of_ble_eq_true rfl) (fun b e9 => by cases e9; rfl) dL_law_2259 ⟨(by show _ ≤ (603072 : Nat); omega), (by show _ ≤ (7190633 : Nat); omega)⟩ ⟨(by show _ ≤ (603072 : Nat); omega), (by show _ ≤ (7190633 : Nat); omega)⟩ (fun x200 h H locs S w => ?_)
    refine W.cs (cells' := (1033 + (513 - (n + 1)) * 21)) (slots' := (15206 + (513 - (n + 1)) * 5126)) (by omega) (by omega) ?_
    refine lv_iload C.1.1 C.1.2.1 dL_law_2262 (lv_at hl 1 rfl) ?_
    refine lv_icmp_eq (tgt := 2269) C.1.1 C.1.2.1 dL_law_2264 (by decide) (fun c9 => ?_) (fun c9 => ?_)
    · replace w := ql_if w c9
      refine lv_iload C.1.1 C.1.2.1 dL_law_2269 (lv_at hl 1 rfl) ?_
      refine lv_if_ne (tgt := 2286) C.1.1 C.1.2.1 dL_law_2271 (by decide) (fun c9 => ?_) (fun c9 => ?_)
      · replace w := ql_ifn w c9
        exact hB2286 n hn9 k28 hk28 rl1 rl2 rl3 rl4 xl5 _ _ _ _ S (lv_sub hl [2, 3, 4, 5, 6, 7] rfl) w
      · replace w := ql_if w c9
        refine ql_aload_n (r := rl3) C dL_law_2274 rfl (lv_at hl 5 rfl) ?_
        refine lv_iconst (v := (0 : Int32)) C.1.1 C.1.2.1 dL_law_2275 (by decide) ?_
        refine ql_lald C S dL_law_2276 w (fun j202 w => ?_)
        refine lv_iload C.1.1 C.1.2.1 dL_law_2277 (lv_at hl 0 rfl) ?_
        refine lv_i2l C.1.1 C.1.2.1 dL_law_2279 rfl ?_
        refine W.lcmp C.1.1 C.1.2.1 dL_law_2280 ?_
        refine lv_if_eq (tgt := 2286) C.1.1 C.1.2.1 dL_law_2281 (by decide) (fun c9 => ?_) (fun c9 => ?_)
        · replace w := ql_if w c9
          exact hB2286 n hn9 k28 hk28 rl1 rl2 rl3 rl4 xl5 _ _ _ _ S (lv_sub hl [2, 3, 4, 5, 6, 7] rfl) w
        · replace w := ql_ifn w c9
          refine lv_iconst (v := (0 : Int32)) C.1.1 C.1.2.1 dL_law_2284 (by decide) ?_
          exact ql_zret C S hr hlocks dL_law_2285 ⟨(by show _ ≤ (603072 : Nat); omega), (by show _ ≤ (7190633 : Nat); omega)⟩ w
    · replace w := ql_ifn w c9
      refine lv_iconst (v := (0 : Int32)) C.1.1 C.1.2.1 dL_law_2267 (by decide) ?_
      exact ql_zret C S hr hlocks dL_law_2268 ⟨(by show _ ≤ (603072 : Nat); omega), (by show _ ≤ (7190633 : Nat); omega)⟩ w
  have hB2289 : ∀ n : Nat, n + 1 ≤ 513 → ∀ (k28 : Option Nat → Option Nat → Option Nat → Option Nat → Int32 → ql_H → Prop) (hk28 : ∀ (rl1 : Option Nat) (rl2 : Option Nat) (rl3 : Option Nat) (rl4 : Option Nat) (xl5 : Int32) (h : ql_H) (H : Heap) (locs : List Loc) (ls : Array Slot), ql_S D h0 s H locs h → lv_has ls 9 [(0, .ref a0), (1, va_rf rl1), (2, va_rf rl2), (3, va_rf rl3), (4, va_rf rl4), (5, .int xl5)] → k28 rl1 rl2 rl3 rl4 xl5 h → W p l e ({ frames := 2048, cells := 603072, slots := 7190633, locals := 94400 } : Room) s m ([.ref a0] : List Value).toArray below meth c H locs (1032 + (513 - n) * 21) (15200 + (513 - n) * 5126) (vx_MQ below (ql_Q D h0 (ql_rI Q)) (ql_X D h0 X) ([.ref a0] : List Value).toArray s 603072 7190633 (ql_A h0)) (F0 m 28 ls [])) , ∀ (rl1 : Option Nat) (rl2 : Option Nat) (rl3 : Option Nat) (rl4 : Option Nat) (xl5 : Int32) (h : ql_H) (H : Heap) (locs : List Loc) (ls : Array Slot), ql_S D h0 s H locs h → lv_has ls 9 [(0, .ref a0), (1, va_rf rl1), (2, va_rf rl2), (3, va_rf rl3), (4, va_rf rl4), (5, .int xl5)] → qw_L_law_2289 D.2 L9 xs9 a0 Q X k28 rl1 rl2 rl3 rl4 xl5 h → W p l e ({ frames := 2048, cells := 603072, slots := 7190633, locals := 94400 } : Room) s m ([.ref a0] : List Value).toArray below meth c H locs (1032 + (513 - (n + 1)) * 21) (15200 + (513 - (n + 1)) * 5126) (vx_MQ below (ql_Q D h0 (ql_rI Q)) (ql_X D h0 X) ([.ref a0] : List Value).toArray s 603072 7190633 (ql_A h0)) (F0 m 2289 ls []) := by
    intro n hn9 k28 hk28 rl1 rl2 rl3 rl4 xl5 h H locs ls S hl w
    unfold qw_L_law_2289 at w
    refine ql_aload_n (r := rl1) C dL_law_2289 rfl (lv_at hl 1 rfl) ?_
    refine ql_VI (As := []) (rest := []) C S htab hlocks hl qy_X11_addedTotal qi_X11_addedTotal qs_X11_addedTotal gw_678 (ci := 12) rfl w (fun b w => qm_X11_addedTotal l hl9 D _ b _ _ w) rfl ⟨Nat.le_of_ble_eq_true rfl, Nat.le_of_ble_eq_true rfl⟩ ⟨rfl, rfl⟩ (by exact Nat.le_of_ble_eq_true rfl) (fun b e9 => by cases e9; rfl) dL_law_2290 ⟨(by show _ ≤ (603072 : Nat); omega), (by show _ ≤ (7190633 : Nat); omega)⟩ ⟨(by show _ ≤ (603072 : Nat); omega), (by show _ ≤ (7190633 : Nat); omega)⟩ (fun x203 h H locs S w => ?_)
    refine W.cs (cells' := (1032 + (513 - (n + 1)) * 21)) (slots' := (15200 + (513 - (n + 1)) * 5126)) (by omega) (by omega) ?_
    refine ql_aload_n (r := rl2) C dL_law_2293 rfl (lv_at hl 2 rfl) ?_
    refine ql_VI (As := []) (rest := [.int x203]) C S htab hlocks hl qy_X12_addedTotal qi_X12_addedTotal qs_X12_addedTotal gw_2007 (ci := 13) rfl w (fun b w => qm_X12_addedTotal l hl9 D _ b _ _ w) rfl ⟨Nat.le_of_ble_eq_true rfl, Nat.le_of_ble_eq_true rfl⟩ ⟨rfl, rfl⟩ (by exact Nat.le_of_ble_eq_true rfl) (fun b e9 => by cases e9; rfl) dL_law_2294 ⟨(by show _ ≤ (603072 : Nat); omega), (by show _ ≤ (7190633 : Nat); omega)⟩ ⟨(by show _ ≤ (603072 : Nat); omega), (by show _ ≤ (7190633 : Nat); omega)⟩ (fun x205 h H locs S w => ?_)
    refine W.cs (cells' := (1032 + (513 - (n + 1)) * 21)) (slots' := (15200 + (513 - (n + 1)) * 5126)) (by omega) (by omega) ?_
    refine lv_icmp_eq (tgt := 2957) C.1.1 C.1.2.1 dL_law_2297 (by decide) (fun c9 => ?_) (fun c9 => ?_)
    · replace w := ql_if w c9
      refine W.cs (cells' := (1053 + (513 - (n + 1)) * 21)) (slots' := (20326 + (513 - (n + 1)) * 5126)) (by omega) (by omega) ?_
      exact hB2957 n hn9 k28 hk28 rl1 rl2 rl3 rl4 xl5 _ _ _ _ S (lv_sub hl [0, 1, 2, 3, 4, 5] rfl) w
    · replace w := ql_ifn w c9
      refine lv_iconst (v := (0 : Int32)) C.1.1 C.1.2.1 dL_law_2300 (by decide) ?_
      exact ql_zret C S hr hlocks dL_law_2301 ⟨(by show _ ≤ (603072 : Nat); omega), (by show _ ≤ (7190633 : Nat); omega)⟩ w
  have hB2302 : ∀ n : Nat, n + 1 ≤ 513 → ∀ (k28 : Option Nat → Option Nat → Option Nat → Option Nat → Int32 → ql_H → Prop) (hk28 : ∀ (rl1 : Option Nat) (rl2 : Option Nat) (rl3 : Option Nat) (rl4 : Option Nat) (xl5 : Int32) (h : ql_H) (H : Heap) (locs : List Loc) (ls : Array Slot), ql_S D h0 s H locs h → lv_has ls 9 [(0, .ref a0), (1, va_rf rl1), (2, va_rf rl2), (3, va_rf rl3), (4, va_rf rl4), (5, .int xl5)] → k28 rl1 rl2 rl3 rl4 xl5 h → W p l e ({ frames := 2048, cells := 603072, slots := 7190633, locals := 94400 } : Room) s m ([.ref a0] : List Value).toArray below meth c H locs (1032 + (513 - n) * 21) (15200 + (513 - n) * 5126) (vx_MQ below (ql_Q D h0 (ql_rI Q)) (ql_X D h0 X) ([.ref a0] : List Value).toArray s 603072 7190633 (ql_A h0)) (F0 m 28 ls [])) , ∀ (rl1 : Option Nat) (rl2 : Option Nat) (rl3 : Option Nat) (rl4 : Option Nat) (xl5 : Int32) (h : ql_H) (H : Heap) (locs : List Loc) (ls : Array Slot), ql_S D h0 s H locs h → lv_has ls 9 [(0, .ref a0), (1, va_rf rl1), (2, va_rf rl2), (3, va_rf rl3), (4, va_rf rl4), (5, .int xl5)] → qw_L_law_2302 D.2 L9 xs9 a0 Q X k28 rl1 rl2 rl3 rl4 xl5 h → W p l e ({ frames := 2048, cells := 603072, slots := 7190633, locals := 94400 } : Room) s m ([.ref a0] : List Value).toArray below meth c H locs (1032 + (513 - (n + 1)) * 21) (15200 + (513 - (n + 1)) * 5126) (vx_MQ below (ql_Q D h0 (ql_rI Q)) (ql_X D h0 X) ([.ref a0] : List Value).toArray s 603072 7190633 (ql_A h0)) (F0 m 2302 ls []) := by
    intro n hn9 k28 hk28 rl1 rl2 rl3 rl4 xl5 h H locs ls S hl w
    unfold qw_L_law_2302 at w
    refine ql_aload_n (r := rl1) C dL_law_2302 rfl (lv_at hl 1 rfl) ?_
    refine ql_VI (As := []) (rest := []) C S htab hlocks hl qy_X11_amendmentTotal qi_X11_amendmentTotal qs_X11_amendmentTotal gw_682 (ci := 12) rfl w (fun b w => qm_X11_amendmentTotal l hl9 D _ b _ _ w) rfl ⟨Nat.le_of_ble_eq_true rfl, Nat.le_of_ble_eq_true rfl⟩ ⟨rfl, rfl⟩ (by exact Nat.le_of_ble_eq_true rfl) (fun b e9 => by cases e9; rfl) dL_law_2303 ⟨(by show _ ≤ (603072 : Nat); omega), (by show _ ≤ (7190633 : Nat); omega)⟩ ⟨(by show _ ≤ (603072 : Nat); omega), (by show _ ≤ (7190633 : Nat); omega)⟩ (fun x207 h H locs S w => ?_)
    refine W.cs (cells' := (1032 + (513 - (n + 1)) * 21)) (slots' := (15200 + (513 - (n + 1)) * 5126)) (by omega) (by omega) ?_
    refine ql_aload_n (r := rl2) C dL_law_2306 rfl (lv_at hl 2 rfl) ?_
    refine ql_VI (As := []) (rest := [.int x207]) C S htab hlocks hl qy_X12_amendmentTotal qi_X12_amendmentTotal qs_X12_amendmentTotal gw_2011 (ci := 13) rfl w (fun b w => qm_X12_amendmentTotal l hl9 D _ b _ _ w) rfl ⟨Nat.le_of_ble_eq_true rfl, Nat.le_of_ble_eq_true rfl⟩ ⟨rfl, rfl⟩ (by exact Nat.le_of_ble_eq_true rfl) (fun b e9 => by cases e9; rfl) dL_law_2307 ⟨(by show _ ≤ (603072 : Nat); omega), (by show _ ≤ (7190633 : Nat); omega)⟩ ⟨(by show _ ≤ (603072 : Nat); omega), (by show _ ≤ (7190633 : Nat); omega)⟩ (fun x209 h H locs S w => ?_)
    refine W.cs (cells' := (1032 + (513 - (n + 1)) * 21)) (slots' := (15200 + (513 - (n + 1)) * 5126)) (by omega) (by omega) ?_
    refine lv_icmp_eq (tgt := 2957) C.1.1 C.1.2.1 dL_law_2310 (by decide) (fun c9 => ?_) (fun c9 => ?_)
    · replace w := ql_if w c9
      refine W.cs (cells' := (1053 + (513 - (n + 1)) * 21)) (slots' := (20326 + (513 - (n + 1)) * 5126)) (by omega) (by omega) ?_
      exact hB2957 n hn9 k28 hk28 rl1 rl2 rl3 rl4 xl5 _ _ _ _ S (lv_sub hl [0, 1, 2, 3, 4, 5] rfl) w
    · replace w := ql_ifn w c9
      refine lv_iconst (v := (0 : Int32)) C.1.1 C.1.2.1 dL_law_2313 (by decide) ?_
      exact ql_zret C S hr hlocks dL_law_2314 ⟨(by show _ ≤ (603072 : Nat); omega), (by show _ ≤ (7190633 : Nat); omega)⟩ w
  have hB2315 : ∀ n : Nat, n + 1 ≤ 513 → ∀ (k28 : Option Nat → Option Nat → Option Nat → Option Nat → Int32 → ql_H → Prop) (hk28 : ∀ (rl1 : Option Nat) (rl2 : Option Nat) (rl3 : Option Nat) (rl4 : Option Nat) (xl5 : Int32) (h : ql_H) (H : Heap) (locs : List Loc) (ls : Array Slot), ql_S D h0 s H locs h → lv_has ls 9 [(0, .ref a0), (1, va_rf rl1), (2, va_rf rl2), (3, va_rf rl3), (4, va_rf rl4), (5, .int xl5)] → k28 rl1 rl2 rl3 rl4 xl5 h → W p l e ({ frames := 2048, cells := 603072, slots := 7190633, locals := 94400 } : Room) s m ([.ref a0] : List Value).toArray below meth c H locs (1032 + (513 - n) * 21) (15200 + (513 - n) * 5126) (vx_MQ below (ql_Q D h0 (ql_rI Q)) (ql_X D h0 X) ([.ref a0] : List Value).toArray s 603072 7190633 (ql_A h0)) (F0 m 28 ls [])) , ∀ (rl1 : Option Nat) (rl2 : Option Nat) (rl3 : Option Nat) (rl4 : Option Nat) (xl5 : Int32) (h : ql_H) (H : Heap) (locs : List Loc) (ls : Array Slot), ql_S D h0 s H locs h → lv_has ls 9 [(0, .ref a0), (1, va_rf rl1), (2, va_rf rl2), (3, va_rf rl3), (4, va_rf rl4), (5, .int xl5)] → qw_L_law_2315 D.2 L9 xs9 a0 Q X k28 rl1 rl2 rl3 rl4 xl5 h → W p l e ({ frames := 2048, cells := 603072, slots := 7190633, locals := 94400 } : Room) s m ([.ref a0] : List Value).toArray below meth c H locs (1032 + (513 - (n + 1)) * 21) (15200 + (513 - (n + 1)) * 5126) (vx_MQ below (ql_Q D h0 (ql_rI Q)) (ql_X D h0 X) ([.ref a0] : List Value).toArray s 603072 7190633 (ql_A h0)) (F0 m 2315 ls []) := by
    intro n hn9 k28 hk28 rl1 rl2 rl3 rl4 xl5 h H locs ls S hl w
    unfold qw_L_law_2315 at w
    refine ql_aload_n (r := rl1) C dL_law_2315 rfl (lv_at hl 1 rfl) ?_
    refine ql_VI (As := []) (rest := []) C S htab hlocks hl qy_X11_repealedTotal qi_X11_repealedTotal qs_X11_repealedTotal gw_686 (ci := 12) rfl w (fun b w => qm_X11_repealedTotal l hl9 D _ b _ _ w) rfl ⟨Nat.le_of_ble_eq_true rfl, Nat.le_of_ble_eq_true rfl⟩ ⟨rfl, rfl⟩ (by exact Nat.le_of_ble_eq_true rfl) (fun b e9 => by cases e9; rfl) dL_law_2316 ⟨(by show _ ≤ (603072 : Nat); omega), (by show _ ≤ (7190633 : Nat); omega)⟩ ⟨(by show _ ≤ (603072 : Nat); omega), (by show _ ≤ (7190633 : Nat); omega)⟩ (fun x211 h H locs S w => ?_)
    refine W.cs (cells' := (1032 + (513 - (n + 1)) * 21)) (slots' := (15200 + (513 - (n + 1)) * 5126)) (by omega) (by omega) ?_
    refine ql_aload_n (r := rl2) C dL_law_2319 rfl (lv_at hl 2 rfl) ?_
    refine ql_VI (As := []) (rest := [.int x211]) C S htab hlocks hl qy_X12_repealedTotal qi_X12_repealedTotal qs_X12_repealedTotal gw_2015 (ci := 13) rfl w (fun b w => qm_X12_repealedTotal l hl9 D _ b _ _ w) rfl ⟨Nat.le_of_ble_eq_true rfl, Nat.le_of_ble_eq_true rfl⟩ ⟨rfl, rfl⟩ (by exact Nat.le_of_ble_eq_true rfl) (fun b e9 => by cases e9; rfl) dL_law_2320 ⟨(by show _ ≤ (603072 : Nat); omega), (by show _ ≤ (7190633 : Nat); omega)⟩ ⟨(by show _ ≤ (603072 : Nat); omega), (by show _ ≤ (7190633 : Nat); omega)⟩ (fun x213 h H locs S w => ?_)
    refine W.cs (cells' := (1032 + (513 - (n + 1)) * 21)) (slots' := (15200 + (513 - (n + 1)) * 5126)) (by omega) (by omega) ?_
    refine lv_icmp_eq (tgt := 2957) C.1.1 C.1.2.1 dL_law_2323 (by decide) (fun c9 => ?_) (fun c9 => ?_)
    · replace w := ql_if w c9
      refine W.cs (cells' := (1053 + (513 - (n + 1)) * 21)) (slots' := (20326 + (513 - (n + 1)) * 5126)) (by omega) (by omega) ?_
      exact hB2957 n hn9 k28 hk28 rl1 rl2 rl3 rl4 xl5 _ _ _ _ S (lv_sub hl [0, 1, 2, 3, 4, 5] rfl) w
    · replace w := ql_ifn w c9
      refine lv_iconst (v := (0 : Int32)) C.1.1 C.1.2.1 dL_law_2326 (by decide) ?_
      exact ql_zret C S hr hlocks dL_law_2327 ⟨(by show _ ≤ (603072 : Nat); omega), (by show _ ≤ (7190633 : Nat); omega)⟩ w
  have hB2328 : ∀ n : Nat, n + 1 ≤ 513 → ∀ (k28 : Option Nat → Option Nat → Option Nat → Option Nat → Int32 → ql_H → Prop) (hk28 : ∀ (rl1 : Option Nat) (rl2 : Option Nat) (rl3 : Option Nat) (rl4 : Option Nat) (xl5 : Int32) (h : ql_H) (H : Heap) (locs : List Loc) (ls : Array Slot), ql_S D h0 s H locs h → lv_has ls 9 [(0, .ref a0), (1, va_rf rl1), (2, va_rf rl2), (3, va_rf rl3), (4, va_rf rl4), (5, .int xl5)] → k28 rl1 rl2 rl3 rl4 xl5 h → W p l e ({ frames := 2048, cells := 603072, slots := 7190633, locals := 94400 } : Room) s m ([.ref a0] : List Value).toArray below meth c H locs (1032 + (513 - n) * 21) (15200 + (513 - n) * 5126) (vx_MQ below (ql_Q D h0 (ql_rI Q)) (ql_X D h0 X) ([.ref a0] : List Value).toArray s 603072 7190633 (ql_A h0)) (F0 m 28 ls [])) , ∀ (rl1 : Option Nat) (rl2 : Option Nat) (rl3 : Option Nat) (rl4 : Option Nat) (xl5 : Int32) (h : ql_H) (H : Heap) (locs : List Loc) (ls : Array Slot), ql_S D h0 s H locs h → lv_has ls 9 [(0, .ref a0), (1, va_rf rl1), (2, va_rf rl2), (3, va_rf rl3), (4, va_rf rl4), (5, .int xl5)] → qw_L_law_2328 D.2 L9 xs9 a0 Q X k28 rl1 rl2 rl3 rl4 xl5 h → W p l e ({ frames := 2048, cells := 603072, slots := 7190633, locals := 94400 } : Room) s m ([.ref a0] : List Value).toArray below meth c H locs (1032 + (513 - (n + 1)) * 21) (15200 + (513 - (n + 1)) * 5126) (vx_MQ below (ql_Q D h0 (ql_rI Q)) (ql_X D h0 X) ([.ref a0] : List Value).toArray s 603072 7190633 (ql_A h0)) (F0 m 2328 ls []) := by
    intro n hn9 k28 hk28 rl1 rl2 rl3 rl4 xl5 h H locs ls S hl w
    unfold qw_L_law_2328 at w
    refine ql_aload_n (r := rl1) C dL_law_2328 rfl (lv_at hl 1 rfl) ?_
    refine ql_VI (As := []) (rest := []) C S htab hlocks hl qy_X11_consolidatedTotal qi_X11_consolidatedTotal qs_X11_consolidatedTotal gw_690 (ci := 12) rfl w (fun b w => qm_X11_consolidatedTotal l hl9 D _ b _ _ w) rfl ⟨Nat.le_of_ble_eq_true rfl, Nat.le_of_ble_eq_true rfl⟩ ⟨rfl, rfl⟩ (by exact Nat.le_of_ble_eq_true rfl) (fun b e9 => by cases e9; rfl) dL_law_2329 ⟨(by show _ ≤ (603072 : Nat); omega), (by show _ ≤ (7190633 : Nat); omega)⟩ ⟨(by show _ ≤ (603072 : Nat); omega), (by show _ ≤ (7190633 : Nat); omega)⟩ (fun x215 h H locs S w => ?_)
    refine W.cs (cells' := (1032 + (513 - (n + 1)) * 21)) (slots' := (15200 + (513 - (n + 1)) * 5126)) (by omega) (by omega) ?_
    refine ql_aload_n (r := rl2) C dL_law_2332 rfl (lv_at hl 2 rfl) ?_
    refine ql_VI (As := []) (rest := [.int x215]) C S htab hlocks hl qy_X12_consolidatedTotal qi_X12_consolidatedTotal qs_X12_consolidatedTotal gw_2019 (ci := 13) rfl w (fun b w => qm_X12_consolidatedTotal l hl9 D _ b _ _ w) rfl ⟨Nat.le_of_ble_eq_true rfl, Nat.le_of_ble_eq_true rfl⟩ ⟨rfl, rfl⟩ (by exact Nat.le_of_ble_eq_true rfl) (fun b e9 => by cases e9; rfl) dL_law_2333 ⟨(by show _ ≤ (603072 : Nat); omega), (by show _ ≤ (7190633 : Nat); omega)⟩ ⟨(by show _ ≤ (603072 : Nat); omega), (by show _ ≤ (7190633 : Nat); omega)⟩ (fun x217 h H locs S w => ?_)
    refine W.cs (cells' := (1032 + (513 - (n + 1)) * 21)) (slots' := (15200 + (513 - (n + 1)) * 5126)) (by omega) (by omega) ?_
    refine lv_icmp_eq (tgt := 2957) C.1.1 C.1.2.1 dL_law_2336 (by decide) (fun c9 => ?_) (fun c9 => ?_)
    · replace w := ql_if w c9
      refine W.cs (cells' := (1053 + (513 - (n + 1)) * 21)) (slots' := (20326 + (513 - (n + 1)) * 5126)) (by omega) (by omega) ?_
      exact hB2957 n hn9 k28 hk28 rl1 rl2 rl3 rl4 xl5 _ _ _ _ S (lv_sub hl [0, 1, 2, 3, 4, 5] rfl) w
    · replace w := ql_ifn w c9
      refine lv_iconst (v := (0 : Int32)) C.1.1 C.1.2.1 dL_law_2339 (by decide) ?_
      exact ql_zret C S hr hlocks dL_law_2340 ⟨(by show _ ≤ (603072 : Nat); omega), (by show _ ≤ (7190633 : Nat); omega)⟩ w
  have hB2341 : ∀ n : Nat, n + 1 ≤ 513 → ∀ (k28 : Option Nat → Option Nat → Option Nat → Option Nat → Int32 → ql_H → Prop) (hk28 : ∀ (rl1 : Option Nat) (rl2 : Option Nat) (rl3 : Option Nat) (rl4 : Option Nat) (xl5 : Int32) (h : ql_H) (H : Heap) (locs : List Loc) (ls : Array Slot), ql_S D h0 s H locs h → lv_has ls 9 [(0, .ref a0), (1, va_rf rl1), (2, va_rf rl2), (3, va_rf rl3), (4, va_rf rl4), (5, .int xl5)] → k28 rl1 rl2 rl3 rl4 xl5 h → W p l e ({ frames := 2048, cells := 603072, slots := 7190633, locals := 94400 } : Room) s m ([.ref a0] : List Value).toArray below meth c H locs (1032 + (513 - n) * 21) (15200 + (513 - n) * 5126) (vx_MQ below (ql_Q D h0 (ql_rI Q)) (ql_X D h0 X) ([.ref a0] : List Value).toArray s 603072 7190633 (ql_A h0)) (F0 m 28 ls [])) , ∀ (rl1 : Option Nat) (rl2 : Option Nat) (rl3 : Option Nat) (rl4 : Option Nat) (xl5 : Int32) (h : ql_H) (H : Heap) (locs : List Loc) (ls : Array Slot), ql_S D h0 s H locs h → lv_has ls 9 [(0, .ref a0), (1, va_rf rl1), (2, va_rf rl2), (3, va_rf rl3), (4, va_rf rl4), (5, .int xl5)] → qw_L_law_2341 D.2 L9 xs9 a0 Q X k28 rl1 rl2 rl3 rl4 xl5 h → W p l e ({ frames := 2048, cells := 603072, slots := 7190633, locals := 94400 } : Room) s m ([.ref a0] : List Value).toArray below meth c H locs (1032 + (513 - (n + 1)) * 21) (15200 + (513 - (n + 1)) * 5126) (vx_MQ below (ql_Q D h0 (ql_rI Q)) (ql_X D h0 X) ([.ref a0] : List Value).toArray s 603072 7190633 (ql_A h0)) (F0 m 2341 ls []) := by
    intro n hn9 k28 hk28 rl1 rl2 rl3 rl4 xl5 h H locs ls S hl w
    unfold qw_L_law_2341 at w
    refine ql_aload_n (r := rl1) C dL_law_2341 rfl (lv_at hl 1 rfl) ?_
    refine ql_VI (As := []) (rest := []) C S htab hlocks hl qy_X11_editionCount qi_X11_editionCount qs_X11_editionCount gw_694 (ci := 12) rfl w (fun b w => qm_X11_editionCount l hl9 D _ b _ _ w) rfl ⟨Nat.le_of_ble_eq_true rfl, Nat.le_of_ble_eq_true rfl⟩ ⟨rfl, rfl⟩ (by exact Nat.le_of_ble_eq_true rfl) (fun b e9 => by cases e9; rfl) dL_law_2342 ⟨(by show _ ≤ (603072 : Nat); omega), (by show _ ≤ (7190633 : Nat); omega)⟩ ⟨(by show _ ≤ (603072 : Nat); omega), (by show _ ≤ (7190633 : Nat); omega)⟩ (fun x219 h H locs S w => ?_)
    refine W.cs (cells' := (1032 + (513 - (n + 1)) * 21)) (slots' := (15200 + (513 - (n + 1)) * 5126)) (by omega) (by omega) ?_
    refine ql_aload_n (r := rl2) C dL_law_2345 rfl (lv_at hl 2 rfl) ?_
    refine ql_VI (As := []) (rest := [.int x219]) C S htab hlocks hl qy_X12_editionCount qi_X12_editionCount qs_X12_editionCount gw_2023 (ci := 13) rfl w (fun b w => qm_X12_editionCount l hl9 D _ b _ _ w) rfl ⟨Nat.le_of_ble_eq_true rfl, Nat.le_of_ble_eq_true rfl⟩ ⟨rfl, rfl⟩ (by exact Nat.le_of_ble_eq_true rfl) (fun b e9 => by cases e9; rfl) dL_law_2346 ⟨(by show _ ≤ (603072 : Nat); omega), (by show _ ≤ (7190633 : Nat); omega)⟩ ⟨(by show _ ≤ (603072 : Nat); omega), (by show _ ≤ (7190633 : Nat); omega)⟩ (fun x221 h H locs S w => ?_)
    refine W.cs (cells' := (1032 + (513 - (n + 1)) * 21)) (slots' := (15200 + (513 - (n + 1)) * 5126)) (by omega) (by omega) ?_
    refine lv_icmp_eq (tgt := 2957) C.1.1 C.1.2.1 dL_law_2349 (by decide) (fun c9 => ?_) (fun c9 => ?_)
    · replace w := ql_if w c9
      refine W.cs (cells' := (1053 + (513 - (n + 1)) * 21)) (slots' := (20326 + (513 - (n + 1)) * 5126)) (by omega) (by omega) ?_
      exact hB2957 n hn9 k28 hk28 rl1 rl2 rl3 rl4 xl5 _ _ _ _ S (lv_sub hl [0, 1, 2, 3, 4, 5] rfl) w
    · replace w := ql_ifn w c9
      refine lv_iconst (v := (0 : Int32)) C.1.1 C.1.2.1 dL_law_2352 (by decide) ?_
      exact ql_zret C S hr hlocks dL_law_2353 ⟨(by show _ ≤ (603072 : Nat); omega), (by show _ ≤ (7190633 : Nat); omega)⟩ w
  have hB2407 : ∀ n : Nat, n + 1 ≤ 513 → ∀ (k28 : Option Nat → Option Nat → Option Nat → Option Nat → Int32 → ql_H → Prop) (hk28 : ∀ (rl1 : Option Nat) (rl2 : Option Nat) (rl3 : Option Nat) (rl4 : Option Nat) (xl5 : Int32) (h : ql_H) (H : Heap) (locs : List Loc) (ls : Array Slot), ql_S D h0 s H locs h → lv_has ls 9 [(0, .ref a0), (1, va_rf rl1), (2, va_rf rl2), (3, va_rf rl3), (4, va_rf rl4), (5, .int xl5)] → k28 rl1 rl2 rl3 rl4 xl5 h → W p l e ({ frames := 2048, cells := 603072, slots := 7190633, locals := 94400 } : Room) s m ([.ref a0] : List Value).toArray below meth c H locs (1032 + (513 - n) * 21) (15200 + (513 - n) * 5126) (vx_MQ below (ql_Q D h0 (ql_rI Q)) (ql_X D h0 X) ([.ref a0] : List Value).toArray s 603072 7190633 (ql_A h0)) (F0 m 28 ls [])) , ∀ (rl1 : Option Nat) (rl2 : Option Nat) (rl3 : Option Nat) (rl4 : Option Nat) (xl5 : Int32) (h : ql_H) (H : Heap) (locs : List Loc) (ls : Array Slot), ql_S D h0 s H locs h → lv_has ls 9 [(0, .ref a0), (1, va_rf rl1), (2, va_rf rl2), (3, va_rf rl3), (4, va_rf rl4), (5, .int xl5)] → qw_L_law_2407 D.2 L9 xs9 a0 Q X k28 rl1 rl2 rl3 rl4 xl5 h → W p l e ({ frames := 2048, cells := 603072, slots := 7190633, locals := 94400 } : Room) s m ([.ref a0] : List Value).toArray below meth c H locs (1033 + (513 - (n + 1)) * 21) (15206 + (513 - (n + 1)) * 5126) (vx_MQ below (ql_Q D h0 (ql_rI Q)) (ql_X D h0 X) ([.ref a0] : List Value).toArray s 603072 7190633 (ql_A h0)) (F0 m 2407 ls []) := by
    intro n hn9 k28 hk28 rl1 rl2 rl3 rl4 xl5 h H locs ls S hl w
    unfold qw_L_law_2407 at w
    refine lv_goto (tgt := 2957) C.1.1 C.1.2.1 dL_law_2407 (by decide) ?_
    refine W.cs (cells' := (1053 + (513 - (n + 1)) * 21)) (slots' := (20326 + (513 - (n + 1)) * 5126)) (by omega) (by omega) ?_
    exact hB2957 n hn9 k28 hk28 rl1 rl2 rl3 rl4 xl5 _ _ _ _ S (lv_sub hl [0, 1, 2, 3, 4, 5] rfl) w
  have hB2354 : ∀ n : Nat, n + 1 ≤ 513 → ∀ (k28 : Option Nat → Option Nat → Option Nat → Option Nat → Int32 → ql_H → Prop) (hk28 : ∀ (rl1 : Option Nat) (rl2 : Option Nat) (rl3 : Option Nat) (rl4 : Option Nat) (xl5 : Int32) (h : ql_H) (H : Heap) (locs : List Loc) (ls : Array Slot), ql_S D h0 s H locs h → lv_has ls 9 [(0, .ref a0), (1, va_rf rl1), (2, va_rf rl2), (3, va_rf rl3), (4, va_rf rl4), (5, .int xl5)] → k28 rl1 rl2 rl3 rl4 xl5 h → W p l e ({ frames := 2048, cells := 603072, slots := 7190633, locals := 94400 } : Room) s m ([.ref a0] : List Value).toArray below meth c H locs (1032 + (513 - n) * 21) (15200 + (513 - n) * 5126) (vx_MQ below (ql_Q D h0 (ql_rI Q)) (ql_X D h0 X) ([.ref a0] : List Value).toArray s 603072 7190633 (ql_A h0)) (F0 m 28 ls [])) , ∀ (rl1 : Option Nat) (rl2 : Option Nat) (rl3 : Option Nat) (rl4 : Option Nat) (xl5 : Int32) (h : ql_H) (H : Heap) (locs : List Loc) (ls : Array Slot), ql_S D h0 s H locs h → lv_has ls 9 [(0, .ref a0), (1, va_rf rl1), (2, va_rf rl2), (3, va_rf rl3), (4, va_rf rl4), (5, .int xl5)] → qw_L_law_2354 D.2 L9 xs9 a0 Q X k28 rl1 rl2 rl3 rl4 xl5 h → W p l e ({ frames := 2048, cells := 603072, slots := 7190633, locals := 94400 } : Room) s m ([.ref a0] : List Value).toArray below meth c H locs (1032 + (513 - (n + 1)) * 21) (15200 + (513 - (n + 1)) * 5126) (vx_MQ below (ql_Q D h0 (ql_rI Q)) (ql_X D h0 X) ([.ref a0] : List Value).toArray s 603072 7190633 (ql_A h0)) (F0 m 2354 ls []) := by
    intro n hn9 k28 hk28 rl1 rl2 rl3 rl4 xl5 h H locs ls S hl w
    unfold qw_L_law_2354 at w
    refine ql_aload_n (r := rl1) C dL_law_2354 rfl (lv_at hl 1 rfl) ?_
    refine ql_aload_n (r := (some a0)) C dL_law_2355 rfl (lv_at hl 0 rfl) ?_
    refine lv_iload C.1.1 C.1.2.1 dL_law_2356 (lv_at hl 5 rfl) ?_
    refine lv_iconst (v := (1 : Int32)) C.1.1 C.1.2.1 dL_law_2358 (by decide) ?_
    refine lv_iadd C.1.1 C.1.2.1 dL_law_2359 ?_
    refine ql_sld C S hX w.1 dL_law_2360 ?_
    replace w := w.2
    refine ql_aload_n (r := rl3) C dL_law_2361 rfl (lv_at hl 3 rfl) ?_
    refine ql_SHI (As := [va_rf rl1, .int (xs9 (xl5 + (1 : Int32)).toNatClampNeg), va_rf rl3]) (rest := []) C S hl qyh_L_editionDay gw_1151 (qm_L_editionDay l hl9 D _ rl1 (xs9 (xl5 + (1 : Int32)).toNatClampNeg) rl3 _ _ w) rfl ⟨Nat.le_of_ble_eq_true rfl, Nat.le_of_ble_eq_true rfl⟩ ⟨rfl, rfl⟩ (by exact Nat.le_of_ble_eq_true rfl) rfl dL_law_2362 ⟨(by show _ ≤ (603072 : Nat); omega), (by show _ ≤ (7190633 : Nat); omega)⟩ (fun x223 h H locs S w => ?_)
    refine W.cs (cells' := (1033 + (513 - (n + 1)) * 21)) (slots' := (15206 + (513 - (n + 1)) * 5126)) (by omega) (by omega) ?_
    refine lv_istore (lv' := [(6, .int x223), (0, .ref a0), (1, va_rf rl1), (2, va_rf rl2), (3, va_rf rl3), (4, va_rf rl4), (5, .int xl5)]) C.1.1 C.1.2.1 dL_law_2365 hl (by decide) rfl (fun ls hl => ?_)
    refine ql_aload_n (r := rl2) C dL_law_2367 rfl (lv_at hl 3 rfl) ?_
    refine ql_aload_n (r := (some a0)) C dL_law_2368 rfl (lv_at hl 1 rfl) ?_
    refine lv_iload C.1.1 C.1.2.1 dL_law_2369 (lv_at hl 6 rfl) ?_
    refine lv_iconst (v := (1 : Int32)) C.1.1 C.1.2.1 dL_law_2371 (by decide) ?_
    refine lv_iadd C.1.1 C.1.2.1 dL_law_2372 ?_
    refine ql_sld C S hX w.1 dL_law_2373 ?_
    replace w := w.2
    refine ql_VI (As := [.int (xs9 (xl5 + (1 : Int32)).toNatClampNeg)]) (rest := []) C S htab hlocks hl qy_X12_editionDay qi_X12_editionDay qs_X12_editionDay gw_2027 (ci := 13) rfl w (fun b w => qm_X12_editionDay l hl9 D _ b (xs9 (xl5 + (1 : Int32)).toNatClampNeg) _ _ w) rfl ⟨Nat.le_of_ble_eq_true rfl, Nat.le_of_ble_eq_true rfl⟩ ⟨rfl, rfl⟩ (by exact Nat.le_of_ble_eq_true rfl) (fun b e9 => by cases e9; rfl) dL_law_2374 ⟨(by show _ ≤ (603072 : Nat); omega), (by show _ ≤ (7190633 : Nat); omega)⟩ ⟨(by show _ ≤ (603072 : Nat); omega), (by show _ ≤ (7190633 : Nat); omega)⟩ (fun x224 h H locs S w => ?_)
    refine W.cs (cells' := (1033 + (513 - (n + 1)) * 21)) (slots' := (15206 + (513 - (n + 1)) * 5126)) (by omega) (by omega) ?_
    refine lv_istore (lv' := [(7, .int x224), (6, .int x223), (0, .ref a0), (1, va_rf rl1), (2, va_rf rl2), (3, va_rf rl3), (4, va_rf rl4), (5, .int xl5)]) C.1.1 C.1.2.1 dL_law_2377 hl (by decide) rfl (fun ls hl => ?_)
    refine ql_aload_n (r := rl2) C dL_law_2379 rfl (lv_at hl 4 rfl) ?_
    refine ql_VI (As := []) (rest := []) C S htab hlocks hl qy_X12_thrown qi_X12_thrown qs_X12_thrown gw_1727 (ci := 13) rfl w (fun b w => qm_X12_thrown l hl9 D _ b _ _ w) rfl ⟨Nat.le_of_ble_eq_true rfl, Nat.le_of_ble_eq_true rfl⟩ ⟨rfl, rfl⟩ (by exact Nat.le_of_ble_eq_true rfl) (fun b e9 => by cases e9; rfl) dL_law_2380 ⟨(by show _ ≤ (603072 : Nat); omega), (by show _ ≤ (7190633 : Nat); omega)⟩ ⟨(by show _ ≤ (603072 : Nat); omega), (by show _ ≤ (7190633 : Nat); omega)⟩ (fun x226 h H locs S w => ?_)
    refine W.cs (cells' := (1033 + (513 - (n + 1)) * 21)) (slots' := (15206 + (513 - (n + 1)) * 5126)) (by omega) (by omega) ?_
    refine lv_iload C.1.1 C.1.2.1 dL_law_2383 (lv_at hl 1 rfl) ?_
    refine lv_icmp_eq (tgt := 2390) C.1.1 C.1.2.1 dL_law_2385 (by decide) (fun c9 => ?_) (fun c9 => ?_)
    · replace w := ql_if w c9
      refine lv_iload C.1.1 C.1.2.1 dL_law_2390 (lv_at hl 1 rfl) ?_
      refine lv_if_ne (tgt := 2407) C.1.1 C.1.2.1 dL_law_2392 (by decide) (fun c9 => ?_) (fun c9 => ?_)
      · replace w := ql_ifn w c9
        exact hB2407 n hn9 k28 hk28 rl1 rl2 rl3 rl4 xl5 _ _ _ _ S (lv_sub hl [2, 3, 4, 5, 6, 7] rfl) w
      · replace w := ql_if w c9
        refine ql_aload_n (r := rl3) C dL_law_2395 rfl (lv_at hl 5 rfl) ?_
        refine lv_iconst (v := (0 : Int32)) C.1.1 C.1.2.1 dL_law_2396 (by decide) ?_
        refine ql_lald C S dL_law_2397 w (fun j228 w => ?_)
        refine lv_iload C.1.1 C.1.2.1 dL_law_2398 (lv_at hl 0 rfl) ?_
        refine lv_i2l C.1.1 C.1.2.1 dL_law_2400 rfl ?_
        refine W.lcmp C.1.1 C.1.2.1 dL_law_2401 ?_
        refine lv_if_eq (tgt := 2407) C.1.1 C.1.2.1 dL_law_2402 (by decide) (fun c9 => ?_) (fun c9 => ?_)
        · replace w := ql_if w c9
          exact hB2407 n hn9 k28 hk28 rl1 rl2 rl3 rl4 xl5 _ _ _ _ S (lv_sub hl [2, 3, 4, 5, 6, 7] rfl) w
        · replace w := ql_ifn w c9
          refine lv_iconst (v := (0 : Int32)) C.1.1 C.1.2.1 dL_law_2405 (by decide) ?_
          exact ql_zret C S hr hlocks dL_law_2406 ⟨(by show _ ≤ (603072 : Nat); omega), (by show _ ≤ (7190633 : Nat); omega)⟩ w
    · replace w := ql_ifn w c9
      refine lv_iconst (v := (0 : Int32)) C.1.1 C.1.2.1 dL_law_2388 (by decide) ?_
      exact ql_zret C S hr hlocks dL_law_2389 ⟨(by show _ ≤ (603072 : Nat); omega), (by show _ ≤ (7190633 : Nat); omega)⟩ w
  have hB2472 : ∀ n : Nat, n + 1 ≤ 513 → ∀ (k28 : Option Nat → Option Nat → Option Nat → Option Nat → Int32 → ql_H → Prop) (hk28 : ∀ (rl1 : Option Nat) (rl2 : Option Nat) (rl3 : Option Nat) (rl4 : Option Nat) (xl5 : Int32) (h : ql_H) (H : Heap) (locs : List Loc) (ls : Array Slot), ql_S D h0 s H locs h → lv_has ls 9 [(0, .ref a0), (1, va_rf rl1), (2, va_rf rl2), (3, va_rf rl3), (4, va_rf rl4), (5, .int xl5)] → k28 rl1 rl2 rl3 rl4 xl5 h → W p l e ({ frames := 2048, cells := 603072, slots := 7190633, locals := 94400 } : Room) s m ([.ref a0] : List Value).toArray below meth c H locs (1032 + (513 - n) * 21) (15200 + (513 - n) * 5126) (vx_MQ below (ql_Q D h0 (ql_rI Q)) (ql_X D h0 X) ([.ref a0] : List Value).toArray s 603072 7190633 (ql_A h0)) (F0 m 28 ls [])) , ∀ (rl1 : Option Nat) (rl2 : Option Nat) (rl3 : Option Nat) (rl4 : Option Nat) (xl5 : Int32) (h : ql_H) (H : Heap) (locs : List Loc) (ls : Array Slot), ql_S D h0 s H locs h → lv_has ls 9 [(0, .ref a0), (1, va_rf rl1), (2, va_rf rl2), (3, va_rf rl3), (4, va_rf rl4), (5, .int xl5)] → qw_L_law_2472 D.2 L9 xs9 a0 Q X k28 rl1 rl2 rl3 rl4 xl5 h → W p l e ({ frames := 2048, cells := 603072, slots := 7190633, locals := 94400 } : Room) s m ([.ref a0] : List Value).toArray below meth c H locs (1033 + (513 - (n + 1)) * 21) (15206 + (513 - (n + 1)) * 5126) (vx_MQ below (ql_Q D h0 (ql_rI Q)) (ql_X D h0 X) ([.ref a0] : List Value).toArray s 603072 7190633 (ql_A h0)) (F0 m 2472 ls []) := by
    intro n hn9 k28 hk28 rl1 rl2 rl3 rl4 xl5 h H locs ls S hl w
    unfold qw_L_law_2472 at w
    refine lv_goto (tgt := 2957) C.1.1 C.1.2.1 dL_law_2472 (by decide) ?_
    refine W.cs (cells' := (1053 + (513 - (n + 1)) * 21)) (slots' := (20326 + (513 - (n + 1)) * 5126)) (by omega) (by omega) ?_
    exact hB2957 n hn9 k28 hk28 rl1 rl2 rl3 rl4 xl5 _ _ _ _ S (lv_sub hl [0, 1, 2, 3, 4, 5] rfl) w
  have hB2410 : ∀ n : Nat, n + 1 ≤ 513 → ∀ (k28 : Option Nat → Option Nat → Option Nat → Option Nat → Int32 → ql_H → Prop) (hk28 : ∀ (rl1 : Option Nat) (rl2 : Option Nat) (rl3 : Option Nat) (rl4 : Option Nat) (xl5 : Int32) (h : ql_H) (H : Heap) (locs : List Loc) (ls : Array Slot), ql_S D h0 s H locs h → lv_has ls 9 [(0, .ref a0), (1, va_rf rl1), (2, va_rf rl2), (3, va_rf rl3), (4, va_rf rl4), (5, .int xl5)] → k28 rl1 rl2 rl3 rl4 xl5 h → W p l e ({ frames := 2048, cells := 603072, slots := 7190633, locals := 94400 } : Room) s m ([.ref a0] : List Value).toArray below meth c H locs (1032 + (513 - n) * 21) (15200 + (513 - n) * 5126) (vx_MQ below (ql_Q D h0 (ql_rI Q)) (ql_X D h0 X) ([.ref a0] : List Value).toArray s 603072 7190633 (ql_A h0)) (F0 m 28 ls [])) , ∀ (rl1 : Option Nat) (rl2 : Option Nat) (rl3 : Option Nat) (rl4 : Option Nat) (xl5 : Int32) (h : ql_H) (H : Heap) (locs : List Loc) (ls : Array Slot), ql_S D h0 s H locs h → lv_has ls 9 [(0, .ref a0), (1, va_rf rl1), (2, va_rf rl2), (3, va_rf rl3), (4, va_rf rl4), (5, .int xl5)] → qw_L_law_2410 D.2 L9 xs9 a0 Q X k28 rl1 rl2 rl3 rl4 xl5 h → W p l e ({ frames := 2048, cells := 603072, slots := 7190633, locals := 94400 } : Room) s m ([.ref a0] : List Value).toArray below meth c H locs (1032 + (513 - (n + 1)) * 21) (15200 + (513 - (n + 1)) * 5126) (vx_MQ below (ql_Q D h0 (ql_rI Q)) (ql_X D h0 X) ([.ref a0] : List Value).toArray s 603072 7190633 (ql_A h0)) (F0 m 2410 ls []) := by
    intro n hn9 k28 hk28 rl1 rl2 rl3 rl4 xl5 h H locs ls S hl w
    unfold qw_L_law_2410 at w
    refine ql_aload_n (r := rl1) C dL_law_2410 rfl (lv_at hl 1 rfl) ?_
    refine ql_aload (r := rl4) C dL_law_2411 (lv_at hl 4 rfl) ?_
    refine ql_SHI (As := [va_rf rl1, va_rf rl4]) (rest := []) C S hl qyh_L_meanLength gw_1162 (qm_L_meanLength l hl9 D _ rl1 rl4 _ _ w) rfl ⟨Nat.le_of_ble_eq_true rfl, Nat.le_of_ble_eq_true rfl⟩ ⟨rfl, rfl⟩ (by exact Nat.le_of_ble_eq_true rfl) rfl dL_law_2413 ⟨(by show _ ≤ (603072 : Nat); omega), (by show _ ≤ (7190633 : Nat); omega)⟩ (fun x229 h H locs S w => ?_)
    refine W.cs (cells' := (1033 + (513 - (n + 1)) * 21)) (slots' := (15206 + (513 - (n + 1)) * 5126)) (by omega) (by omega) ?_
    refine lv_istore (lv' := [(6, .int x229), (0, .ref a0), (1, va_rf rl1), (2, va_rf rl2), (3, va_rf rl3), (4, va_rf rl4), (5, .int xl5)]) C.1.1 C.1.2.1 dL_law_2416 hl (by decide) rfl (fun ls hl => ?_)
    refine ql_aload_n (r := rl2) C dL_law_2418 rfl (lv_at hl 3 rfl) ?_
    refine ql_VD (As := []) (rest := []) C S htab hlocks hl qy_X12_meanLength qi_X12_meanLength qs_X12_meanLength gw_2031 (ci := 13) rfl w (fun b w => qm_X12_meanLength l hl9 D _ b _ _ w) rfl ⟨Nat.le_of_ble_eq_true rfl, Nat.le_of_ble_eq_true rfl⟩ ⟨rfl, rfl⟩ (by exact Nat.le_of_ble_eq_true rfl) (fun b e9 => by cases e9; rfl) dL_law_2419 ⟨(by show _ ≤ (603072 : Nat); omega), (by show _ ≤ (7190633 : Nat); omega)⟩ ⟨(by show _ ≤ (603072 : Nat); omega), (by show _ ≤ (7190633 : Nat); omega)⟩ (fun d230 h H locs S w => ?_)
    refine W.cs (cells' := (1033 + (513 - (n + 1)) * 21)) (slots' := (15206 + (513 - (n + 1)) * 5126)) (by omega) (by omega) ?_
    refine lv_dstore (lv' := [(7, .double d230), (6, .int x229), (0, .ref a0), (1, va_rf rl1), (2, va_rf rl2), (3, va_rf rl3), (4, va_rf rl4), (5, .int xl5)]) C.1.1 C.1.2.1 dL_law_2422 hl (by decide) rfl (fun ls hl => ?_)
    refine ql_aload_n (r := rl2) C dL_law_2424 rfl (lv_at hl 4 rfl) ?_
    refine ql_VI (As := []) (rest := []) C S htab hlocks hl qy_X12_thrown qi_X12_thrown qs_X12_thrown gw_1727 (ci := 13) rfl w (fun b w => qm_X12_thrown l hl9 D _ b _ _ w) rfl ⟨Nat.le_of_ble_eq_true rfl, Nat.le_of_ble_eq_true rfl⟩ ⟨rfl, rfl⟩ (by exact Nat.le_of_ble_eq_true rfl) (fun b e9 => by cases e9; rfl) dL_law_2425 ⟨(by show _ ≤ (603072 : Nat); omega), (by show _ ≤ (7190633 : Nat); omega)⟩ ⟨(by show _ ≤ (603072 : Nat); omega), (by show _ ≤ (7190633 : Nat); omega)⟩ (fun x232 h H locs S w => ?_)
    refine W.cs (cells' := (1033 + (513 - (n + 1)) * 21)) (slots' := (15206 + (513 - (n + 1)) * 5126)) (by omega) (by omega) ?_
    refine lv_iload C.1.1 C.1.2.1 dL_law_2428 (lv_at hl 1 rfl) ?_
    refine lv_icmp_eq (tgt := 2435) C.1.1 C.1.2.1 dL_law_2430 (by decide) (fun c9 => ?_) (fun c9 => ?_)
    · replace w := ql_if w c9
      refine lv_iload C.1.1 C.1.2.1 dL_law_2435 (lv_at hl 1 rfl) ?_
      refine lv_if_ne (tgt := 2472) C.1.1 C.1.2.1 dL_law_2437 (by decide) (fun c9 => ?_) (fun c9 => ?_)
      · replace w := ql_ifn w c9
        exact hB2472 n hn9 k28 hk28 rl1 rl2 rl3 rl4 xl5 _ _ _ _ S (lv_sub hl [2, 3, 4, 5, 6, 7] rfl) w
      · replace w := ql_if w c9
        refine ql_aload (r := rl4) C dL_law_2440 (lv_at hl 6 rfl) ?_
        refine lv_iconst (v := (0 : Int32)) C.1.1 C.1.2.1 dL_law_2442 (by decide) ?_
        refine ql_dald C S dL_law_2443 w (fun d234 w => ?_)
        refine lv_dload C.1.1 C.1.2.1 dL_law_2444 (lv_at hl 0 rfl) ?_
        refine lv_dcmp C.1.1 C.1.2.1 dL_law_2446 ?_
        refine lv_if_eq (tgt := 2472) C.1.1 C.1.2.1 dL_law_2447 (by decide) (fun c9 => ?_) (fun c9 => ?_)
        · replace w := ql_if w c9
          exact hB2472 n hn9 k28 hk28 rl1 rl2 rl3 rl4 xl5 _ _ _ _ S (lv_sub hl [2, 3, 4, 5, 6, 7] rfl) w
        · replace w := ql_ifn w c9
          refine ql_aload (r := rl4) C dL_law_2450 (lv_at hl 6 rfl) ?_
          refine lv_iconst (v := (0 : Int32)) C.1.1 C.1.2.1 dL_law_2452 (by decide) ?_
          refine ql_dald C S dL_law_2453 w (fun d235 w => ?_)
          refine ql_aload (r := rl4) C dL_law_2454 (lv_at hl 6 rfl) ?_
          refine lv_iconst (v := (0 : Int32)) C.1.1 C.1.2.1 dL_law_2456 (by decide) ?_
          refine ql_dald C S dL_law_2457 w (fun d236 w => ?_)
          refine lv_dcmp C.1.1 C.1.2.1 dL_law_2458 ?_
          refine lv_if_eq (tgt := 2470) C.1.1 C.1.2.1 dL_law_2459 (by decide) (fun c9 => ?_) (fun c9 => ?_)
          · replace w := ql_if w c9
            refine lv_iconst (v := (0 : Int32)) C.1.1 C.1.2.1 dL_law_2470 (by decide) ?_
            exact ql_zret C S hr hlocks dL_law_2471 ⟨(by show _ ≤ (603072 : Nat); omega), (by show _ ≤ (7190633 : Nat); omega)⟩ w
          · replace w := ql_ifn w c9
            refine lv_dload C.1.1 C.1.2.1 dL_law_2462 (lv_at hl 0 rfl) ?_
            refine lv_dload C.1.1 C.1.2.1 dL_law_2464 (lv_at hl 0 rfl) ?_
            refine lv_dcmp C.1.1 C.1.2.1 dL_law_2466 ?_
            refine lv_if_ne (tgt := 2472) C.1.1 C.1.2.1 dL_law_2467 (by decide) (fun c9 => ?_) (fun c9 => ?_)
            · replace w := ql_ifn w c9
              exact hB2472 n hn9 k28 hk28 rl1 rl2 rl3 rl4 xl5 _ _ _ _ S (lv_sub hl [2, 3, 4, 5, 6, 7] rfl) w
            · replace w := ql_if w c9
              refine lv_iconst (v := (0 : Int32)) C.1.1 C.1.2.1 dL_law_2470 (by decide) ?_
              exact ql_zret C S hr hlocks dL_law_2471 ⟨(by show _ ≤ (603072 : Nat); omega), (by show _ ≤ (7190633 : Nat); omega)⟩ w
    · replace w := ql_ifn w c9
      refine lv_iconst (v := (0 : Int32)) C.1.1 C.1.2.1 dL_law_2433 (by decide) ?_
      exact ql_zret C S hr hlocks dL_law_2434 ⟨(by show _ ≤ (603072 : Nat); omega), (by show _ ≤ (7190633 : Nat); omega)⟩ w
  have hB2538 : ∀ n : Nat, n + 1 ≤ 513 → ∀ (k28 : Option Nat → Option Nat → Option Nat → Option Nat → Int32 → ql_H → Prop) (hk28 : ∀ (rl1 : Option Nat) (rl2 : Option Nat) (rl3 : Option Nat) (rl4 : Option Nat) (xl5 : Int32) (h : ql_H) (H : Heap) (locs : List Loc) (ls : Array Slot), ql_S D h0 s H locs h → lv_has ls 9 [(0, .ref a0), (1, va_rf rl1), (2, va_rf rl2), (3, va_rf rl3), (4, va_rf rl4), (5, .int xl5)] → k28 rl1 rl2 rl3 rl4 xl5 h → W p l e ({ frames := 2048, cells := 603072, slots := 7190633, locals := 94400 } : Room) s m ([.ref a0] : List Value).toArray below meth c H locs (1032 + (513 - n) * 21) (15200 + (513 - n) * 5126) (vx_MQ below (ql_Q D h0 (ql_rI Q)) (ql_X D h0 X) ([.ref a0] : List Value).toArray s 603072 7190633 (ql_A h0)) (F0 m 28 ls [])) , ∀ (rl1 : Option Nat) (rl2 : Option Nat) (rl3 : Option Nat) (rl4 : Option Nat) (xl5 : Int32) (h : ql_H) (H : Heap) (locs : List Loc) (ls : Array Slot), ql_S D h0 s H locs h → lv_has ls 9 [(0, .ref a0), (1, va_rf rl1), (2, va_rf rl2), (3, va_rf rl3), (4, va_rf rl4), (5, .int xl5)] → qw_L_law_2538 D.2 L9 xs9 a0 Q X k28 rl1 rl2 rl3 rl4 xl5 h → W p l e ({ frames := 2048, cells := 603072, slots := 7190633, locals := 94400 } : Room) s m ([.ref a0] : List Value).toArray below meth c H locs (1033 + (513 - (n + 1)) * 21) (15206 + (513 - (n + 1)) * 5126) (vx_MQ below (ql_Q D h0 (ql_rI Q)) (ql_X D h0 X) ([.ref a0] : List Value).toArray s 603072 7190633 (ql_A h0)) (F0 m 2538 ls []) := by
    intro n hn9 k28 hk28 rl1 rl2 rl3 rl4 xl5 h H locs ls S hl w
    unfold qw_L_law_2538 at w
    refine lv_goto (tgt := 2957) C.1.1 C.1.2.1 dL_law_2538 (by decide) ?_
    refine W.cs (cells' := (1053 + (513 - (n + 1)) * 21)) (slots' := (20326 + (513 - (n + 1)) * 5126)) (by omega) (by omega) ?_
    exact hB2957 n hn9 k28 hk28 rl1 rl2 rl3 rl4 xl5 _ _ _ _ S (lv_sub hl [0, 1, 2, 3, 4, 5] rfl) w
  have hB2475 : ∀ n : Nat, n + 1 ≤ 513 → ∀ (k28 : Option Nat → Option Nat → Option Nat → Option Nat → Int32 → ql_H → Prop) (hk28 : ∀ (rl1 : Option Nat) (rl2 : Option Nat) (rl3 : Option Nat) (rl4 : Option Nat) (xl5 : Int32) (h : ql_H) (H : Heap) (locs : List Loc) (ls : Array Slot), ql_S D h0 s H locs h → lv_has ls 9 [(0, .ref a0), (1, va_rf rl1), (2, va_rf rl2), (3, va_rf rl3), (4, va_rf rl4), (5, .int xl5)] → k28 rl1 rl2 rl3 rl4 xl5 h → W p l e ({ frames := 2048, cells := 603072, slots := 7190633, locals := 94400 } : Room) s m ([.ref a0] : List Value).toArray below meth c H locs (1032 + (513 - n) * 21) (15200 + (513 - n) * 5126) (vx_MQ below (ql_Q D h0 (ql_rI Q)) (ql_X D h0 X) ([.ref a0] : List Value).toArray s 603072 7190633 (ql_A h0)) (F0 m 28 ls [])) , ∀ (rl1 : Option Nat) (rl2 : Option Nat) (rl3 : Option Nat) (rl4 : Option Nat) (xl5 : Int32) (h : ql_H) (H : Heap) (locs : List Loc) (ls : Array Slot), ql_S D h0 s H locs h → lv_has ls 9 [(0, .ref a0), (1, va_rf rl1), (2, va_rf rl2), (3, va_rf rl3), (4, va_rf rl4), (5, .int xl5)] → qw_L_law_2475 D.2 L9 xs9 a0 Q X k28 rl1 rl2 rl3 rl4 xl5 h → W p l e ({ frames := 2048, cells := 603072, slots := 7190633, locals := 94400 } : Room) s m ([.ref a0] : List Value).toArray below meth c H locs (1032 + (513 - (n + 1)) * 21) (15200 + (513 - (n + 1)) * 5126) (vx_MQ below (ql_Q D h0 (ql_rI Q)) (ql_X D h0 X) ([.ref a0] : List Value).toArray s 603072 7190633 (ql_A h0)) (F0 m 2475 ls []) := by
    intro n hn9 k28 hk28 rl1 rl2 rl3 rl4 xl5 h H locs ls S hl w
    unfold qw_L_law_2475 at w
    refine ql_aload_n (r := rl1) C dL_law_2475 rfl (lv_at hl 1 rfl) ?_
    refine ql_aload (r := rl4) C dL_law_2476 (lv_at hl 4 rfl) ?_
    refine ql_SHI (As := [va_rf rl1, va_rf rl4]) (rest := []) C S hl qyh_L_inForceShare gw_1192 (qm_L_inForceShare l hl9 D _ rl1 rl4 _ _ w) rfl ⟨Nat.le_of_ble_eq_true rfl, Nat.le_of_ble_eq_true rfl⟩ ⟨rfl, rfl⟩ (by exact Nat.le_of_ble_eq_true rfl) rfl dL_law_2478 ⟨(by show _ ≤ (603072 : Nat); omega), (by show _ ≤ (7190633 : Nat); omega)⟩ (fun x237 h H locs S w => ?_)
    refine W.cs (cells' := (1033 + (513 - (n + 1)) * 21)) (slots' := (15206 + (513 - (n + 1)) * 5126)) (by omega) (by omega) ?_
    refine lv_istore (lv' := [(6, .int x237), (0, .ref a0), (1, va_rf rl1), (2, va_rf rl2), (3, va_rf rl3), (4, va_rf rl4), (5, .int xl5)]) C.1.1 C.1.2.1 dL_law_2481 hl (by decide) rfl (fun ls hl => ?_)
    refine ql_aload_n (r := rl2) C dL_law_2483 rfl (lv_at hl 3 rfl) ?_
    refine ql_VF (As := []) (rest := []) C S htab hlocks hl qy_X12_inForceShare qi_X12_inForceShare qs_X12_inForceShare gw_2035 (ci := 13) rfl w (fun b w => qm_X12_inForceShare l hl9 D _ b _ _ w) rfl ⟨Nat.le_of_ble_eq_true rfl, Nat.le_of_ble_eq_true rfl⟩ ⟨rfl, rfl⟩ (by exact Nat.le_of_ble_eq_true rfl) (fun b e9 => by cases e9; rfl) dL_law_2484 ⟨(by show _ ≤ (603072 : Nat); omega), (by show _ ≤ (7190633 : Nat); omega)⟩ ⟨(by show _ ≤ (603072 : Nat); omega), (by show _ ≤ (7190633 : Nat); omega)⟩ (fun f238 h H locs S w => ?_)
    refine W.cs (cells' := (1033 + (513 - (n + 1)) * 21)) (slots' := (15206 + (513 - (n + 1)) * 5126)) (by omega) (by omega) ?_
    refine lv_fstore (lv' := [(7, .float f238), (6, .int x237), (0, .ref a0), (1, va_rf rl1), (2, va_rf rl2), (3, va_rf rl3), (4, va_rf rl4), (5, .int xl5)]) C.1.1 C.1.2.1 dL_law_2487 hl (by decide) rfl (fun ls hl => ?_)
    refine ql_aload_n (r := rl2) C dL_law_2489 rfl (lv_at hl 4 rfl) ?_
    refine ql_VI (As := []) (rest := []) C S htab hlocks hl qy_X12_thrown qi_X12_thrown qs_X12_thrown gw_1727 (ci := 13) rfl w (fun b w => qm_X12_thrown l hl9 D _ b _ _ w) rfl ⟨Nat.le_of_ble_eq_true rfl, Nat.le_of_ble_eq_true rfl⟩ ⟨rfl, rfl⟩ (by exact Nat.le_of_ble_eq_true rfl) (fun b e9 => by cases e9; rfl) dL_law_2490 ⟨(by show _ ≤ (603072 : Nat); omega), (by show _ ≤ (7190633 : Nat); omega)⟩ ⟨(by show _ ≤ (603072 : Nat); omega), (by show _ ≤ (7190633 : Nat); omega)⟩ (fun x240 h H locs S w => ?_)
    refine W.cs (cells' := (1033 + (513 - (n + 1)) * 21)) (slots' := (15206 + (513 - (n + 1)) * 5126)) (by omega) (by omega) ?_
    refine lv_iload C.1.1 C.1.2.1 dL_law_2493 (lv_at hl 1 rfl) ?_
    refine lv_icmp_eq (tgt := 2500) C.1.1 C.1.2.1 dL_law_2495 (by decide) (fun c9 => ?_) (fun c9 => ?_)
    · replace w := ql_if w c9
      refine lv_iload C.1.1 C.1.2.1 dL_law_2500 (lv_at hl 1 rfl) ?_
      refine lv_if_ne (tgt := 2538) C.1.1 C.1.2.1 dL_law_2502 (by decide) (fun c9 => ?_) (fun c9 => ?_)
      · replace w := ql_ifn w c9
        exact hB2538 n hn9 k28 hk28 rl1 rl2 rl3 rl4 xl5 _ _ _ _ S (lv_sub hl [2, 3, 4, 5, 6, 7] rfl) w
      · replace w := ql_if w c9
        refine ql_aload (r := rl4) C dL_law_2505 (lv_at hl 6 rfl) ?_
        refine lv_iconst (v := (0 : Int32)) C.1.1 C.1.2.1 dL_law_2507 (by decide) ?_
        refine ql_dald C S dL_law_2508 w (fun d242 w => ?_)
        refine lv_fload C.1.1 C.1.2.1 dL_law_2509 (lv_at hl 0 rfl) ?_
        refine lv_f2d C.1.1 C.1.2.1 dL_law_2511 w.1 ?_
        replace w := w.2
        refine lv_dcmp C.1.1 C.1.2.1 dL_law_2512 ?_
        refine lv_if_eq (tgt := 2538) C.1.1 C.1.2.1 dL_law_2513 (by decide) (fun c9 => ?_) (fun c9 => ?_)
        · replace w := ql_if w c9
          exact hB2538 n hn9 k28 hk28 rl1 rl2 rl3 rl4 xl5 _ _ _ _ S (lv_sub hl [2, 3, 4, 5, 6, 7] rfl) w
        · replace w := ql_ifn w c9
          refine ql_aload (r := rl4) C dL_law_2516 (lv_at hl 6 rfl) ?_
          refine lv_iconst (v := (0 : Int32)) C.1.1 C.1.2.1 dL_law_2518 (by decide) ?_
          refine ql_dald C S dL_law_2519 w (fun d243 w => ?_)
          refine ql_aload (r := rl4) C dL_law_2520 (lv_at hl 6 rfl) ?_
          refine lv_iconst (v := (0 : Int32)) C.1.1 C.1.2.1 dL_law_2522 (by decide) ?_
          refine ql_dald C S dL_law_2523 w (fun d244 w => ?_)
          refine lv_dcmp C.1.1 C.1.2.1 dL_law_2524 ?_
          refine lv_if_eq (tgt := 2536) C.1.1 C.1.2.1 dL_law_2525 (by decide) (fun c9 => ?_) (fun c9 => ?_)
          · replace w := ql_if w c9
            refine lv_iconst (v := (0 : Int32)) C.1.1 C.1.2.1 dL_law_2536 (by decide) ?_
            exact ql_zret C S hr hlocks dL_law_2537 ⟨(by show _ ≤ (603072 : Nat); omega), (by show _ ≤ (7190633 : Nat); omega)⟩ w
          · replace w := ql_ifn w c9
            refine lv_fload C.1.1 C.1.2.1 dL_law_2528 (lv_at hl 0 rfl) ?_
            refine lv_fload C.1.1 C.1.2.1 dL_law_2530 (lv_at hl 0 rfl) ?_
            refine lv_fcmp C.1.1 C.1.2.1 dL_law_2532 ?_
            refine lv_if_ne (tgt := 2538) C.1.1 C.1.2.1 dL_law_2533 (by decide) (fun c9 => ?_) (fun c9 => ?_)
            · replace w := ql_ifn w c9
              exact hB2538 n hn9 k28 hk28 rl1 rl2 rl3 rl4 xl5 _ _ _ _ S (lv_sub hl [2, 3, 4, 5, 6, 7] rfl) w
            · replace w := ql_if w c9
              refine lv_iconst (v := (0 : Int32)) C.1.1 C.1.2.1 dL_law_2536 (by decide) ?_
              exact ql_zret C S hr hlocks dL_law_2537 ⟨(by show _ ≤ (603072 : Nat); omega), (by show _ ≤ (7190633 : Nat); omega)⟩ w
    · replace w := ql_ifn w c9
      refine lv_iconst (v := (0 : Int32)) C.1.1 C.1.2.1 dL_law_2498 (by decide) ?_
      exact ql_zret C S hr hlocks dL_law_2499 ⟨(by show _ ≤ (603072 : Nat); omega), (by show _ ≤ (7190633 : Nat); omega)⟩ w
  have hB2541 : ∀ n : Nat, n + 1 ≤ 513 → ∀ (k28 : Option Nat → Option Nat → Option Nat → Option Nat → Int32 → ql_H → Prop) (hk28 : ∀ (rl1 : Option Nat) (rl2 : Option Nat) (rl3 : Option Nat) (rl4 : Option Nat) (xl5 : Int32) (h : ql_H) (H : Heap) (locs : List Loc) (ls : Array Slot), ql_S D h0 s H locs h → lv_has ls 9 [(0, .ref a0), (1, va_rf rl1), (2, va_rf rl2), (3, va_rf rl3), (4, va_rf rl4), (5, .int xl5)] → k28 rl1 rl2 rl3 rl4 xl5 h → W p l e ({ frames := 2048, cells := 603072, slots := 7190633, locals := 94400 } : Room) s m ([.ref a0] : List Value).toArray below meth c H locs (1032 + (513 - n) * 21) (15200 + (513 - n) * 5126) (vx_MQ below (ql_Q D h0 (ql_rI Q)) (ql_X D h0 X) ([.ref a0] : List Value).toArray s 603072 7190633 (ql_A h0)) (F0 m 28 ls [])) , ∀ (rl1 : Option Nat) (rl2 : Option Nat) (rl3 : Option Nat) (rl4 : Option Nat) (xl5 : Int32) (h : ql_H) (H : Heap) (locs : List Loc) (ls : Array Slot), ql_S D h0 s H locs h → lv_has ls 9 [(0, .ref a0), (1, va_rf rl1), (2, va_rf rl2), (3, va_rf rl3), (4, va_rf rl4), (5, .int xl5)] → qw_L_law_2541 D.2 L9 xs9 a0 Q X k28 rl1 rl2 rl3 rl4 xl5 h → W p l e ({ frames := 2048, cells := 603072, slots := 7190633, locals := 94400 } : Room) s m ([.ref a0] : List Value).toArray below meth c H locs (1032 + (513 - (n + 1)) * 21) (15200 + (513 - (n + 1)) * 5126) (vx_MQ below (ql_Q D h0 (ql_rI Q)) (ql_X D h0 X) ([.ref a0] : List Value).toArray s 603072 7190633 (ql_A h0)) (F0 m 2541 ls []) := by
    intro n hn9 k28 hk28 rl1 rl2 rl3 rl4 xl5 h H locs ls S hl w
    unfold qw_L_law_2541 at w
    refine ql_aload_n (r := rl1) C dL_law_2541 rfl (lv_at hl 1 rfl) ?_
    refine ql_VI (As := []) (rest := []) C S htab hlocks hl qy_X11_isConsistent qi_X11_isConsistent qs_X11_isConsistent gw_698 (ci := 12) rfl w (fun b w => qm_X11_isConsistent l hl9 D _ b _ _ w) rfl ⟨Nat.le_of_ble_eq_true rfl, Nat.le_of_ble_eq_true rfl⟩ ⟨rfl, rfl⟩ (by exact Nat.le_of_ble_eq_true rfl) (fun b e9 => by cases e9; rfl) dL_law_2542 ⟨(by show _ ≤ (603072 : Nat); omega), (by show _ ≤ (7190633 : Nat); omega)⟩ ⟨(by show _ ≤ (603072 : Nat); omega), (by show _ ≤ (7190633 : Nat); omega)⟩ (fun x245 h H locs S w => ?_)
    refine W.cs (cells' := (1032 + (513 - (n + 1)) * 21)) (slots' := (15200 + (513 - (n + 1)) * 5126)) (by omega) (by omega) ?_
    refine ql_aload_n (r := rl2) C dL_law_2545 rfl (lv_at hl 2 rfl) ?_
    refine ql_VI (As := []) (rest := [.int x245]) C S htab hlocks hl qy_X12_isConsistent qi_X12_isConsistent qs_X12_isConsistent gw_2039 (ci := 13) rfl w (fun b w => qm_X12_isConsistent l hl9 D _ b _ _ w) rfl ⟨Nat.le_of_ble_eq_true rfl, Nat.le_of_ble_eq_true rfl⟩ ⟨rfl, rfl⟩ (by exact Nat.le_of_ble_eq_true rfl) (fun b e9 => by cases e9; rfl) dL_law_2546 ⟨(by show _ ≤ (603072 : Nat); omega), (by show _ ≤ (7190633 : Nat); omega)⟩ ⟨(by show _ ≤ (603072 : Nat); omega), (by show _ ≤ (7190633 : Nat); omega)⟩ (fun x247 h H locs S w => ?_)
    refine W.cs (cells' := (1032 + (513 - (n + 1)) * 21)) (slots' := (15200 + (513 - (n + 1)) * 5126)) (by omega) (by omega) ?_
    refine lv_icmp_eq (tgt := 2957) C.1.1 C.1.2.1 dL_law_2549 (by decide) (fun c9 => ?_) (fun c9 => ?_)
    · replace w := ql_if w c9
      refine W.cs (cells' := (1053 + (513 - (n + 1)) * 21)) (slots' := (20326 + (513 - (n + 1)) * 5126)) (by omega) (by omega) ?_
      exact hB2957 n hn9 k28 hk28 rl1 rl2 rl3 rl4 xl5 _ _ _ _ S (lv_sub hl [0, 1, 2, 3, 4, 5] rfl) w
    · replace w := ql_ifn w c9
      refine lv_iconst (v := (0 : Int32)) C.1.1 C.1.2.1 dL_law_2552 (by decide) ?_
      exact ql_zret C S hr hlocks dL_law_2553 ⟨(by show _ ≤ (603072 : Nat); omega), (by show _ ≤ (7190633 : Nat); omega)⟩ w
  have hB2607 : ∀ n : Nat, n + 1 ≤ 513 → ∀ (k28 : Option Nat → Option Nat → Option Nat → Option Nat → Int32 → ql_H → Prop) (hk28 : ∀ (rl1 : Option Nat) (rl2 : Option Nat) (rl3 : Option Nat) (rl4 : Option Nat) (xl5 : Int32) (h : ql_H) (H : Heap) (locs : List Loc) (ls : Array Slot), ql_S D h0 s H locs h → lv_has ls 9 [(0, .ref a0), (1, va_rf rl1), (2, va_rf rl2), (3, va_rf rl3), (4, va_rf rl4), (5, .int xl5)] → k28 rl1 rl2 rl3 rl4 xl5 h → W p l e ({ frames := 2048, cells := 603072, slots := 7190633, locals := 94400 } : Room) s m ([.ref a0] : List Value).toArray below meth c H locs (1032 + (513 - n) * 21) (15200 + (513 - n) * 5126) (vx_MQ below (ql_Q D h0 (ql_rI Q)) (ql_X D h0 X) ([.ref a0] : List Value).toArray s 603072 7190633 (ql_A h0)) (F0 m 28 ls [])) , ∀ (rl1 : Option Nat) (rl2 : Option Nat) (rl3 : Option Nat) (rl4 : Option Nat) (xl5 : Int32) (h : ql_H) (H : Heap) (locs : List Loc) (ls : Array Slot), ql_S D h0 s H locs h → lv_has ls 9 [(0, .ref a0), (1, va_rf rl1), (2, va_rf rl2), (3, va_rf rl3), (4, va_rf rl4), (5, .int xl5)] → qw_L_law_2607 D.2 L9 xs9 a0 Q X k28 rl1 rl2 rl3 rl4 xl5 h → W p l e ({ frames := 2048, cells := 603072, slots := 7190633, locals := 94400 } : Room) s m ([.ref a0] : List Value).toArray below meth c H locs (1053 + (513 - (n + 1)) * 21) (20326 + (513 - (n + 1)) * 5126) (vx_MQ below (ql_Q D h0 (ql_rI Q)) (ql_X D h0 X) ([.ref a0] : List Value).toArray s 603072 7190633 (ql_A h0)) (F0 m 2607 ls []) := by
    intro n hn9 k28 hk28 rl1 rl2 rl3 rl4 xl5 h H locs ls S hl w
    unfold qw_L_law_2607 at w
    refine lv_goto (tgt := 2957) C.1.1 C.1.2.1 dL_law_2607 (by decide) ?_
    exact hB2957 n hn9 k28 hk28 rl1 rl2 rl3 rl4 xl5 _ _ _ _ S (lv_sub hl [0, 1, 2, 3, 4, 5] rfl) w
  have hB2554 : ∀ n : Nat, n + 1 ≤ 513 → ∀ (k28 : Option Nat → Option Nat → Option Nat → Option Nat → Int32 → ql_H → Prop) (hk28 : ∀ (rl1 : Option Nat) (rl2 : Option Nat) (rl3 : Option Nat) (rl4 : Option Nat) (xl5 : Int32) (h : ql_H) (H : Heap) (locs : List Loc) (ls : Array Slot), ql_S D h0 s H locs h → lv_has ls 9 [(0, .ref a0), (1, va_rf rl1), (2, va_rf rl2), (3, va_rf rl3), (4, va_rf rl4), (5, .int xl5)] → k28 rl1 rl2 rl3 rl4 xl5 h → W p l e ({ frames := 2048, cells := 603072, slots := 7190633, locals := 94400 } : Room) s m ([.ref a0] : List Value).toArray below meth c H locs (1032 + (513 - n) * 21) (15200 + (513 - n) * 5126) (vx_MQ below (ql_Q D h0 (ql_rI Q)) (ql_X D h0 X) ([.ref a0] : List Value).toArray s 603072 7190633 (ql_A h0)) (F0 m 28 ls [])) , ∀ (rl1 : Option Nat) (rl2 : Option Nat) (rl3 : Option Nat) (rl4 : Option Nat) (xl5 : Int32) (h : ql_H) (H : Heap) (locs : List Loc) (ls : Array Slot), ql_S D h0 s H locs h → lv_has ls 9 [(0, .ref a0), (1, va_rf rl1), (2, va_rf rl2), (3, va_rf rl3), (4, va_rf rl4), (5, .int xl5)] → qw_L_law_2554 D.2 L9 xs9 a0 Q X k28 rl1 rl2 rl3 rl4 xl5 h → W p l e ({ frames := 2048, cells := 603072, slots := 7190633, locals := 94400 } : Room) s m ([.ref a0] : List Value).toArray below meth c H locs (1032 + (513 - (n + 1)) * 21) (15200 + (513 - (n + 1)) * 5126) (vx_MQ below (ql_Q D h0 (ql_rI Q)) (ql_X D h0 X) ([.ref a0] : List Value).toArray s 603072 7190633 (ql_A h0)) (F0 m 2554 ls []) := by
    intro n hn9 k28 hk28 rl1 rl2 rl3 rl4 xl5 h H locs ls S hl w
    unfold qw_L_law_2554 at w
    refine ql_aload_n (r := rl1) C dL_law_2554 rfl (lv_at hl 1 rfl) ?_
    refine ql_aload_n (r := (some a0)) C dL_law_2555 rfl (lv_at hl 0 rfl) ?_
    refine lv_iload C.1.1 C.1.2.1 dL_law_2556 (lv_at hl 5 rfl) ?_
    refine lv_iconst (v := (1 : Int32)) C.1.1 C.1.2.1 dL_law_2558 (by decide) ?_
    refine lv_iadd C.1.1 C.1.2.1 dL_law_2559 ?_
    refine ql_sld C S hX w.1 dL_law_2560 ?_
    replace w := w.2
    refine ql_aload_n (r := rl3) C dL_law_2561 rfl (lv_at hl 3 rfl) ?_
    refine ql_SHI (As := [va_rf rl1, .int (xs9 (xl5 + (1 : Int32)).toNatClampNeg), va_rf rl3]) (rest := []) C S hl qyh_L_renderClause gw_1199 (qm_L_renderClause l hl9 D _ rl1 (xs9 (xl5 + (1 : Int32)).toNatClampNeg) rl3 _ _ w) rfl ⟨Nat.le_of_ble_eq_true rfl, Nat.le_of_ble_eq_true rfl⟩ ⟨rfl, rfl⟩ (by exact Nat.le_of_ble_eq_true rfl) rfl dL_law_2562 ⟨(by show _ ≤ (603072 : Nat); omega), (by show _ ≤ (7190633 : Nat); omega)⟩ (fun x249 h H locs S w => ?_)
    refine W.cs (cells' := (1053 + (513 - (n + 1)) * 21)) (slots' := (20326 + (513 - (n + 1)) * 5126)) (by omega) (by omega) ?_
    refine lv_istore (lv' := [(6, .int x249), (0, .ref a0), (1, va_rf rl1), (2, va_rf rl2), (3, va_rf rl3), (4, va_rf rl4), (5, .int xl5)]) C.1.1 C.1.2.1 dL_law_2565 hl (by decide) rfl (fun ls hl => ?_)
    refine ql_aload_n (r := rl2) C dL_law_2567 rfl (lv_at hl 3 rfl) ?_
    refine ql_aload_n (r := (some a0)) C dL_law_2568 rfl (lv_at hl 1 rfl) ?_
    refine lv_iload C.1.1 C.1.2.1 dL_law_2569 (lv_at hl 6 rfl) ?_
    refine lv_iconst (v := (1 : Int32)) C.1.1 C.1.2.1 dL_law_2571 (by decide) ?_
    refine lv_iadd C.1.1 C.1.2.1 dL_law_2572 ?_
    refine ql_sld C S hX w.1 dL_law_2573 ?_
    replace w := w.2
    refine ql_VI (As := [.int (xs9 (xl5 + (1 : Int32)).toNatClampNeg)]) (rest := []) C S htab hlocks hl qy_X12_renderClause qi_X12_renderClause qs_X12_renderClause gw_2043 (ci := 13) rfl w (fun b w => qm_X12_renderClause l hl9 D _ b (xs9 (xl5 + (1 : Int32)).toNatClampNeg) _ _ w) rfl ⟨Nat.le_of_ble_eq_true rfl, Nat.le_of_ble_eq_true rfl⟩ ⟨rfl, rfl⟩ (by exact Nat.le_of_ble_eq_true rfl) (fun b e9 => by cases e9; rfl) dL_law_2574 ⟨(by show _ ≤ (603072 : Nat); omega), (by show _ ≤ (7190633 : Nat); omega)⟩ ⟨(by show _ ≤ (603072 : Nat); omega), (by show _ ≤ (7190633 : Nat); omega)⟩ (fun x250 h H locs S w => ?_)
    refine W.cs (cells' := (1053 + (513 - (n + 1)) * 21)) (slots' := (20326 + (513 - (n + 1)) * 5126)) (by omega) (by omega) ?_
    refine lv_istore (lv' := [(7, .int x250), (6, .int x249), (0, .ref a0), (1, va_rf rl1), (2, va_rf rl2), (3, va_rf rl3), (4, va_rf rl4), (5, .int xl5)]) C.1.1 C.1.2.1 dL_law_2577 hl (by decide) rfl (fun ls hl => ?_)
    refine ql_aload_n (r := rl2) C dL_law_2579 rfl (lv_at hl 4 rfl) ?_
    refine ql_VI (As := []) (rest := []) C S htab hlocks hl qy_X12_thrown qi_X12_thrown qs_X12_thrown gw_1727 (ci := 13) rfl w (fun b w => qm_X12_thrown l hl9 D _ b _ _ w) rfl ⟨Nat.le_of_ble_eq_true rfl, Nat.le_of_ble_eq_true rfl⟩ ⟨rfl, rfl⟩ (by exact Nat.le_of_ble_eq_true rfl) (fun b e9 => by cases e9; rfl) dL_law_2580 ⟨(by show _ ≤ (603072 : Nat); omega), (by show _ ≤ (7190633 : Nat); omega)⟩ ⟨(by show _ ≤ (603072 : Nat); omega), (by show _ ≤ (7190633 : Nat); omega)⟩ (fun x252 h H locs S w => ?_)
    refine W.cs (cells' := (1053 + (513 - (n + 1)) * 21)) (slots' := (20326 + (513 - (n + 1)) * 5126)) (by omega) (by omega) ?_
    refine lv_iload C.1.1 C.1.2.1 dL_law_2583 (lv_at hl 1 rfl) ?_
    refine lv_icmp_eq (tgt := 2590) C.1.1 C.1.2.1 dL_law_2585 (by decide) (fun c9 => ?_) (fun c9 => ?_)
    · replace w := ql_if w c9
      refine lv_iload C.1.1 C.1.2.1 dL_law_2590 (lv_at hl 1 rfl) ?_
      refine lv_if_ne (tgt := 2607) C.1.1 C.1.2.1 dL_law_2592 (by decide) (fun c9 => ?_) (fun c9 => ?_)
      · replace w := ql_ifn w c9
        exact hB2607 n hn9 k28 hk28 rl1 rl2 rl3 rl4 xl5 _ _ _ _ S (lv_sub hl [2, 3, 4, 5, 6, 7] rfl) w
      · replace w := ql_if w c9
        refine ql_aload_n (r := rl3) C dL_law_2595 rfl (lv_at hl 5 rfl) ?_
        refine lv_iconst (v := (0 : Int32)) C.1.1 C.1.2.1 dL_law_2596 (by decide) ?_
        refine ql_lald C S dL_law_2597 w (fun j254 w => ?_)
        refine lv_iload C.1.1 C.1.2.1 dL_law_2598 (lv_at hl 0 rfl) ?_
        refine lv_i2l C.1.1 C.1.2.1 dL_law_2600 rfl ?_
        refine W.lcmp C.1.1 C.1.2.1 dL_law_2601 ?_
        refine lv_if_eq (tgt := 2607) C.1.1 C.1.2.1 dL_law_2602 (by decide) (fun c9 => ?_) (fun c9 => ?_)
        · replace w := ql_if w c9
          exact hB2607 n hn9 k28 hk28 rl1 rl2 rl3 rl4 xl5 _ _ _ _ S (lv_sub hl [2, 3, 4, 5, 6, 7] rfl) w
        · replace w := ql_ifn w c9
          refine lv_iconst (v := (0 : Int32)) C.1.1 C.1.2.1 dL_law_2605 (by decide) ?_
          exact ql_zret C S hr hlocks dL_law_2606 ⟨(by show _ ≤ (603072 : Nat); omega), (by show _ ≤ (7190633 : Nat); omega)⟩ w
    · replace w := ql_ifn w c9
      refine lv_iconst (v := (0 : Int32)) C.1.1 C.1.2.1 dL_law_2588 (by decide) ?_
      exact ql_zret C S hr hlocks dL_law_2589 ⟨(by show _ ≤ (603072 : Nat); omega), (by show _ ≤ (7190633 : Nat); omega)⟩ w
  have hB2663 : ∀ n : Nat, n + 1 ≤ 513 → ∀ (k28 : Option Nat → Option Nat → Option Nat → Option Nat → Int32 → ql_H → Prop) (hk28 : ∀ (rl1 : Option Nat) (rl2 : Option Nat) (rl3 : Option Nat) (rl4 : Option Nat) (xl5 : Int32) (h : ql_H) (H : Heap) (locs : List Loc) (ls : Array Slot), ql_S D h0 s H locs h → lv_has ls 9 [(0, .ref a0), (1, va_rf rl1), (2, va_rf rl2), (3, va_rf rl3), (4, va_rf rl4), (5, .int xl5)] → k28 rl1 rl2 rl3 rl4 xl5 h → W p l e ({ frames := 2048, cells := 603072, slots := 7190633, locals := 94400 } : Room) s m ([.ref a0] : List Value).toArray below meth c H locs (1032 + (513 - n) * 21) (15200 + (513 - n) * 5126) (vx_MQ below (ql_Q D h0 (ql_rI Q)) (ql_X D h0 X) ([.ref a0] : List Value).toArray s 603072 7190633 (ql_A h0)) (F0 m 28 ls [])) , ∀ (rl1 : Option Nat) (rl2 : Option Nat) (rl3 : Option Nat) (rl4 : Option Nat) (xl5 : Int32) (h : ql_H) (H : Heap) (locs : List Loc) (ls : Array Slot), ql_S D h0 s H locs h → lv_has ls 9 [(0, .ref a0), (1, va_rf rl1), (2, va_rf rl2), (3, va_rf rl3), (4, va_rf rl4), (5, .int xl5)] → qw_L_law_2663 D.2 L9 xs9 a0 Q X k28 rl1 rl2 rl3 rl4 xl5 h → W p l e ({ frames := 2048, cells := 603072, slots := 7190633, locals := 94400 } : Room) s m ([.ref a0] : List Value).toArray below meth c H locs (1033 + (513 - (n + 1)) * 21) (15206 + (513 - (n + 1)) * 5126) (vx_MQ below (ql_Q D h0 (ql_rI Q)) (ql_X D h0 X) ([.ref a0] : List Value).toArray s 603072 7190633 (ql_A h0)) (F0 m 2663 ls []) := by
    intro n hn9 k28 hk28 rl1 rl2 rl3 rl4 xl5 h H locs ls S hl w
    unfold qw_L_law_2663 at w
    refine lv_goto (tgt := 2957) C.1.1 C.1.2.1 dL_law_2663 (by decide) ?_
    refine W.cs (cells' := (1053 + (513 - (n + 1)) * 21)) (slots' := (20326 + (513 - (n + 1)) * 5126)) (by omega) (by omega) ?_
    exact hB2957 n hn9 k28 hk28 rl1 rl2 rl3 rl4 xl5 _ _ _ _ S (lv_sub hl [0, 1, 2, 3, 4, 5] rfl) w
  have hB2610 : ∀ n : Nat, n + 1 ≤ 513 → ∀ (k28 : Option Nat → Option Nat → Option Nat → Option Nat → Int32 → ql_H → Prop) (hk28 : ∀ (rl1 : Option Nat) (rl2 : Option Nat) (rl3 : Option Nat) (rl4 : Option Nat) (xl5 : Int32) (h : ql_H) (H : Heap) (locs : List Loc) (ls : Array Slot), ql_S D h0 s H locs h → lv_has ls 9 [(0, .ref a0), (1, va_rf rl1), (2, va_rf rl2), (3, va_rf rl3), (4, va_rf rl4), (5, .int xl5)] → k28 rl1 rl2 rl3 rl4 xl5 h → W p l e ({ frames := 2048, cells := 603072, slots := 7190633, locals := 94400 } : Room) s m ([.ref a0] : List Value).toArray below meth c H locs (1032 + (513 - n) * 21) (15200 + (513 - n) * 5126) (vx_MQ below (ql_Q D h0 (ql_rI Q)) (ql_X D h0 X) ([.ref a0] : List Value).toArray s 603072 7190633 (ql_A h0)) (F0 m 28 ls [])) , ∀ (rl1 : Option Nat) (rl2 : Option Nat) (rl3 : Option Nat) (rl4 : Option Nat) (xl5 : Int32) (h : ql_H) (H : Heap) (locs : List Loc) (ls : Array Slot), ql_S D h0 s H locs h → lv_has ls 9 [(0, .ref a0), (1, va_rf rl1), (2, va_rf rl2), (3, va_rf rl3), (4, va_rf rl4), (5, .int xl5)] → qw_L_law_2610 D.2 L9 xs9 a0 Q X k28 rl1 rl2 rl3 rl4 xl5 h → W p l e ({ frames := 2048, cells := 603072, slots := 7190633, locals := 94400 } : Room) s m ([.ref a0] : List Value).toArray below meth c H locs (1032 + (513 - (n + 1)) * 21) (15200 + (513 - (n + 1)) * 5126) (vx_MQ below (ql_Q D h0 (ql_rI Q)) (ql_X D h0 X) ([.ref a0] : List Value).toArray s 603072 7190633 (ql_A h0)) (F0 m 2610 ls []) := by
    intro n hn9 k28 hk28 rl1 rl2 rl3 rl4 xl5 h H locs ls S hl w
    unfold qw_L_law_2610 at w
    refine ql_aload_n (r := rl1) C dL_law_2610 rfl (lv_at hl 1 rfl) ?_
    refine ql_aload_n (r := (some a0)) C dL_law_2611 rfl (lv_at hl 0 rfl) ?_
    refine lv_iload C.1.1 C.1.2.1 dL_law_2612 (lv_at hl 5 rfl) ?_
    refine lv_iconst (v := (1 : Int32)) C.1.1 C.1.2.1 dL_law_2614 (by decide) ?_
    refine lv_iadd C.1.1 C.1.2.1 dL_law_2615 ?_
    refine ql_sld C S hX w.1 dL_law_2616 ?_
    replace w := w.2
    refine ql_aload_n (r := rl3) C dL_law_2617 rfl (lv_at hl 3 rfl) ?_
    refine ql_SHI (As := [va_rf rl1, .int (xs9 (xl5 + (1 : Int32)).toNatClampNeg), va_rf rl3]) (rest := []) C S hl qyh_L_outputAt gw_1490 (qm_L_outputAt l hl9 D _ rl1 (xs9 (xl5 + (1 : Int32)).toNatClampNeg) rl3 _ _ w) rfl ⟨Nat.le_of_ble_eq_true rfl, Nat.le_of_ble_eq_true rfl⟩ ⟨rfl, rfl⟩ (by exact Nat.le_of_ble_eq_true rfl) rfl dL_law_2618 ⟨(by show _ ≤ (603072 : Nat); omega), (by show _ ≤ (7190633 : Nat); omega)⟩ (fun x255 h H locs S w => ?_)
    refine W.cs (cells' := (1033 + (513 - (n + 1)) * 21)) (slots' := (15206 + (513 - (n + 1)) * 5126)) (by omega) (by omega) ?_
    refine lv_istore (lv' := [(6, .int x255), (0, .ref a0), (1, va_rf rl1), (2, va_rf rl2), (3, va_rf rl3), (4, va_rf rl4), (5, .int xl5)]) C.1.1 C.1.2.1 dL_law_2621 hl (by decide) rfl (fun ls hl => ?_)
    refine ql_aload_n (r := rl2) C dL_law_2623 rfl (lv_at hl 3 rfl) ?_
    refine ql_aload_n (r := (some a0)) C dL_law_2624 rfl (lv_at hl 1 rfl) ?_
    refine lv_iload C.1.1 C.1.2.1 dL_law_2625 (lv_at hl 6 rfl) ?_
    refine lv_iconst (v := (1 : Int32)) C.1.1 C.1.2.1 dL_law_2627 (by decide) ?_
    refine lv_iadd C.1.1 C.1.2.1 dL_law_2628 ?_
    refine ql_sld C S hX w.1 dL_law_2629 ?_
    replace w := w.2
    refine ql_VI (As := [.int (xs9 (xl5 + (1 : Int32)).toNatClampNeg)]) (rest := []) C S htab hlocks hl qy_X12_outputAt qi_X12_outputAt qs_X12_outputAt gw_2055 (ci := 13) rfl w (fun b w => qm_X12_outputAt l hl9 D _ b (xs9 (xl5 + (1 : Int32)).toNatClampNeg) _ _ w) rfl ⟨Nat.le_of_ble_eq_true rfl, Nat.le_of_ble_eq_true rfl⟩ ⟨rfl, rfl⟩ (by exact Nat.le_of_ble_eq_true rfl) (fun b e9 => by cases e9; rfl) dL_law_2630 ⟨(by show _ ≤ (603072 : Nat); omega), (by show _ ≤ (7190633 : Nat); omega)⟩ ⟨(by show _ ≤ (603072 : Nat); omega), (by show _ ≤ (7190633 : Nat); omega)⟩ (fun x256 h H locs S w => ?_)
    refine W.cs (cells' := (1033 + (513 - (n + 1)) * 21)) (slots' := (15206 + (513 - (n + 1)) * 5126)) (by omega) (by omega) ?_
    refine lv_istore (lv' := [(7, .int x256), (6, .int x255), (0, .ref a0), (1, va_rf rl1), (2, va_rf rl2), (3, va_rf rl3), (4, va_rf rl4), (5, .int xl5)]) C.1.1 C.1.2.1 dL_law_2633 hl (by decide) rfl (fun ls hl => ?_)
    refine ql_aload_n (r := rl2) C dL_law_2635 rfl (lv_at hl 4 rfl) ?_
    refine ql_VI (As := []) (rest := []) C S htab hlocks hl qy_X12_thrown qi_X12_thrown qs_X12_thrown gw_1727 (ci := 13) rfl w (fun b w => qm_X12_thrown l hl9 D _ b _ _ w) rfl ⟨Nat.le_of_ble_eq_true rfl, Nat.le_of_ble_eq_true rfl⟩ ⟨rfl, rfl⟩ (by exact Nat.le_of_ble_eq_true rfl) (fun b e9 => by cases e9; rfl) dL_law_2636 ⟨(by show _ ≤ (603072 : Nat); omega), (by show _ ≤ (7190633 : Nat); omega)⟩ ⟨(by show _ ≤ (603072 : Nat); omega), (by show _ ≤ (7190633 : Nat); omega)⟩ (fun x258 h H locs S w => ?_)
    refine W.cs (cells' := (1033 + (513 - (n + 1)) * 21)) (slots' := (15206 + (513 - (n + 1)) * 5126)) (by omega) (by omega) ?_
    refine lv_iload C.1.1 C.1.2.1 dL_law_2639 (lv_at hl 1 rfl) ?_
    refine lv_icmp_eq (tgt := 2646) C.1.1 C.1.2.1 dL_law_2641 (by decide) (fun c9 => ?_) (fun c9 => ?_)
    · replace w := ql_if w c9
      refine lv_iload C.1.1 C.1.2.1 dL_law_2646 (lv_at hl 1 rfl) ?_
      refine lv_if_ne (tgt := 2663) C.1.1 C.1.2.1 dL_law_2648 (by decide) (fun c9 => ?_) (fun c9 => ?_)
      · replace w := ql_ifn w c9
        exact hB2663 n hn9 k28 hk28 rl1 rl2 rl3 rl4 xl5 _ _ _ _ S (lv_sub hl [2, 3, 4, 5, 6, 7] rfl) w
      · replace w := ql_if w c9
        refine ql_aload_n (r := rl3) C dL_law_2651 rfl (lv_at hl 5 rfl) ?_
        refine lv_iconst (v := (0 : Int32)) C.1.1 C.1.2.1 dL_law_2652 (by decide) ?_
        refine ql_lald C S dL_law_2653 w (fun j260 w => ?_)
        refine lv_iload C.1.1 C.1.2.1 dL_law_2654 (lv_at hl 0 rfl) ?_
        refine lv_i2l C.1.1 C.1.2.1 dL_law_2656 rfl ?_
        refine W.lcmp C.1.1 C.1.2.1 dL_law_2657 ?_
        refine lv_if_eq (tgt := 2663) C.1.1 C.1.2.1 dL_law_2658 (by decide) (fun c9 => ?_) (fun c9 => ?_)
        · replace w := ql_if w c9
          exact hB2663 n hn9 k28 hk28 rl1 rl2 rl3 rl4 xl5 _ _ _ _ S (lv_sub hl [2, 3, 4, 5, 6, 7] rfl) w
        · replace w := ql_ifn w c9
          refine lv_iconst (v := (0 : Int32)) C.1.1 C.1.2.1 dL_law_2661 (by decide) ?_
          exact ql_zret C S hr hlocks dL_law_2662 ⟨(by show _ ≤ (603072 : Nat); omega), (by show _ ≤ (7190633 : Nat); omega)⟩ w
    · replace w := ql_ifn w c9
      refine lv_iconst (v := (0 : Int32)) C.1.1 C.1.2.1 dL_law_2644 (by decide) ?_
      exact ql_zret C S hr hlocks dL_law_2645 ⟨(by show _ ≤ (603072 : Nat); omega), (by show _ ≤ (7190633 : Nat); omega)⟩ w
  have hB2721 : ∀ n : Nat, n + 1 ≤ 513 → ∀ (k28 : Option Nat → Option Nat → Option Nat → Option Nat → Int32 → ql_H → Prop) (hk28 : ∀ (rl1 : Option Nat) (rl2 : Option Nat) (rl3 : Option Nat) (rl4 : Option Nat) (xl5 : Int32) (h : ql_H) (H : Heap) (locs : List Loc) (ls : Array Slot), ql_S D h0 s H locs h → lv_has ls 9 [(0, .ref a0), (1, va_rf rl1), (2, va_rf rl2), (3, va_rf rl3), (4, va_rf rl4), (5, .int xl5)] → k28 rl1 rl2 rl3 rl4 xl5 h → W p l e ({ frames := 2048, cells := 603072, slots := 7190633, locals := 94400 } : Room) s m ([.ref a0] : List Value).toArray below meth c H locs (1032 + (513 - n) * 21) (15200 + (513 - n) * 5126) (vx_MQ below (ql_Q D h0 (ql_rI Q)) (ql_X D h0 X) ([.ref a0] : List Value).toArray s 603072 7190633 (ql_A h0)) (F0 m 28 ls [])) , ∀ (rl1 : Option Nat) (rl2 : Option Nat) (rl3 : Option Nat) (rl4 : Option Nat) (xl5 : Int32) (h : ql_H) (H : Heap) (locs : List Loc) (ls : Array Slot), ql_S D h0 s H locs h → lv_has ls 9 [(0, .ref a0), (1, va_rf rl1), (2, va_rf rl2), (3, va_rf rl3), (4, va_rf rl4), (5, .int xl5)] → qw_L_law_2721 D.2 L9 xs9 a0 Q X k28 rl1 rl2 rl3 rl4 xl5 h → W p l e ({ frames := 2048, cells := 603072, slots := 7190633, locals := 94400 } : Room) s m ([.ref a0] : List Value).toArray below meth c H locs (1033 + (513 - (n + 1)) * 21) (15456 + (513 - (n + 1)) * 5126) (vx_MQ below (ql_Q D h0 (ql_rI Q)) (ql_X D h0 X) ([.ref a0] : List Value).toArray s 603072 7190633 (ql_A h0)) (F0 m 2721 ls []) := by
    intro n hn9 k28 hk28 rl1 rl2 rl3 rl4 xl5 h H locs ls S hl w
    unfold qw_L_law_2721 at w
    refine lv_goto (tgt := 2957) C.1.1 C.1.2.1 dL_law_2721 (by decide) ?_
    refine W.cs (cells' := (1053 + (513 - (n + 1)) * 21)) (slots' := (20326 + (513 - (n + 1)) * 5126)) (by omega) (by omega) ?_
    exact hB2957 n hn9 k28 hk28 rl1 rl2 rl3 rl4 xl5 _ _ _ _ S (lv_sub hl [0, 1, 2, 3, 4, 5] rfl) w
  have hB2666 : ∀ n : Nat, n + 1 ≤ 513 → ∀ (k28 : Option Nat → Option Nat → Option Nat → Option Nat → Int32 → ql_H → Prop) (hk28 : ∀ (rl1 : Option Nat) (rl2 : Option Nat) (rl3 : Option Nat) (rl4 : Option Nat) (xl5 : Int32) (h : ql_H) (H : Heap) (locs : List Loc) (ls : Array Slot), ql_S D h0 s H locs h → lv_has ls 9 [(0, .ref a0), (1, va_rf rl1), (2, va_rf rl2), (3, va_rf rl3), (4, va_rf rl4), (5, .int xl5)] → k28 rl1 rl2 rl3 rl4 xl5 h → W p l e ({ frames := 2048, cells := 603072, slots := 7190633, locals := 94400 } : Room) s m ([.ref a0] : List Value).toArray below meth c H locs (1032 + (513 - n) * 21) (15200 + (513 - n) * 5126) (vx_MQ below (ql_Q D h0 (ql_rI Q)) (ql_X D h0 X) ([.ref a0] : List Value).toArray s 603072 7190633 (ql_A h0)) (F0 m 28 ls [])) , ∀ (rl1 : Option Nat) (rl2 : Option Nat) (rl3 : Option Nat) (rl4 : Option Nat) (xl5 : Int32) (h : ql_H) (H : Heap) (locs : List Loc) (ls : Array Slot), ql_S D h0 s H locs h → lv_has ls 9 [(0, .ref a0), (1, va_rf rl1), (2, va_rf rl2), (3, va_rf rl3), (4, va_rf rl4), (5, .int xl5)] → qw_L_law_2666 D.2 L9 xs9 a0 Q X k28 rl1 rl2 rl3 rl4 xl5 h → W p l e ({ frames := 2048, cells := 603072, slots := 7190633, locals := 94400 } : Room) s m ([.ref a0] : List Value).toArray below meth c H locs (1032 + (513 - (n + 1)) * 21) (15200 + (513 - (n + 1)) * 5126) (vx_MQ below (ql_Q D h0 (ql_rI Q)) (ql_X D h0 X) ([.ref a0] : List Value).toArray s 603072 7190633 (ql_A h0)) (F0 m 2666 ls []) := by
    intro n hn9 k28 hk28 rl1 rl2 rl3 rl4 xl5 h H locs ls S hl w
    unfold qw_L_law_2666 at w
    refine ql_aload_n (r := rl1) C dL_law_2666 rfl (lv_at hl 1 rfl) ?_
    refine ql_aload_n (r := (some a0)) C dL_law_2667 rfl (lv_at hl 0 rfl) ?_
    refine lv_iload C.1.1 C.1.2.1 dL_law_2668 (lv_at hl 5 rfl) ?_
    refine lv_iconst (v := (1 : Int32)) C.1.1 C.1.2.1 dL_law_2670 (by decide) ?_
    refine lv_iadd C.1.1 C.1.2.1 dL_law_2671 ?_
    refine ql_sld C S hX w.1 dL_law_2672 ?_
    replace w := w.2
    refine lv_i2c C.1.1 C.1.2.1 dL_law_2673 rfl ?_
    refine ql_aload_n (r := rl3) C dL_law_2674 rfl (lv_at hl 3 rfl) ?_
    refine ql_SHI (As := [va_rf rl1, .int ((xs9 (xl5 + (1 : Int32)).toNatClampNeg).toUInt32 % 65536).toInt32, va_rf rl3]) (rest := []) C S hl qyh_L_type gw_1507 (qm_L_type l hl9 D _ rl1 ((xs9 (xl5 + (1 : Int32)).toNatClampNeg).toUInt32 % 65536).toInt32 rl3 _ _ w) rfl ⟨Nat.le_of_ble_eq_true rfl, Nat.le_of_ble_eq_true rfl⟩ ⟨rfl, rfl⟩ (by exact Nat.le_of_ble_eq_true rfl) rfl dL_law_2675 ⟨(by show _ ≤ (603072 : Nat); omega), (by show _ ≤ (7190633 : Nat); omega)⟩ (fun x261 h H locs S w => ?_)
    refine W.cs (cells' := (1033 + (513 - (n + 1)) * 21)) (slots' := (15456 + (513 - (n + 1)) * 5126)) (by omega) (by omega) ?_
    refine lv_istore (lv' := [(6, .int x261), (0, .ref a0), (1, va_rf rl1), (2, va_rf rl2), (3, va_rf rl3), (4, va_rf rl4), (5, .int xl5)]) C.1.1 C.1.2.1 dL_law_2678 hl (by decide) rfl (fun ls hl => ?_)
    refine ql_aload_n (r := rl2) C dL_law_2680 rfl (lv_at hl 3 rfl) ?_
    refine ql_aload_n (r := (some a0)) C dL_law_2681 rfl (lv_at hl 1 rfl) ?_
    refine lv_iload C.1.1 C.1.2.1 dL_law_2682 (lv_at hl 6 rfl) ?_
    refine lv_iconst (v := (1 : Int32)) C.1.1 C.1.2.1 dL_law_2684 (by decide) ?_
    refine lv_iadd C.1.1 C.1.2.1 dL_law_2685 ?_
    refine ql_sld C S hX w.1 dL_law_2686 ?_
    replace w := w.2
    refine lv_i2c C.1.1 C.1.2.1 dL_law_2687 rfl ?_
    refine ql_VI (As := [.int ((xs9 (xl5 + (1 : Int32)).toNatClampNeg).toUInt32 % 65536).toInt32]) (rest := []) C S htab hlocks hl qy_X12_type qi_X12_type qs_X12_type gw_2059 (ci := 13) rfl w (fun b w => qm_X12_type l hl9 D _ b ((xs9 (xl5 + (1 : Int32)).toNatClampNeg).toUInt32 % 65536).toInt32 _ _ w) rfl ⟨Nat.le_of_ble_eq_true rfl, Nat.le_of_ble_eq_true rfl⟩ ⟨rfl, rfl⟩ (by exact Nat.le_of_ble_eq_true rfl) (fun b e9 => by cases e9; rfl) dL_law_2688 ⟨(by show _ ≤ (603072 : Nat); omega), (by show _ ≤ (7190633 : Nat); omega)⟩ ⟨(by show _ ≤ (603072 : Nat); omega), (by show _ ≤ (7190633 : Nat); omega)⟩ (fun x262 h H locs S w => ?_)
    refine W.cs (cells' := (1033 + (513 - (n + 1)) * 21)) (slots' := (15456 + (513 - (n + 1)) * 5126)) (by omega) (by omega) ?_
    refine lv_istore (lv' := [(7, .int x262), (6, .int x261), (0, .ref a0), (1, va_rf rl1), (2, va_rf rl2), (3, va_rf rl3), (4, va_rf rl4), (5, .int xl5)]) C.1.1 C.1.2.1 dL_law_2691 hl (by decide) rfl (fun ls hl => ?_)
    refine ql_aload_n (r := rl2) C dL_law_2693 rfl (lv_at hl 4 rfl) ?_
    refine ql_VI (As := []) (rest := []) C S htab hlocks hl qy_X12_thrown qi_X12_thrown qs_X12_thrown gw_1727 (ci := 13) rfl w (fun b w => qm_X12_thrown l hl9 D _ b _ _ w) rfl ⟨Nat.le_of_ble_eq_true rfl, Nat.le_of_ble_eq_true rfl⟩ ⟨rfl, rfl⟩ (by exact Nat.le_of_ble_eq_true rfl) (fun b e9 => by cases e9; rfl) dL_law_2694 ⟨(by show _ ≤ (603072 : Nat); omega), (by show _ ≤ (7190633 : Nat); omega)⟩ ⟨(by show _ ≤ (603072 : Nat); omega), (by show _ ≤ (7190633 : Nat); omega)⟩ (fun x264 h H locs S w => ?_)
    refine W.cs (cells' := (1033 + (513 - (n + 1)) * 21)) (slots' := (15456 + (513 - (n + 1)) * 5126)) (by omega) (by omega) ?_
    refine lv_iload C.1.1 C.1.2.1 dL_law_2697 (lv_at hl 1 rfl) ?_
    refine lv_icmp_eq (tgt := 2704) C.1.1 C.1.2.1 dL_law_2699 (by decide) (fun c9 => ?_) (fun c9 => ?_)
    · replace w := ql_if w c9
      refine lv_iload C.1.1 C.1.2.1 dL_law_2704 (lv_at hl 1 rfl) ?_
      refine lv_if_ne (tgt := 2721) C.1.1 C.1.2.1 dL_law_2706 (by decide) (fun c9 => ?_) (fun c9 => ?_)
      · replace w := ql_ifn w c9
        exact hB2721 n hn9 k28 hk28 rl1 rl2 rl3 rl4 xl5 _ _ _ _ S (lv_sub hl [2, 3, 4, 5, 6, 7] rfl) w
      · replace w := ql_if w c9
        refine ql_aload_n (r := rl3) C dL_law_2709 rfl (lv_at hl 5 rfl) ?_
        refine lv_iconst (v := (0 : Int32)) C.1.1 C.1.2.1 dL_law_2710 (by decide) ?_
        refine ql_lald C S dL_law_2711 w (fun j266 w => ?_)
        refine lv_iload C.1.1 C.1.2.1 dL_law_2712 (lv_at hl 0 rfl) ?_
        refine lv_i2l C.1.1 C.1.2.1 dL_law_2714 rfl ?_
        refine W.lcmp C.1.1 C.1.2.1 dL_law_2715 ?_
        refine lv_if_eq (tgt := 2721) C.1.1 C.1.2.1 dL_law_2716 (by decide) (fun c9 => ?_) (fun c9 => ?_)
        · replace w := ql_if w c9
          exact hB2721 n hn9 k28 hk28 rl1 rl2 rl3 rl4 xl5 _ _ _ _ S (lv_sub hl [2, 3, 4, 5, 6, 7] rfl) w
        · replace w := ql_ifn w c9
          refine lv_iconst (v := (0 : Int32)) C.1.1 C.1.2.1 dL_law_2719 (by decide) ?_
          exact ql_zret C S hr hlocks dL_law_2720 ⟨(by show _ ≤ (603072 : Nat); omega), (by show _ ≤ (7190633 : Nat); omega)⟩ w
    · replace w := ql_ifn w c9
      refine lv_iconst (v := (0 : Int32)) C.1.1 C.1.2.1 dL_law_2702 (by decide) ?_
      exact ql_zret C S hr hlocks dL_law_2703 ⟨(by show _ ≤ (603072 : Nat); omega), (by show _ ≤ (7190633 : Nat); omega)⟩ w
  have hB2765 : ∀ n : Nat, n + 1 ≤ 513 → ∀ (k28 : Option Nat → Option Nat → Option Nat → Option Nat → Int32 → ql_H → Prop) (hk28 : ∀ (rl1 : Option Nat) (rl2 : Option Nat) (rl3 : Option Nat) (rl4 : Option Nat) (xl5 : Int32) (h : ql_H) (H : Heap) (locs : List Loc) (ls : Array Slot), ql_S D h0 s H locs h → lv_has ls 9 [(0, .ref a0), (1, va_rf rl1), (2, va_rf rl2), (3, va_rf rl3), (4, va_rf rl4), (5, .int xl5)] → k28 rl1 rl2 rl3 rl4 xl5 h → W p l e ({ frames := 2048, cells := 603072, slots := 7190633, locals := 94400 } : Room) s m ([.ref a0] : List Value).toArray below meth c H locs (1032 + (513 - n) * 21) (15200 + (513 - n) * 5126) (vx_MQ below (ql_Q D h0 (ql_rI Q)) (ql_X D h0 X) ([.ref a0] : List Value).toArray s 603072 7190633 (ql_A h0)) (F0 m 28 ls [])) , ∀ (rl1 : Option Nat) (rl2 : Option Nat) (rl3 : Option Nat) (rl4 : Option Nat) (xl5 : Int32) (h : ql_H) (H : Heap) (locs : List Loc) (ls : Array Slot), ql_S D h0 s H locs h → lv_has ls 9 [(0, .ref a0), (1, va_rf rl1), (2, va_rf rl2), (3, va_rf rl3), (4, va_rf rl4), (5, .int xl5)] → qw_L_law_2765 D.2 L9 xs9 a0 Q X k28 rl1 rl2 rl3 rl4 xl5 h → W p l e ({ frames := 2048, cells := 603072, slots := 7190633, locals := 94400 } : Room) s m ([.ref a0] : List Value).toArray below meth c H locs (1034 + (513 - (n + 1)) * 21) (15462 + (513 - (n + 1)) * 5126) (vx_MQ below (ql_Q D h0 (ql_rI Q)) (ql_X D h0 X) ([.ref a0] : List Value).toArray s 603072 7190633 (ql_A h0)) (F0 m 2765 ls []) := by
    intro n hn9 k28 hk28 rl1 rl2 rl3 rl4 xl5 h H locs ls S hl w
    unfold qw_L_law_2765 at w
    refine lv_goto (tgt := 2957) C.1.1 C.1.2.1 dL_law_2765 (by decide) ?_
    refine W.cs (cells' := (1053 + (513 - (n + 1)) * 21)) (slots' := (20326 + (513 - (n + 1)) * 5126)) (by omega) (by omega) ?_
    exact hB2957 n hn9 k28 hk28 rl1 rl2 rl3 rl4 xl5 _ _ _ _ S (lv_sub hl [0, 1, 2, 3, 4, 5] rfl) w
  have hB2724 : ∀ n : Nat, n + 1 ≤ 513 → ∀ (k28 : Option Nat → Option Nat → Option Nat → Option Nat → Int32 → ql_H → Prop) (hk28 : ∀ (rl1 : Option Nat) (rl2 : Option Nat) (rl3 : Option Nat) (rl4 : Option Nat) (xl5 : Int32) (h : ql_H) (H : Heap) (locs : List Loc) (ls : Array Slot), ql_S D h0 s H locs h → lv_has ls 9 [(0, .ref a0), (1, va_rf rl1), (2, va_rf rl2), (3, va_rf rl3), (4, va_rf rl4), (5, .int xl5)] → k28 rl1 rl2 rl3 rl4 xl5 h → W p l e ({ frames := 2048, cells := 603072, slots := 7190633, locals := 94400 } : Room) s m ([.ref a0] : List Value).toArray below meth c H locs (1032 + (513 - n) * 21) (15200 + (513 - n) * 5126) (vx_MQ below (ql_Q D h0 (ql_rI Q)) (ql_X D h0 X) ([.ref a0] : List Value).toArray s 603072 7190633 (ql_A h0)) (F0 m 28 ls [])) , ∀ (rl1 : Option Nat) (rl2 : Option Nat) (rl3 : Option Nat) (rl4 : Option Nat) (xl5 : Int32) (h : ql_H) (H : Heap) (locs : List Loc) (ls : Array Slot), ql_S D h0 s H locs h → lv_has ls 9 [(0, .ref a0), (1, va_rf rl1), (2, va_rf rl2), (3, va_rf rl3), (4, va_rf rl4), (5, .int xl5)] → qw_L_law_2724 D.2 L9 xs9 a0 Q X k28 rl1 rl2 rl3 rl4 xl5 h → W p l e ({ frames := 2048, cells := 603072, slots := 7190633, locals := 94400 } : Room) s m ([.ref a0] : List Value).toArray below meth c H locs (1032 + (513 - (n + 1)) * 21) (15200 + (513 - (n + 1)) * 5126) (vx_MQ below (ql_Q D h0 (ql_rI Q)) (ql_X D h0 X) ([.ref a0] : List Value).toArray s 603072 7190633 (ql_A h0)) (F0 m 2724 ls []) := by
    intro n hn9 k28 hk28 rl1 rl2 rl3 rl4 xl5 h H locs ls S hl w
    unfold qw_L_law_2724 at w
    refine ql_aload_n (r := rl1) C dL_law_2724 rfl (lv_at hl 1 rfl) ?_
    refine ql_aload_n (r := rl3) C dL_law_2725 rfl (lv_at hl 3 rfl) ?_
    refine ql_SHI (As := [va_rf rl1, va_rf rl3]) (rest := []) C S hl qyh_L_runScript gw_1524 (qm_L_runScript l hl9 D _ rl1 rl3 _ _ w) rfl ⟨Nat.le_of_ble_eq_true rfl, Nat.le_of_ble_eq_true rfl⟩ ⟨rfl, rfl⟩ (by exact Nat.le_of_ble_eq_true rfl) rfl dL_law_2726 ⟨(by show _ ≤ (603072 : Nat); omega), (by show _ ≤ (7190633 : Nat); omega)⟩ (fun x267 h H locs S w => ?_)
    refine W.cs (cells' := (1034 + (513 - (n + 1)) * 21)) (slots' := (15462 + (513 - (n + 1)) * 5126)) (by omega) (by omega) ?_
    refine lv_istore (lv' := [(6, .int x267), (0, .ref a0), (1, va_rf rl1), (2, va_rf rl2), (3, va_rf rl3), (4, va_rf rl4), (5, .int xl5)]) C.1.1 C.1.2.1 dL_law_2729 hl (by decide) rfl (fun ls hl => ?_)
    refine ql_aload_n (r := rl2) C dL_law_2731 rfl (lv_at hl 3 rfl) ?_
    refine ql_VI (As := []) (rest := []) C S htab hlocks hl qy_X12_runScript qi_X12_runScript qs_X12_runScript gw_2063 (ci := 13) rfl w (fun b w => qm_X12_runScript l hl9 D _ b _ _ w) rfl ⟨Nat.le_of_ble_eq_true rfl, Nat.le_of_ble_eq_true rfl⟩ ⟨rfl, rfl⟩ (by exact Nat.le_of_ble_eq_true rfl) (fun b e9 => by cases e9; rfl) dL_law_2732 ⟨(by show _ ≤ (603072 : Nat); omega), (by show _ ≤ (7190633 : Nat); omega)⟩ ⟨(by show _ ≤ (603072 : Nat); omega), (by show _ ≤ (7190633 : Nat); omega)⟩ (fun x268 h H locs S w => ?_)
    refine W.cs (cells' := (1034 + (513 - (n + 1)) * 21)) (slots' := (15462 + (513 - (n + 1)) * 5126)) (by omega) (by omega) ?_
    refine lv_istore (lv' := [(7, .int x268), (6, .int x267), (0, .ref a0), (1, va_rf rl1), (2, va_rf rl2), (3, va_rf rl3), (4, va_rf rl4), (5, .int xl5)]) C.1.1 C.1.2.1 dL_law_2735 hl (by decide) rfl (fun ls hl => ?_)
    refine ql_aload_n (r := rl2) C dL_law_2737 rfl (lv_at hl 4 rfl) ?_
    refine ql_VI (As := []) (rest := []) C S htab hlocks hl qy_X12_thrown qi_X12_thrown qs_X12_thrown gw_1727 (ci := 13) rfl w (fun b w => qm_X12_thrown l hl9 D _ b _ _ w) rfl ⟨Nat.le_of_ble_eq_true rfl, Nat.le_of_ble_eq_true rfl⟩ ⟨rfl, rfl⟩ (by exact Nat.le_of_ble_eq_true rfl) (fun b e9 => by cases e9; rfl) dL_law_2738 ⟨(by show _ ≤ (603072 : Nat); omega), (by show _ ≤ (7190633 : Nat); omega)⟩ ⟨(by show _ ≤ (603072 : Nat); omega), (by show _ ≤ (7190633 : Nat); omega)⟩ (fun x270 h H locs S w => ?_)
    refine W.cs (cells' := (1034 + (513 - (n + 1)) * 21)) (slots' := (15462 + (513 - (n + 1)) * 5126)) (by omega) (by omega) ?_
    refine lv_iload C.1.1 C.1.2.1 dL_law_2741 (lv_at hl 1 rfl) ?_
    refine lv_icmp_eq (tgt := 2748) C.1.1 C.1.2.1 dL_law_2743 (by decide) (fun c9 => ?_) (fun c9 => ?_)
    · replace w := ql_if w c9
      refine lv_iload C.1.1 C.1.2.1 dL_law_2748 (lv_at hl 1 rfl) ?_
      refine lv_if_ne (tgt := 2765) C.1.1 C.1.2.1 dL_law_2750 (by decide) (fun c9 => ?_) (fun c9 => ?_)
      · replace w := ql_ifn w c9
        exact hB2765 n hn9 k28 hk28 rl1 rl2 rl3 rl4 xl5 _ _ _ _ S (lv_sub hl [2, 3, 4, 5, 6, 7] rfl) w
      · replace w := ql_if w c9
        refine ql_aload_n (r := rl3) C dL_law_2753 rfl (lv_at hl 5 rfl) ?_
        refine lv_iconst (v := (0 : Int32)) C.1.1 C.1.2.1 dL_law_2754 (by decide) ?_
        refine ql_lald C S dL_law_2755 w (fun j272 w => ?_)
        refine lv_iload C.1.1 C.1.2.1 dL_law_2756 (lv_at hl 0 rfl) ?_
        refine lv_i2l C.1.1 C.1.2.1 dL_law_2758 rfl ?_
        refine W.lcmp C.1.1 C.1.2.1 dL_law_2759 ?_
        refine lv_if_eq (tgt := 2765) C.1.1 C.1.2.1 dL_law_2760 (by decide) (fun c9 => ?_) (fun c9 => ?_)
        · replace w := ql_if w c9
          exact hB2765 n hn9 k28 hk28 rl1 rl2 rl3 rl4 xl5 _ _ _ _ S (lv_sub hl [2, 3, 4, 5, 6, 7] rfl) w
        · replace w := ql_ifn w c9
          refine lv_iconst (v := (0 : Int32)) C.1.1 C.1.2.1 dL_law_2763 (by decide) ?_
          exact ql_zret C S hr hlocks dL_law_2764 ⟨(by show _ ≤ (603072 : Nat); omega), (by show _ ≤ (7190633 : Nat); omega)⟩ w
    · replace w := ql_ifn w c9
      refine lv_iconst (v := (0 : Int32)) C.1.1 C.1.2.1 dL_law_2746 (by decide) ?_
      exact ql_zret C S hr hlocks dL_law_2747 ⟨(by show _ ≤ (603072 : Nat); omega), (by show _ ≤ (7190633 : Nat); omega)⟩ w
  have hB2809 : ∀ n : Nat, n + 1 ≤ 513 → ∀ (k28 : Option Nat → Option Nat → Option Nat → Option Nat → Int32 → ql_H → Prop) (hk28 : ∀ (rl1 : Option Nat) (rl2 : Option Nat) (rl3 : Option Nat) (rl4 : Option Nat) (xl5 : Int32) (h : ql_H) (H : Heap) (locs : List Loc) (ls : Array Slot), ql_S D h0 s H locs h → lv_has ls 9 [(0, .ref a0), (1, va_rf rl1), (2, va_rf rl2), (3, va_rf rl3), (4, va_rf rl4), (5, .int xl5)] → k28 rl1 rl2 rl3 rl4 xl5 h → W p l e ({ frames := 2048, cells := 603072, slots := 7190633, locals := 94400 } : Room) s m ([.ref a0] : List Value).toArray below meth c H locs (1032 + (513 - n) * 21) (15200 + (513 - n) * 5126) (vx_MQ below (ql_Q D h0 (ql_rI Q)) (ql_X D h0 X) ([.ref a0] : List Value).toArray s 603072 7190633 (ql_A h0)) (F0 m 28 ls [])) , ∀ (rl1 : Option Nat) (rl2 : Option Nat) (rl3 : Option Nat) (rl4 : Option Nat) (xl5 : Int32) (h : ql_H) (H : Heap) (locs : List Loc) (ls : Array Slot), ql_S D h0 s H locs h → lv_has ls 9 [(0, .ref a0), (1, va_rf rl1), (2, va_rf rl2), (3, va_rf rl3), (4, va_rf rl4), (5, .int xl5)] → qw_L_law_2809 D.2 L9 xs9 a0 Q X k28 rl1 rl2 rl3 rl4 xl5 h → W p l e ({ frames := 2048, cells := 603072, slots := 7190633, locals := 94400 } : Room) s m ([.ref a0] : List Value).toArray below meth c H locs (1033 + (513 - (n + 1)) * 21) (15206 + (513 - (n + 1)) * 5126) (vx_MQ below (ql_Q D h0 (ql_rI Q)) (ql_X D h0 X) ([.ref a0] : List Value).toArray s 603072 7190633 (ql_A h0)) (F0 m 2809 ls []) := by
    intro n hn9 k28 hk28 rl1 rl2 rl3 rl4 xl5 h H locs ls S hl w
    unfold qw_L_law_2809 at w
    refine lv_goto (tgt := 2957) C.1.1 C.1.2.1 dL_law_2809 (by decide) ?_
    refine W.cs (cells' := (1053 + (513 - (n + 1)) * 21)) (slots' := (20326 + (513 - (n + 1)) * 5126)) (by omega) (by omega) ?_
    exact hB2957 n hn9 k28 hk28 rl1 rl2 rl3 rl4 xl5 _ _ _ _ S (lv_sub hl [0, 1, 2, 3, 4, 5] rfl) w
  have hB2768 : ∀ n : Nat, n + 1 ≤ 513 → ∀ (k28 : Option Nat → Option Nat → Option Nat → Option Nat → Int32 → ql_H → Prop) (hk28 : ∀ (rl1 : Option Nat) (rl2 : Option Nat) (rl3 : Option Nat) (rl4 : Option Nat) (xl5 : Int32) (h : ql_H) (H : Heap) (locs : List Loc) (ls : Array Slot), ql_S D h0 s H locs h → lv_has ls 9 [(0, .ref a0), (1, va_rf rl1), (2, va_rf rl2), (3, va_rf rl3), (4, va_rf rl4), (5, .int xl5)] → k28 rl1 rl2 rl3 rl4 xl5 h → W p l e ({ frames := 2048, cells := 603072, slots := 7190633, locals := 94400 } : Room) s m ([.ref a0] : List Value).toArray below meth c H locs (1032 + (513 - n) * 21) (15200 + (513 - n) * 5126) (vx_MQ below (ql_Q D h0 (ql_rI Q)) (ql_X D h0 X) ([.ref a0] : List Value).toArray s 603072 7190633 (ql_A h0)) (F0 m 28 ls [])) , ∀ (rl1 : Option Nat) (rl2 : Option Nat) (rl3 : Option Nat) (rl4 : Option Nat) (xl5 : Int32) (h : ql_H) (H : Heap) (locs : List Loc) (ls : Array Slot), ql_S D h0 s H locs h → lv_has ls 9 [(0, .ref a0), (1, va_rf rl1), (2, va_rf rl2), (3, va_rf rl3), (4, va_rf rl4), (5, .int xl5)] → qw_L_law_2768 D.2 L9 xs9 a0 Q X k28 rl1 rl2 rl3 rl4 xl5 h → W p l e ({ frames := 2048, cells := 603072, slots := 7190633, locals := 94400 } : Room) s m ([.ref a0] : List Value).toArray below meth c H locs (1032 + (513 - (n + 1)) * 21) (15200 + (513 - (n + 1)) * 5126) (vx_MQ below (ql_Q D h0 (ql_rI Q)) (ql_X D h0 X) ([.ref a0] : List Value).toArray s 603072 7190633 (ql_A h0)) (F0 m 2768 ls []) := by
    intro n hn9 k28 hk28 rl1 rl2 rl3 rl4 xl5 h H locs ls S hl w
    unfold qw_L_law_2768 at w
    refine ql_aload_n (r := rl1) C dL_law_2768 rfl (lv_at hl 1 rfl) ?_
    refine ql_aload_n (r := rl3) C dL_law_2769 rfl (lv_at hl 3 rfl) ?_
    refine ql_SHI (As := [va_rf rl1, va_rf rl3]) (rest := []) C S hl qyh_L_errorPosition gw_1626 (qm_L_errorPosition l hl9 D _ rl1 rl3 _ _ w) rfl ⟨Nat.le_of_ble_eq_true rfl, Nat.le_of_ble_eq_true rfl⟩ ⟨rfl, rfl⟩ (by exact Nat.le_of_ble_eq_true rfl) rfl dL_law_2770 ⟨(by show _ ≤ (603072 : Nat); omega), (by show _ ≤ (7190633 : Nat); omega)⟩ (fun x273 h H locs S w => ?_)
    refine W.cs (cells' := (1033 + (513 - (n + 1)) * 21)) (slots' := (15206 + (513 - (n + 1)) * 5126)) (by omega) (by omega) ?_
    refine lv_istore (lv' := [(6, .int x273), (0, .ref a0), (1, va_rf rl1), (2, va_rf rl2), (3, va_rf rl3), (4, va_rf rl4), (5, .int xl5)]) C.1.1 C.1.2.1 dL_law_2773 hl (by decide) rfl (fun ls hl => ?_)
    refine ql_aload_n (r := rl2) C dL_law_2775 rfl (lv_at hl 3 rfl) ?_
    refine ql_VI (As := []) (rest := []) C S htab hlocks hl qy_X12_errorPosition qi_X12_errorPosition qs_X12_errorPosition gw_2125 (ci := 13) rfl w (fun b w => qm_X12_errorPosition l hl9 D _ b _ _ w) rfl ⟨Nat.le_of_ble_eq_true rfl, Nat.le_of_ble_eq_true rfl⟩ ⟨rfl, rfl⟩ (by exact Nat.le_of_ble_eq_true rfl) (fun b e9 => by cases e9; rfl) dL_law_2776 ⟨(by show _ ≤ (603072 : Nat); omega), (by show _ ≤ (7190633 : Nat); omega)⟩ ⟨(by show _ ≤ (603072 : Nat); omega), (by show _ ≤ (7190633 : Nat); omega)⟩ (fun x274 h H locs S w => ?_)
    refine W.cs (cells' := (1033 + (513 - (n + 1)) * 21)) (slots' := (15206 + (513 - (n + 1)) * 5126)) (by omega) (by omega) ?_
    refine lv_istore (lv' := [(7, .int x274), (6, .int x273), (0, .ref a0), (1, va_rf rl1), (2, va_rf rl2), (3, va_rf rl3), (4, va_rf rl4), (5, .int xl5)]) C.1.1 C.1.2.1 dL_law_2779 hl (by decide) rfl (fun ls hl => ?_)
    refine ql_aload_n (r := rl2) C dL_law_2781 rfl (lv_at hl 4 rfl) ?_
    refine ql_VI (As := []) (rest := []) C S htab hlocks hl qy_X12_thrown qi_X12_thrown qs_X12_thrown gw_1727 (ci := 13) rfl w (fun b w => qm_X12_thrown l hl9 D _ b _ _ w) rfl ⟨Nat.le_of_ble_eq_true rfl, Nat.le_of_ble_eq_true rfl⟩ ⟨rfl, rfl⟩ (by exact Nat.le_of_ble_eq_true rfl) (fun b e9 => by cases e9; rfl) dL_law_2782 ⟨(by show _ ≤ (603072 : Nat); omega), (by show _ ≤ (7190633 : Nat); omega)⟩ ⟨(by show _ ≤ (603072 : Nat); omega), (by show _ ≤ (7190633 : Nat); omega)⟩ (fun x276 h H locs S w => ?_)
    refine W.cs (cells' := (1033 + (513 - (n + 1)) * 21)) (slots' := (15206 + (513 - (n + 1)) * 5126)) (by omega) (by omega) ?_
    refine lv_iload C.1.1 C.1.2.1 dL_law_2785 (lv_at hl 1 rfl) ?_
    refine lv_icmp_eq (tgt := 2792) C.1.1 C.1.2.1 dL_law_2787 (by decide) (fun c9 => ?_) (fun c9 => ?_)
    · replace w := ql_if w c9
      refine lv_iload C.1.1 C.1.2.1 dL_law_2792 (lv_at hl 1 rfl) ?_
      refine lv_if_ne (tgt := 2809) C.1.1 C.1.2.1 dL_law_2794 (by decide) (fun c9 => ?_) (fun c9 => ?_)
      · replace w := ql_ifn w c9
        exact hB2809 n hn9 k28 hk28 rl1 rl2 rl3 rl4 xl5 _ _ _ _ S (lv_sub hl [2, 3, 4, 5, 6, 7] rfl) w
      · replace w := ql_if w c9
        refine ql_aload_n (r := rl3) C dL_law_2797 rfl (lv_at hl 5 rfl) ?_
        refine lv_iconst (v := (0 : Int32)) C.1.1 C.1.2.1 dL_law_2798 (by decide) ?_
        refine ql_lald C S dL_law_2799 w (fun j278 w => ?_)
        refine lv_iload C.1.1 C.1.2.1 dL_law_2800 (lv_at hl 0 rfl) ?_
        refine lv_i2l C.1.1 C.1.2.1 dL_law_2802 rfl ?_
        refine W.lcmp C.1.1 C.1.2.1 dL_law_2803 ?_
        refine lv_if_eq (tgt := 2809) C.1.1 C.1.2.1 dL_law_2804 (by decide) (fun c9 => ?_) (fun c9 => ?_)
        · replace w := ql_if w c9
          exact hB2809 n hn9 k28 hk28 rl1 rl2 rl3 rl4 xl5 _ _ _ _ S (lv_sub hl [2, 3, 4, 5, 6, 7] rfl) w
        · replace w := ql_ifn w c9
          refine lv_iconst (v := (0 : Int32)) C.1.1 C.1.2.1 dL_law_2807 (by decide) ?_
          exact ql_zret C S hr hlocks dL_law_2808 ⟨(by show _ ≤ (603072 : Nat); omega), (by show _ ≤ (7190633 : Nat); omega)⟩ w
    · replace w := ql_ifn w c9
      refine lv_iconst (v := (0 : Int32)) C.1.1 C.1.2.1 dL_law_2790 (by decide) ?_
      exact ql_zret C S hr hlocks dL_law_2791 ⟨(by show _ ≤ (603072 : Nat); omega), (by show _ ≤ (7190633 : Nat); omega)⟩ w
  have hB2853 : ∀ n : Nat, n + 1 ≤ 513 → ∀ (k28 : Option Nat → Option Nat → Option Nat → Option Nat → Int32 → ql_H → Prop) (hk28 : ∀ (rl1 : Option Nat) (rl2 : Option Nat) (rl3 : Option Nat) (rl4 : Option Nat) (xl5 : Int32) (h : ql_H) (H : Heap) (locs : List Loc) (ls : Array Slot), ql_S D h0 s H locs h → lv_has ls 9 [(0, .ref a0), (1, va_rf rl1), (2, va_rf rl2), (3, va_rf rl3), (4, va_rf rl4), (5, .int xl5)] → k28 rl1 rl2 rl3 rl4 xl5 h → W p l e ({ frames := 2048, cells := 603072, slots := 7190633, locals := 94400 } : Room) s m ([.ref a0] : List Value).toArray below meth c H locs (1032 + (513 - n) * 21) (15200 + (513 - n) * 5126) (vx_MQ below (ql_Q D h0 (ql_rI Q)) (ql_X D h0 X) ([.ref a0] : List Value).toArray s 603072 7190633 (ql_A h0)) (F0 m 28 ls [])) , ∀ (rl1 : Option Nat) (rl2 : Option Nat) (rl3 : Option Nat) (rl4 : Option Nat) (xl5 : Int32) (h : ql_H) (H : Heap) (locs : List Loc) (ls : Array Slot), ql_S D h0 s H locs h → lv_has ls 9 [(0, .ref a0), (1, va_rf rl1), (2, va_rf rl2), (3, va_rf rl3), (4, va_rf rl4), (5, .int xl5)] → qw_L_law_2853 D.2 L9 xs9 a0 Q X k28 rl1 rl2 rl3 rl4 xl5 h → W p l e ({ frames := 2048, cells := 603072, slots := 7190633, locals := 94400 } : Room) s m ([.ref a0] : List Value).toArray below meth c H locs (1033 + (513 - (n + 1)) * 21) (15206 + (513 - (n + 1)) * 5126) (vx_MQ below (ql_Q D h0 (ql_rI Q)) (ql_X D h0 X) ([.ref a0] : List Value).toArray s 603072 7190633 (ql_A h0)) (F0 m 2853 ls []) := by
    intro n hn9 k28 hk28 rl1 rl2 rl3 rl4 xl5 h H locs ls S hl w
    unfold qw_L_law_2853 at w
    refine lv_goto (tgt := 2957) C.1.1 C.1.2.1 dL_law_2853 (by decide) ?_
    refine W.cs (cells' := (1053 + (513 - (n + 1)) * 21)) (slots' := (20326 + (513 - (n + 1)) * 5126)) (by omega) (by omega) ?_
    exact hB2957 n hn9 k28 hk28 rl1 rl2 rl3 rl4 xl5 _ _ _ _ S (lv_sub hl [0, 1, 2, 3, 4, 5] rfl) w
  have hB2812 : ∀ n : Nat, n + 1 ≤ 513 → ∀ (k28 : Option Nat → Option Nat → Option Nat → Option Nat → Int32 → ql_H → Prop) (hk28 : ∀ (rl1 : Option Nat) (rl2 : Option Nat) (rl3 : Option Nat) (rl4 : Option Nat) (xl5 : Int32) (h : ql_H) (H : Heap) (locs : List Loc) (ls : Array Slot), ql_S D h0 s H locs h → lv_has ls 9 [(0, .ref a0), (1, va_rf rl1), (2, va_rf rl2), (3, va_rf rl3), (4, va_rf rl4), (5, .int xl5)] → k28 rl1 rl2 rl3 rl4 xl5 h → W p l e ({ frames := 2048, cells := 603072, slots := 7190633, locals := 94400 } : Room) s m ([.ref a0] : List Value).toArray below meth c H locs (1032 + (513 - n) * 21) (15200 + (513 - n) * 5126) (vx_MQ below (ql_Q D h0 (ql_rI Q)) (ql_X D h0 X) ([.ref a0] : List Value).toArray s 603072 7190633 (ql_A h0)) (F0 m 28 ls [])) , ∀ (rl1 : Option Nat) (rl2 : Option Nat) (rl3 : Option Nat) (rl4 : Option Nat) (xl5 : Int32) (h : ql_H) (H : Heap) (locs : List Loc) (ls : Array Slot), ql_S D h0 s H locs h → lv_has ls 9 [(0, .ref a0), (1, va_rf rl1), (2, va_rf rl2), (3, va_rf rl3), (4, va_rf rl4), (5, .int xl5)] → qw_L_law_2812 D.2 L9 xs9 a0 Q X k28 rl1 rl2 rl3 rl4 xl5 h → W p l e ({ frames := 2048, cells := 603072, slots := 7190633, locals := 94400 } : Room) s m ([.ref a0] : List Value).toArray below meth c H locs (1032 + (513 - (n + 1)) * 21) (15200 + (513 - (n + 1)) * 5126) (vx_MQ below (ql_Q D h0 (ql_rI Q)) (ql_X D h0 X) ([.ref a0] : List Value).toArray s 603072 7190633 (ql_A h0)) (F0 m 2812 ls []) := by
    intro n hn9 k28 hk28 rl1 rl2 rl3 rl4 xl5 h H locs ls S hl w
    unfold qw_L_law_2812 at w
    refine ql_aload_n (r := rl1) C dL_law_2812 rfl (lv_at hl 1 rfl) ?_
    refine ql_aload_n (r := rl3) C dL_law_2813 rfl (lv_at hl 3 rfl) ?_
    refine ql_SHI (As := [va_rf rl1, va_rf rl3]) (rest := []) C S hl qyh_L_failedCommand gw_1633 (qm_L_failedCommand l hl9 D _ rl1 rl3 _ _ w) rfl ⟨Nat.le_of_ble_eq_true rfl, Nat.le_of_ble_eq_true rfl⟩ ⟨rfl, rfl⟩ (by exact Nat.le_of_ble_eq_true rfl) rfl dL_law_2814 ⟨(by show _ ≤ (603072 : Nat); omega), (by show _ ≤ (7190633 : Nat); omega)⟩ (fun x279 h H locs S w => ?_)
    refine W.cs (cells' := (1033 + (513 - (n + 1)) * 21)) (slots' := (15206 + (513 - (n + 1)) * 5126)) (by omega) (by omega) ?_
    refine lv_istore (lv' := [(6, .int x279), (0, .ref a0), (1, va_rf rl1), (2, va_rf rl2), (3, va_rf rl3), (4, va_rf rl4), (5, .int xl5)]) C.1.1 C.1.2.1 dL_law_2817 hl (by decide) rfl (fun ls hl => ?_)
    refine ql_aload_n (r := rl2) C dL_law_2819 rfl (lv_at hl 3 rfl) ?_
    refine ql_VI (As := []) (rest := []) C S htab hlocks hl qy_X12_failedCommand qi_X12_failedCommand qs_X12_failedCommand gw_2129 (ci := 13) rfl w (fun b w => qm_X12_failedCommand l hl9 D _ b _ _ w) rfl ⟨Nat.le_of_ble_eq_true rfl, Nat.le_of_ble_eq_true rfl⟩ ⟨rfl, rfl⟩ (by exact Nat.le_of_ble_eq_true rfl) (fun b e9 => by cases e9; rfl) dL_law_2820 ⟨(by show _ ≤ (603072 : Nat); omega), (by show _ ≤ (7190633 : Nat); omega)⟩ ⟨(by show _ ≤ (603072 : Nat); omega), (by show _ ≤ (7190633 : Nat); omega)⟩ (fun x280 h H locs S w => ?_)
    refine W.cs (cells' := (1033 + (513 - (n + 1)) * 21)) (slots' := (15206 + (513 - (n + 1)) * 5126)) (by omega) (by omega) ?_
    refine lv_istore (lv' := [(7, .int x280), (6, .int x279), (0, .ref a0), (1, va_rf rl1), (2, va_rf rl2), (3, va_rf rl3), (4, va_rf rl4), (5, .int xl5)]) C.1.1 C.1.2.1 dL_law_2823 hl (by decide) rfl (fun ls hl => ?_)
    refine ql_aload_n (r := rl2) C dL_law_2825 rfl (lv_at hl 4 rfl) ?_
    refine ql_VI (As := []) (rest := []) C S htab hlocks hl qy_X12_thrown qi_X12_thrown qs_X12_thrown gw_1727 (ci := 13) rfl w (fun b w => qm_X12_thrown l hl9 D _ b _ _ w) rfl ⟨Nat.le_of_ble_eq_true rfl, Nat.le_of_ble_eq_true rfl⟩ ⟨rfl, rfl⟩ (by exact Nat.le_of_ble_eq_true rfl) (fun b e9 => by cases e9; rfl) dL_law_2826 ⟨(by show _ ≤ (603072 : Nat); omega), (by show _ ≤ (7190633 : Nat); omega)⟩ ⟨(by show _ ≤ (603072 : Nat); omega), (by show _ ≤ (7190633 : Nat); omega)⟩ (fun x282 h H locs S w => ?_)
    refine W.cs (cells' := (1033 + (513 - (n + 1)) * 21)) (slots' := (15206 + (513 - (n + 1)) * 5126)) (by omega) (by omega) ?_
    refine lv_iload C.1.1 C.1.2.1 dL_law_2829 (lv_at hl 1 rfl) ?_
    refine lv_icmp_eq (tgt := 2836) C.1.1 C.1.2.1 dL_law_2831 (by decide) (fun c9 => ?_) (fun c9 => ?_)
    · replace w := ql_if w c9
      refine lv_iload C.1.1 C.1.2.1 dL_law_2836 (lv_at hl 1 rfl) ?_
      refine lv_if_ne (tgt := 2853) C.1.1 C.1.2.1 dL_law_2838 (by decide) (fun c9 => ?_) (fun c9 => ?_)
      · replace w := ql_ifn w c9
        exact hB2853 n hn9 k28 hk28 rl1 rl2 rl3 rl4 xl5 _ _ _ _ S (lv_sub hl [2, 3, 4, 5, 6, 7] rfl) w
      · replace w := ql_if w c9
        refine ql_aload_n (r := rl3) C dL_law_2841 rfl (lv_at hl 5 rfl) ?_
        refine lv_iconst (v := (0 : Int32)) C.1.1 C.1.2.1 dL_law_2842 (by decide) ?_
        refine ql_lald C S dL_law_2843 w (fun j284 w => ?_)
        refine lv_iload C.1.1 C.1.2.1 dL_law_2844 (lv_at hl 0 rfl) ?_
        refine lv_i2l C.1.1 C.1.2.1 dL_law_2846 rfl ?_
        refine W.lcmp C.1.1 C.1.2.1 dL_law_2847 ?_
        refine lv_if_eq (tgt := 2853) C.1.1 C.1.2.1 dL_law_2848 (by decide) (fun c9 => ?_) (fun c9 => ?_)
        · replace w := ql_if w c9
          exact hB2853 n hn9 k28 hk28 rl1 rl2 rl3 rl4 xl5 _ _ _ _ S (lv_sub hl [2, 3, 4, 5, 6, 7] rfl) w
        · replace w := ql_ifn w c9
          refine lv_iconst (v := (0 : Int32)) C.1.1 C.1.2.1 dL_law_2851 (by decide) ?_
          exact ql_zret C S hr hlocks dL_law_2852 ⟨(by show _ ≤ (603072 : Nat); omega), (by show _ ≤ (7190633 : Nat); omega)⟩ w
    · replace w := ql_ifn w c9
      refine lv_iconst (v := (0 : Int32)) C.1.1 C.1.2.1 dL_law_2834 (by decide) ?_
      exact ql_zret C S hr hlocks dL_law_2835 ⟨(by show _ ≤ (603072 : Nat); omega), (by show _ ≤ (7190633 : Nat); omega)⟩ w
  have hB2897 : ∀ n : Nat, n + 1 ≤ 513 → ∀ (k28 : Option Nat → Option Nat → Option Nat → Option Nat → Int32 → ql_H → Prop) (hk28 : ∀ (rl1 : Option Nat) (rl2 : Option Nat) (rl3 : Option Nat) (rl4 : Option Nat) (xl5 : Int32) (h : ql_H) (H : Heap) (locs : List Loc) (ls : Array Slot), ql_S D h0 s H locs h → lv_has ls 9 [(0, .ref a0), (1, va_rf rl1), (2, va_rf rl2), (3, va_rf rl3), (4, va_rf rl4), (5, .int xl5)] → k28 rl1 rl2 rl3 rl4 xl5 h → W p l e ({ frames := 2048, cells := 603072, slots := 7190633, locals := 94400 } : Room) s m ([.ref a0] : List Value).toArray below meth c H locs (1032 + (513 - n) * 21) (15200 + (513 - n) * 5126) (vx_MQ below (ql_Q D h0 (ql_rI Q)) (ql_X D h0 X) ([.ref a0] : List Value).toArray s 603072 7190633 (ql_A h0)) (F0 m 28 ls [])) , ∀ (rl1 : Option Nat) (rl2 : Option Nat) (rl3 : Option Nat) (rl4 : Option Nat) (xl5 : Int32) (h : ql_H) (H : Heap) (locs : List Loc) (ls : Array Slot), ql_S D h0 s H locs h → lv_has ls 9 [(0, .ref a0), (1, va_rf rl1), (2, va_rf rl2), (3, va_rf rl3), (4, va_rf rl4), (5, .int xl5)] → qw_L_law_2897 D.2 L9 xs9 a0 Q X k28 rl1 rl2 rl3 rl4 xl5 h → W p l e ({ frames := 2048, cells := 603072, slots := 7190633, locals := 94400 } : Room) s m ([.ref a0] : List Value).toArray below meth c H locs (1033 + (513 - (n + 1)) * 21) (15206 + (513 - (n + 1)) * 5126) (vx_MQ below (ql_Q D h0 (ql_rI Q)) (ql_X D h0 X) ([.ref a0] : List Value).toArray s 603072 7190633 (ql_A h0)) (F0 m 2897 ls []) := by
    intro n hn9 k28 hk28 rl1 rl2 rl3 rl4 xl5 h H locs ls S hl w
    unfold qw_L_law_2897 at w
    refine lv_goto (tgt := 2957) C.1.1 C.1.2.1 dL_law_2897 (by decide) ?_
    refine W.cs (cells' := (1053 + (513 - (n + 1)) * 21)) (slots' := (20326 + (513 - (n + 1)) * 5126)) (by omega) (by omega) ?_
    exact hB2957 n hn9 k28 hk28 rl1 rl2 rl3 rl4 xl5 _ _ _ _ S (lv_sub hl [0, 1, 2, 3, 4, 5] rfl) w
  have hB2856 : ∀ n : Nat, n + 1 ≤ 513 → ∀ (k28 : Option Nat → Option Nat → Option Nat → Option Nat → Int32 → ql_H → Prop) (hk28 : ∀ (rl1 : Option Nat) (rl2 : Option Nat) (rl3 : Option Nat) (rl4 : Option Nat) (xl5 : Int32) (h : ql_H) (H : Heap) (locs : List Loc) (ls : Array Slot), ql_S D h0 s H locs h → lv_has ls 9 [(0, .ref a0), (1, va_rf rl1), (2, va_rf rl2), (3, va_rf rl3), (4, va_rf rl4), (5, .int xl5)] → k28 rl1 rl2 rl3 rl4 xl5 h → W p l e ({ frames := 2048, cells := 603072, slots := 7190633, locals := 94400 } : Room) s m ([.ref a0] : List Value).toArray below meth c H locs (1032 + (513 - n) * 21) (15200 + (513 - n) * 5126) (vx_MQ below (ql_Q D h0 (ql_rI Q)) (ql_X D h0 X) ([.ref a0] : List Value).toArray s 603072 7190633 (ql_A h0)) (F0 m 28 ls [])) , ∀ (rl1 : Option Nat) (rl2 : Option Nat) (rl3 : Option Nat) (rl4 : Option Nat) (xl5 : Int32) (h : ql_H) (H : Heap) (locs : List Loc) (ls : Array Slot), ql_S D h0 s H locs h → lv_has ls 9 [(0, .ref a0), (1, va_rf rl1), (2, va_rf rl2), (3, va_rf rl3), (4, va_rf rl4), (5, .int xl5)] → qw_L_law_2856 D.2 L9 xs9 a0 Q X k28 rl1 rl2 rl3 rl4 xl5 h → W p l e ({ frames := 2048, cells := 603072, slots := 7190633, locals := 94400 } : Room) s m ([.ref a0] : List Value).toArray below meth c H locs (1032 + (513 - (n + 1)) * 21) (15200 + (513 - (n + 1)) * 5126) (vx_MQ below (ql_Q D h0 (ql_rI Q)) (ql_X D h0 X) ([.ref a0] : List Value).toArray s 603072 7190633 (ql_A h0)) (F0 m 2856 ls []) := by
    intro n hn9 k28 hk28 rl1 rl2 rl3 rl4 xl5 h H locs ls S hl w
    unfold qw_L_law_2856 at w
    refine ql_aload_n (r := rl1) C dL_law_2856 rfl (lv_at hl 1 rfl) ?_
    refine ql_aload_n (r := rl3) C dL_law_2857 rfl (lv_at hl 3 rfl) ?_
    refine ql_SHI (As := [va_rf rl1, va_rf rl3]) (rest := []) C S hl qyh_L_undo gw_1640 (qm_L_undo l hl9 D _ rl1 rl3 _ _ w) rfl ⟨Nat.le_of_ble_eq_true rfl, Nat.le_of_ble_eq_true rfl⟩ ⟨rfl, rfl⟩ (by exact Nat.le_of_ble_eq_true rfl) rfl dL_law_2858 ⟨(by show _ ≤ (603072 : Nat); omega), (by show _ ≤ (7190633 : Nat); omega)⟩ (fun x285 h H locs S w => ?_)
    refine W.cs (cells' := (1033 + (513 - (n + 1)) * 21)) (slots' := (15206 + (513 - (n + 1)) * 5126)) (by omega) (by omega) ?_
    refine lv_istore (lv' := [(6, .int x285), (0, .ref a0), (1, va_rf rl1), (2, va_rf rl2), (3, va_rf rl3), (4, va_rf rl4), (5, .int xl5)]) C.1.1 C.1.2.1 dL_law_2861 hl (by decide) rfl (fun ls hl => ?_)
    refine ql_aload_n (r := rl2) C dL_law_2863 rfl (lv_at hl 3 rfl) ?_
    refine ql_VI (As := []) (rest := []) C S htab hlocks hl qy_X12_undo qi_X12_undo qs_X12_undo gw_2133 (ci := 13) rfl w (fun b w => qm_X12_undo l hl9 D _ b _ _ w) rfl ⟨Nat.le_of_ble_eq_true rfl, Nat.le_of_ble_eq_true rfl⟩ ⟨rfl, rfl⟩ (by exact Nat.le_of_ble_eq_true rfl) (fun b e9 => by cases e9; rfl) dL_law_2864 ⟨(by show _ ≤ (603072 : Nat); omega), (by show _ ≤ (7190633 : Nat); omega)⟩ ⟨(by show _ ≤ (603072 : Nat); omega), (by show _ ≤ (7190633 : Nat); omega)⟩ (fun x286 h H locs S w => ?_)
    refine W.cs (cells' := (1033 + (513 - (n + 1)) * 21)) (slots' := (15206 + (513 - (n + 1)) * 5126)) (by omega) (by omega) ?_
    refine lv_istore (lv' := [(7, .int x286), (6, .int x285), (0, .ref a0), (1, va_rf rl1), (2, va_rf rl2), (3, va_rf rl3), (4, va_rf rl4), (5, .int xl5)]) C.1.1 C.1.2.1 dL_law_2867 hl (by decide) rfl (fun ls hl => ?_)
    refine ql_aload_n (r := rl2) C dL_law_2869 rfl (lv_at hl 4 rfl) ?_
    refine ql_VI (As := []) (rest := []) C S htab hlocks hl qy_X12_thrown qi_X12_thrown qs_X12_thrown gw_1727 (ci := 13) rfl w (fun b w => qm_X12_thrown l hl9 D _ b _ _ w) rfl ⟨Nat.le_of_ble_eq_true rfl, Nat.le_of_ble_eq_true rfl⟩ ⟨rfl, rfl⟩ (by exact Nat.le_of_ble_eq_true rfl) (fun b e9 => by cases e9; rfl) dL_law_2870 ⟨(by show _ ≤ (603072 : Nat); omega), (by show _ ≤ (7190633 : Nat); omega)⟩ ⟨(by show _ ≤ (603072 : Nat); omega), (by show _ ≤ (7190633 : Nat); omega)⟩ (fun x288 h H locs S w => ?_)
    refine W.cs (cells' := (1033 + (513 - (n + 1)) * 21)) (slots' := (15206 + (513 - (n + 1)) * 5126)) (by omega) (by omega) ?_
    refine lv_iload C.1.1 C.1.2.1 dL_law_2873 (lv_at hl 1 rfl) ?_
    refine lv_icmp_eq (tgt := 2880) C.1.1 C.1.2.1 dL_law_2875 (by decide) (fun c9 => ?_) (fun c9 => ?_)
    · replace w := ql_if w c9
      refine lv_iload C.1.1 C.1.2.1 dL_law_2880 (lv_at hl 1 rfl) ?_
      refine lv_if_ne (tgt := 2897) C.1.1 C.1.2.1 dL_law_2882 (by decide) (fun c9 => ?_) (fun c9 => ?_)
      · replace w := ql_ifn w c9
        exact hB2897 n hn9 k28 hk28 rl1 rl2 rl3 rl4 xl5 _ _ _ _ S (lv_sub hl [2, 3, 4, 5, 6, 7] rfl) w
      · replace w := ql_if w c9
        refine ql_aload_n (r := rl3) C dL_law_2885 rfl (lv_at hl 5 rfl) ?_
        refine lv_iconst (v := (0 : Int32)) C.1.1 C.1.2.1 dL_law_2886 (by decide) ?_
        refine ql_lald C S dL_law_2887 w (fun j290 w => ?_)
        refine lv_iload C.1.1 C.1.2.1 dL_law_2888 (lv_at hl 0 rfl) ?_
        refine lv_i2l C.1.1 C.1.2.1 dL_law_2890 rfl ?_
        refine W.lcmp C.1.1 C.1.2.1 dL_law_2891 ?_
        refine lv_if_eq (tgt := 2897) C.1.1 C.1.2.1 dL_law_2892 (by decide) (fun c9 => ?_) (fun c9 => ?_)
        · replace w := ql_if w c9
          exact hB2897 n hn9 k28 hk28 rl1 rl2 rl3 rl4 xl5 _ _ _ _ S (lv_sub hl [2, 3, 4, 5, 6, 7] rfl) w
        · replace w := ql_ifn w c9
          refine lv_iconst (v := (0 : Int32)) C.1.1 C.1.2.1 dL_law_2895 (by decide) ?_
          exact ql_zret C S hr hlocks dL_law_2896 ⟨(by show _ ≤ (603072 : Nat); omega), (by show _ ≤ (7190633 : Nat); omega)⟩ w
    · replace w := ql_ifn w c9
      refine lv_iconst (v := (0 : Int32)) C.1.1 C.1.2.1 dL_law_2878 (by decide) ?_
      exact ql_zret C S hr hlocks dL_law_2879 ⟨(by show _ ≤ (603072 : Nat); omega), (by show _ ≤ (7190633 : Nat); omega)⟩ w
  have hB2900 : ∀ n : Nat, n + 1 ≤ 513 → ∀ (k28 : Option Nat → Option Nat → Option Nat → Option Nat → Int32 → ql_H → Prop) (hk28 : ∀ (rl1 : Option Nat) (rl2 : Option Nat) (rl3 : Option Nat) (rl4 : Option Nat) (xl5 : Int32) (h : ql_H) (H : Heap) (locs : List Loc) (ls : Array Slot), ql_S D h0 s H locs h → lv_has ls 9 [(0, .ref a0), (1, va_rf rl1), (2, va_rf rl2), (3, va_rf rl3), (4, va_rf rl4), (5, .int xl5)] → k28 rl1 rl2 rl3 rl4 xl5 h → W p l e ({ frames := 2048, cells := 603072, slots := 7190633, locals := 94400 } : Room) s m ([.ref a0] : List Value).toArray below meth c H locs (1032 + (513 - n) * 21) (15200 + (513 - n) * 5126) (vx_MQ below (ql_Q D h0 (ql_rI Q)) (ql_X D h0 X) ([.ref a0] : List Value).toArray s 603072 7190633 (ql_A h0)) (F0 m 28 ls [])) , ∀ (rl1 : Option Nat) (rl2 : Option Nat) (rl3 : Option Nat) (rl4 : Option Nat) (xl5 : Int32) (h : ql_H) (H : Heap) (locs : List Loc) (ls : Array Slot), ql_S D h0 s H locs h → lv_has ls 9 [(0, .ref a0), (1, va_rf rl1), (2, va_rf rl2), (3, va_rf rl3), (4, va_rf rl4), (5, .int xl5)] → qw_L_law_2900 D.2 L9 xs9 a0 Q X k28 rl1 rl2 rl3 rl4 xl5 h → W p l e ({ frames := 2048, cells := 603072, slots := 7190633, locals := 94400 } : Room) s m ([.ref a0] : List Value).toArray below meth c H locs (1032 + (513 - (n + 1)) * 21) (15200 + (513 - (n + 1)) * 5126) (vx_MQ below (ql_Q D h0 (ql_rI Q)) (ql_X D h0 X) ([.ref a0] : List Value).toArray s 603072 7190633 (ql_A h0)) (F0 m 2900 ls []) := by
    intro n hn9 k28 hk28 rl1 rl2 rl3 rl4 xl5 h H locs ls S hl w
    unfold qw_L_law_2900 at w
    refine ql_aload_n (r := rl1) C dL_law_2900 rfl (lv_at hl 1 rfl) ?_
    refine ql_VI (As := []) (rest := []) C S htab hlocks hl qy_X11_save qi_X11_save qs_X11_save gw_764 (ci := 12) rfl w (fun b w => qm_X11_save l hl9 D _ b _ _ w) rfl ⟨Nat.le_of_ble_eq_true rfl, Nat.le_of_ble_eq_true rfl⟩ ⟨rfl, rfl⟩ (by exact Nat.le_of_ble_eq_true rfl) (fun b e9 => by cases e9; rfl) dL_law_2901 ⟨(by show _ ≤ (603072 : Nat); omega), (by show _ ≤ (7190633 : Nat); omega)⟩ ⟨(by show _ ≤ (603072 : Nat); omega), (by show _ ≤ (7190633 : Nat); omega)⟩ (fun x291 h H locs S w => ?_)
    refine W.cs (cells' := (1032 + (513 - (n + 1)) * 21)) (slots' := (15200 + (513 - (n + 1)) * 5126)) (by omega) (by omega) ?_
    refine ql_aload_n (r := rl2) C dL_law_2904 rfl (lv_at hl 2 rfl) ?_
    refine ql_VI (As := []) (rest := [.int x291]) C S htab hlocks hl qy_X12_save qi_X12_save qs_X12_save gw_2137 (ci := 13) rfl w (fun b w => qm_X12_save l hl9 D _ b _ _ w) rfl ⟨Nat.le_of_ble_eq_true rfl, Nat.le_of_ble_eq_true rfl⟩ ⟨rfl, rfl⟩ (by exact Nat.le_of_ble_eq_true rfl) (fun b e9 => by cases e9; rfl) dL_law_2905 ⟨(by show _ ≤ (603072 : Nat); omega), (by show _ ≤ (7190633 : Nat); omega)⟩ ⟨(by show _ ≤ (603072 : Nat); omega), (by show _ ≤ (7190633 : Nat); omega)⟩ (fun x293 h H locs S w => ?_)
    refine W.cs (cells' := (1032 + (513 - (n + 1)) * 21)) (slots' := (15200 + (513 - (n + 1)) * 5126)) (by omega) (by omega) ?_
    refine lv_icmp_eq (tgt := 2957) C.1.1 C.1.2.1 dL_law_2908 (by decide) (fun c9 => ?_) (fun c9 => ?_)
    · replace w := ql_if w c9
      refine W.cs (cells' := (1053 + (513 - (n + 1)) * 21)) (slots' := (20326 + (513 - (n + 1)) * 5126)) (by omega) (by omega) ?_
      exact hB2957 n hn9 k28 hk28 rl1 rl2 rl3 rl4 xl5 _ _ _ _ S (lv_sub hl [0, 1, 2, 3, 4, 5] rfl) w
    · replace w := ql_ifn w c9
      refine lv_iconst (v := (0 : Int32)) C.1.1 C.1.2.1 dL_law_2911 (by decide) ?_
      exact ql_zret C S hr hlocks dL_law_2912 ⟨(by show _ ≤ (603072 : Nat); omega), (by show _ ≤ (7190633 : Nat); omega)⟩ w
  have hB2954 : ∀ n : Nat, n + 1 ≤ 513 → ∀ (k28 : Option Nat → Option Nat → Option Nat → Option Nat → Int32 → ql_H → Prop) (hk28 : ∀ (rl1 : Option Nat) (rl2 : Option Nat) (rl3 : Option Nat) (rl4 : Option Nat) (xl5 : Int32) (h : ql_H) (H : Heap) (locs : List Loc) (ls : Array Slot), ql_S D h0 s H locs h → lv_has ls 9 [(0, .ref a0), (1, va_rf rl1), (2, va_rf rl2), (3, va_rf rl3), (4, va_rf rl4), (5, .int xl5)] → k28 rl1 rl2 rl3 rl4 xl5 h → W p l e ({ frames := 2048, cells := 603072, slots := 7190633, locals := 94400 } : Room) s m ([.ref a0] : List Value).toArray below meth c H locs (1032 + (513 - n) * 21) (15200 + (513 - n) * 5126) (vx_MQ below (ql_Q D h0 (ql_rI Q)) (ql_X D h0 X) ([.ref a0] : List Value).toArray s 603072 7190633 (ql_A h0)) (F0 m 28 ls [])) , ∀ (rl1 : Option Nat) (rl2 : Option Nat) (rl3 : Option Nat) (rl4 : Option Nat) (xl5 : Int32) (h : ql_H) (H : Heap) (locs : List Loc) (ls : Array Slot), ql_S D h0 s H locs h → lv_has ls 9 [(0, .ref a0), (1, va_rf rl1), (2, va_rf rl2), (3, va_rf rl3), (4, va_rf rl4), (5, .int xl5)] → qw_L_law_2954 D.2 L9 xs9 a0 Q X k28 rl1 rl2 rl3 rl4 xl5 h → W p l e ({ frames := 2048, cells := 603072, slots := 7190633, locals := 94400 } : Room) s m ([.ref a0] : List Value).toArray below meth c H locs (1033 + (513 - (n + 1)) * 21) (15206 + (513 - (n + 1)) * 5126) (vx_MQ below (ql_Q D h0 (ql_rI Q)) (ql_X D h0 X) ([.ref a0] : List Value).toArray s 603072 7190633 (ql_A h0)) (F0 m 2954 ls []) := by
    intro n hn9 k28 hk28 rl1 rl2 rl3 rl4 xl5 h H locs ls S hl w
    unfold qw_L_law_2954 at w
    refine lv_goto (tgt := 2957) C.1.1 C.1.2.1 dL_law_2954 (by decide) ?_
    refine W.cs (cells' := (1053 + (513 - (n + 1)) * 21)) (slots' := (20326 + (513 - (n + 1)) * 5126)) (by omega) (by omega) ?_
    exact hB2957 n hn9 k28 hk28 rl1 rl2 rl3 rl4 xl5 _ _ _ _ S (lv_sub hl [0, 1, 2, 3, 4, 5] rfl) w
  have hB2913 : ∀ n : Nat, n + 1 ≤ 513 → ∀ (k28 : Option Nat → Option Nat → Option Nat → Option Nat → Int32 → ql_H → Prop) (hk28 : ∀ (rl1 : Option Nat) (rl2 : Option Nat) (rl3 : Option Nat) (rl4 : Option Nat) (xl5 : Int32) (h : ql_H) (H : Heap) (locs : List Loc) (ls : Array Slot), ql_S D h0 s H locs h → lv_has ls 9 [(0, .ref a0), (1, va_rf rl1), (2, va_rf rl2), (3, va_rf rl3), (4, va_rf rl4), (5, .int xl5)] → k28 rl1 rl2 rl3 rl4 xl5 h → W p l e ({ frames := 2048, cells := 603072, slots := 7190633, locals := 94400 } : Room) s m ([.ref a0] : List Value).toArray below meth c H locs (1032 + (513 - n) * 21) (15200 + (513 - n) * 5126) (vx_MQ below (ql_Q D h0 (ql_rI Q)) (ql_X D h0 X) ([.ref a0] : List Value).toArray s 603072 7190633 (ql_A h0)) (F0 m 28 ls [])) , ∀ (rl1 : Option Nat) (rl2 : Option Nat) (rl3 : Option Nat) (rl4 : Option Nat) (xl5 : Int32) (h : ql_H) (H : Heap) (locs : List Loc) (ls : Array Slot), ql_S D h0 s H locs h → lv_has ls 9 [(0, .ref a0), (1, va_rf rl1), (2, va_rf rl2), (3, va_rf rl3), (4, va_rf rl4), (5, .int xl5)] → qw_L_law_2913 D.2 L9 xs9 a0 Q X k28 rl1 rl2 rl3 rl4 xl5 h → W p l e ({ frames := 2048, cells := 603072, slots := 7190633, locals := 94400 } : Room) s m ([.ref a0] : List Value).toArray below meth c H locs (1032 + (513 - (n + 1)) * 21) (15200 + (513 - (n + 1)) * 5126) (vx_MQ below (ql_Q D h0 (ql_rI Q)) (ql_X D h0 X) ([.ref a0] : List Value).toArray s 603072 7190633 (ql_A h0)) (F0 m 2913 ls []) := by
    intro n hn9 k28 hk28 rl1 rl2 rl3 rl4 xl5 h H locs ls S hl w
    unfold qw_L_law_2913 at w
    refine ql_aload_n (r := rl1) C dL_law_2913 rfl (lv_at hl 1 rfl) ?_
    refine ql_aload_n (r := rl3) C dL_law_2914 rfl (lv_at hl 3 rfl) ?_
    refine ql_SHI (As := [va_rf rl1, va_rf rl3]) (rest := []) C S hl qyh_L_restore gw_1651 (qm_L_restore l hl9 D _ rl1 rl3 _ _ w) rfl ⟨Nat.le_of_ble_eq_true rfl, Nat.le_of_ble_eq_true rfl⟩ ⟨rfl, rfl⟩ (by exact Nat.le_of_ble_eq_true rfl) rfl dL_law_2915 ⟨(by show _ ≤ (603072 : Nat); omega), (by show _ ≤ (7190633 : Nat); omega)⟩ (fun x295 h H locs S w => ?_)
    refine W.cs (cells' := (1033 + (513 - (n + 1)) * 21)) (slots' := (15206 + (513 - (n + 1)) * 5126)) (by omega) (by omega) ?_
    refine lv_istore (lv' := [(6, .int x295), (0, .ref a0), (1, va_rf rl1), (2, va_rf rl2), (3, va_rf rl3), (4, va_rf rl4), (5, .int xl5)]) C.1.1 C.1.2.1 dL_law_2918 hl (by decide) rfl (fun ls hl => ?_)
    refine ql_aload_n (r := rl2) C dL_law_2920 rfl (lv_at hl 3 rfl) ?_
    refine ql_VI (As := []) (rest := []) C S htab hlocks hl qy_X12_restore qi_X12_restore qs_X12_restore gw_2141 (ci := 13) rfl w (fun b w => qm_X12_restore l hl9 D _ b _ _ w) rfl ⟨Nat.le_of_ble_eq_true rfl, Nat.le_of_ble_eq_true rfl⟩ ⟨rfl, rfl⟩ (by exact Nat.le_of_ble_eq_true rfl) (fun b e9 => by cases e9; rfl) dL_law_2921 ⟨(by show _ ≤ (603072 : Nat); omega), (by show _ ≤ (7190633 : Nat); omega)⟩ ⟨(by show _ ≤ (603072 : Nat); omega), (by show _ ≤ (7190633 : Nat); omega)⟩ (fun x296 h H locs S w => ?_)
    refine W.cs (cells' := (1033 + (513 - (n + 1)) * 21)) (slots' := (15206 + (513 - (n + 1)) * 5126)) (by omega) (by omega) ?_
    refine lv_istore (lv' := [(7, .int x296), (6, .int x295), (0, .ref a0), (1, va_rf rl1), (2, va_rf rl2), (3, va_rf rl3), (4, va_rf rl4), (5, .int xl5)]) C.1.1 C.1.2.1 dL_law_2924 hl (by decide) rfl (fun ls hl => ?_)
    refine ql_aload_n (r := rl2) C dL_law_2926 rfl (lv_at hl 4 rfl) ?_
    refine ql_VI (As := []) (rest := []) C S htab hlocks hl qy_X12_thrown qi_X12_thrown qs_X12_thrown gw_1727 (ci := 13) rfl w (fun b w => qm_X12_thrown l hl9 D _ b _ _ w) rfl ⟨Nat.le_of_ble_eq_true rfl, Nat.le_of_ble_eq_true rfl⟩ ⟨rfl, rfl⟩ (by exact Nat.le_of_ble_eq_true rfl) (fun b e9 => by cases e9; rfl) dL_law_2927 ⟨(by show _ ≤ (603072 : Nat); omega), (by show _ ≤ (7190633 : Nat); omega)⟩ ⟨(by show _ ≤ (603072 : Nat); omega), (by show _ ≤ (7190633 : Nat); omega)⟩ (fun x298 h H locs S w => ?_)
    refine W.cs (cells' := (1033 + (513 - (n + 1)) * 21)) (slots' := (15206 + (513 - (n + 1)) * 5126)) (by omega) (by omega) ?_
    refine lv_iload C.1.1 C.1.2.1 dL_law_2930 (lv_at hl 1 rfl) ?_
    refine lv_icmp_eq (tgt := 2937) C.1.1 C.1.2.1 dL_law_2932 (by decide) (fun c9 => ?_) (fun c9 => ?_)
    · replace w := ql_if w c9
      refine lv_iload C.1.1 C.1.2.1 dL_law_2937 (lv_at hl 1 rfl) ?_
      refine lv_if_ne (tgt := 2954) C.1.1 C.1.2.1 dL_law_2939 (by decide) (fun c9 => ?_) (fun c9 => ?_)
      · replace w := ql_ifn w c9
        exact hB2954 n hn9 k28 hk28 rl1 rl2 rl3 rl4 xl5 _ _ _ _ S (lv_sub hl [2, 3, 4, 5, 6, 7] rfl) w
      · replace w := ql_if w c9
        refine ql_aload_n (r := rl3) C dL_law_2942 rfl (lv_at hl 5 rfl) ?_
        refine lv_iconst (v := (0 : Int32)) C.1.1 C.1.2.1 dL_law_2943 (by decide) ?_
        refine ql_lald C S dL_law_2944 w (fun j300 w => ?_)
        refine lv_iload C.1.1 C.1.2.1 dL_law_2945 (lv_at hl 0 rfl) ?_
        refine lv_i2l C.1.1 C.1.2.1 dL_law_2947 rfl ?_
        refine W.lcmp C.1.1 C.1.2.1 dL_law_2948 ?_
        refine lv_if_eq (tgt := 2954) C.1.1 C.1.2.1 dL_law_2949 (by decide) (fun c9 => ?_) (fun c9 => ?_)
        · replace w := ql_if w c9
          exact hB2954 n hn9 k28 hk28 rl1 rl2 rl3 rl4 xl5 _ _ _ _ S (lv_sub hl [2, 3, 4, 5, 6, 7] rfl) w
        · replace w := ql_ifn w c9
          refine lv_iconst (v := (0 : Int32)) C.1.1 C.1.2.1 dL_law_2952 (by decide) ?_
          exact ql_zret C S hr hlocks dL_law_2953 ⟨(by show _ ≤ (603072 : Nat); omega), (by show _ ≤ (7190633 : Nat); omega)⟩ w
    · replace w := ql_ifn w c9
      refine lv_iconst (v := (0 : Int32)) C.1.1 C.1.2.1 dL_law_2935 (by decide) ?_
      exact ql_zret C S hr hlocks dL_law_2936 ⟨(by show _ ≤ (603072 : Nat); omega), (by show _ ≤ (7190633 : Nat); omega)⟩ w
  have hB28 : ∀ n : Nat, n ≤ 513 → ∀ (rl1 : Option Nat) (rl2 : Option Nat) (rl3 : Option Nat) (rl4 : Option Nat) (xl5 : Int32) (h : ql_H) (H : Heap) (locs : List Loc) (ls : Array Slot), ql_S D h0 s H locs h → lv_has ls 9 [(0, .ref a0), (1, va_rf rl1), (2, va_rf rl2), (3, va_rf rl3), (4, va_rf rl4), (5, .int xl5)] → qw_L_law_28 D.2 L9 xs9 a0 Q X n rl1 rl2 rl3 rl4 xl5 h → W p l e ({ frames := 2048, cells := 603072, slots := 7190633, locals := 94400 } : Room) s m ([.ref a0] : List Value).toArray below meth c H locs (1032 + (513 - n) * 21) (15200 + (513 - n) * 5126) (vx_MQ below (ql_Q D h0 (ql_rI Q)) (ql_X D h0 X) ([.ref a0] : List Value).toArray s 603072 7190633 (ql_A h0)) (F0 m 28 ls []) := by
    intro n
    induction n with
    | zero => intro _ rl1 rl2 rl3 rl4 xl5 h H locs ls S hl w; rw [qw_L_law_28] at w; exact w.elim
    | succ n ih =>
      intro hn9 rl1 rl2 rl3 rl4 xl5 h H locs ls S hl w
      rw [qw_L_law_28] at w
      refine lv_iload C.1.1 C.1.2.1 dL_law_28 (lv_at hl 5 rfl) ?_
      refine ql_aload_n (r := (some a0)) C dL_law_30 rfl (lv_at hl 0 rfl) ?_
      refine ql_xlen C S hX dL_law_31 ?_
      refine lv_iconst (v := (4 : Int32)) C.1.1 C.1.2.1 dL_law_32 (by decide) ?_
      refine lv_isub C.1.1 C.1.2.1 dL_law_33 ?_
      refine lv_icmp_gt (tgt := 2963) C.1.1 C.1.2.1 dL_law_34 (by decide) (fun c9 => ?_) (fun c9 => ?_)
      · replace w := ql_if w c9
        refine lv_iconst (v := (1 : Int32)) C.1.1 C.1.2.1 dL_law_2963 (by decide) ?_
        exact ql_zret C S hr hlocks dL_law_2964 ⟨(by show _ ≤ (603072 : Nat); omega), (by show _ ≤ (7190633 : Nat); omega)⟩ w
      · replace w := ql_ifn w c9
        refine ql_aload_n (r := (some a0)) C dL_law_37 rfl (lv_at hl 0 rfl) ?_
        refine lv_iload C.1.1 C.1.2.1 dL_law_38 (lv_at hl 5 rfl) ?_
        refine ql_sld C S hX w.1 dL_law_40 ?_
        replace w := w.2
        refine lv_bipush (v := (63 : Int32)) C.1.1 C.1.2.1 dL_law_41 (by decide) ?_
        refine lv_iand C.1.1 C.1.2.1 dL_law_43 ?_
        by_cases c9 : ((xs9 xl5.toNatClampNeg) &&& (63 : Int32)) = (0 : Int32)
        · replace w := ql_if w c9
          refine lv_tableIn (tgt := 276) (off := 232) C.1.1 C.1.2.1 dL_law_44 (by rw [c9]; decide) (by rw [c9]; decide) (by rw [c9]; rfl) (by decide) ?_
          exact hB276 n hn9 (qw_L_law_28 D.2 L9 xs9 a0 Q X n) (ih (by omega)) rl1 rl2 rl3 rl4 xl5 _ _ _ _ S (lv_sub hl [0, 1, 2, 3, 4, 5] rfl) w
        replace w := ql_ifn w c9
        have e0 := c9
        clear c9
        by_cases c9 : ((xs9 xl5.toNatClampNeg) &&& (63 : Int32)) = (1 : Int32)
        · replace w := ql_if w c9
          refine lv_tableIn (tgt := 346) (off := 302) C.1.1 C.1.2.1 dL_law_44 (by rw [c9]; decide) (by rw [c9]; decide) (by rw [c9]; rfl) (by decide) ?_
          exact hB346 n hn9 (qw_L_law_28 D.2 L9 xs9 a0 Q X n) (ih (by omega)) rl1 rl2 rl3 rl4 xl5 _ _ _ _ S (lv_sub hl [0, 1, 2, 3, 4, 5] rfl) w
        replace w := ql_ifn w c9
        have e1 := c9
        clear c9
        by_cases c9 : ((xs9 xl5.toNatClampNeg) &&& (63 : Int32)) = (2 : Int32)
        · replace w := ql_if w c9
          refine lv_tableIn (tgt := 428) (off := 384) C.1.1 C.1.2.1 dL_law_44 (by rw [c9]; decide) (by rw [c9]; decide) (by rw [c9]; rfl) (by decide) ?_
          exact hB428 n hn9 (qw_L_law_28 D.2 L9 xs9 a0 Q X n) (ih (by omega)) rl1 rl2 rl3 rl4 xl5 _ _ _ _ S (lv_sub hl [0, 1, 2, 3, 4, 5] rfl) w
        replace w := ql_ifn w c9
        have e2 := c9
        clear c9
        by_cases c9 : ((xs9 xl5.toNatClampNeg) &&& (63 : Int32)) = (3 : Int32)
        · replace w := ql_if w c9
          refine lv_tableIn (tgt := 510) (off := 466) C.1.1 C.1.2.1 dL_law_44 (by rw [c9]; decide) (by rw [c9]; decide) (by rw [c9]; rfl) (by decide) ?_
          exact hB510 n hn9 (qw_L_law_28 D.2 L9 xs9 a0 Q X n) (ih (by omega)) rl1 rl2 rl3 rl4 xl5 _ _ _ _ S (lv_sub hl [0, 1, 2, 3, 4, 5] rfl) w
        replace w := ql_ifn w c9
        have e3 := c9
        clear c9
        by_cases c9 : ((xs9 xl5.toNatClampNeg) &&& (63 : Int32)) = (4 : Int32)
        · replace w := ql_if w c9
          refine lv_tableIn (tgt := 578) (off := 534) C.1.1 C.1.2.1 dL_law_44 (by rw [c9]; decide) (by rw [c9]; decide) (by rw [c9]; rfl) (by decide) ?_
          exact hB578 n hn9 (qw_L_law_28 D.2 L9 xs9 a0 Q X n) (ih (by omega)) rl1 rl2 rl3 rl4 xl5 _ _ _ _ S (lv_sub hl [0, 1, 2, 3, 4, 5] rfl) w
        replace w := ql_ifn w c9
        have e4 := c9
        clear c9
        by_cases c9 : ((xs9 xl5.toNatClampNeg) &&& (63 : Int32)) = (5 : Int32)
        · replace w := ql_if w c9
          refine lv_tableIn (tgt := 646) (off := 602) C.1.1 C.1.2.1 dL_law_44 (by rw [c9]; decide) (by rw [c9]; decide) (by rw [c9]; rfl) (by decide) ?_
          exact hB646 n hn9 (qw_L_law_28 D.2 L9 xs9 a0 Q X n) (ih (by omega)) rl1 rl2 rl3 rl4 xl5 _ _ _ _ S (lv_sub hl [0, 1, 2, 3, 4, 5] rfl) w
        replace w := ql_ifn w c9
        have e5 := c9
        clear c9
        by_cases c9 : ((xs9 xl5.toNatClampNeg) &&& (63 : Int32)) = (6 : Int32)
        · replace w := ql_if w c9
          refine lv_tableIn (tgt := 714) (off := 670) C.1.1 C.1.2.1 dL_law_44 (by rw [c9]; decide) (by rw [c9]; decide) (by rw [c9]; rfl) (by decide) ?_
          exact hB714 n hn9 (qw_L_law_28 D.2 L9 xs9 a0 Q X n) (ih (by omega)) rl1 rl2 rl3 rl4 xl5 _ _ _ _ S (lv_sub hl [0, 1, 2, 3, 4, 5] rfl) w
        replace w := ql_ifn w c9
        have e6 := c9
        clear c9
        by_cases c9 : ((xs9 xl5.toNatClampNeg) &&& (63 : Int32)) = (7 : Int32)
        · replace w := ql_if w c9
          refine lv_tableIn (tgt := 782) (off := 738) C.1.1 C.1.2.1 dL_law_44 (by rw [c9]; decide) (by rw [c9]; decide) (by rw [c9]; rfl) (by decide) ?_
          exact hB782 n hn9 (qw_L_law_28 D.2 L9 xs9 a0 Q X n) (ih (by omega)) rl1 rl2 rl3 rl4 xl5 _ _ _ _ S (lv_sub hl [0, 1, 2, 3, 4, 5] rfl) w
        replace w := ql_ifn w c9
        have e7 := c9
        clear c9
        by_cases c9 : ((xs9 xl5.toNatClampNeg) &&& (63 : Int32)) = (8 : Int32)
        · replace w := ql_if w c9
          refine lv_tableIn (tgt := 838) (off := 794) C.1.1 C.1.2.1 dL_law_44 (by rw [c9]; decide) (by rw [c9]; decide) (by rw [c9]; rfl) (by decide) ?_
          exact hB838 n hn9 (qw_L_law_28 D.2 L9 xs9 a0 Q X n) (ih (by omega)) rl1 rl2 rl3 rl4 xl5 _ _ _ _ S (lv_sub hl [0, 1, 2, 3, 4, 5] rfl) w
        replace w := ql_ifn w c9
        have e8 := c9
        clear c9
        by_cases c9 : ((xs9 xl5.toNatClampNeg) &&& (63 : Int32)) = (9 : Int32)
        · replace w := ql_if w c9
          refine lv_tableIn (tgt := 851) (off := 807) C.1.1 C.1.2.1 dL_law_44 (by rw [c9]; decide) (by rw [c9]; decide) (by rw [c9]; rfl) (by decide) ?_
          exact hB851 n hn9 (qw_L_law_28 D.2 L9 xs9 a0 Q X n) (ih (by omega)) rl1 rl2 rl3 rl4 xl5 _ _ _ _ S (lv_sub hl [0, 1, 2, 3, 4, 5] rfl) w
        replace w := ql_ifn w c9
        have e9 := c9
        clear c9
        by_cases c9 : ((xs9 xl5.toNatClampNeg) &&& (63 : Int32)) = (10 : Int32)
        · replace w := ql_if w c9
          refine lv_tableIn (tgt := 907) (off := 863) C.1.1 C.1.2.1 dL_law_44 (by rw [c9]; decide) (by rw [c9]; decide) (by rw [c9]; rfl) (by decide) ?_
          exact hB907 n hn9 (qw_L_law_28 D.2 L9 xs9 a0 Q X n) (ih (by omega)) rl1 rl2 rl3 rl4 xl5 _ _ _ _ S (lv_sub hl [0, 1, 2, 3, 4, 5] rfl) w
        replace w := ql_ifn w c9
        have e10 := c9
        clear c9
        by_cases c9 : ((xs9 xl5.toNatClampNeg) &&& (63 : Int32)) = (11 : Int32)
        · replace w := ql_if w c9
          refine lv_tableIn (tgt := 920) (off := 876) C.1.1 C.1.2.1 dL_law_44 (by rw [c9]; decide) (by rw [c9]; decide) (by rw [c9]; rfl) (by decide) ?_
          exact hB920 n hn9 (qw_L_law_28 D.2 L9 xs9 a0 Q X n) (ih (by omega)) rl1 rl2 rl3 rl4 xl5 _ _ _ _ S (lv_sub hl [0, 1, 2, 3, 4, 5] rfl) w
        replace w := ql_ifn w c9
        have e11 := c9
        clear c9
        by_cases c9 : ((xs9 xl5.toNatClampNeg) &&& (63 : Int32)) = (12 : Int32)
        · replace w := ql_if w c9
          refine lv_tableIn (tgt := 933) (off := 889) C.1.1 C.1.2.1 dL_law_44 (by rw [c9]; decide) (by rw [c9]; decide) (by rw [c9]; rfl) (by decide) ?_
          exact hB933 n hn9 (qw_L_law_28 D.2 L9 xs9 a0 Q X n) (ih (by omega)) rl1 rl2 rl3 rl4 xl5 _ _ _ _ S (lv_sub hl [0, 1, 2, 3, 4, 5] rfl) w
        replace w := ql_ifn w c9
        have e12 := c9
        clear c9
        by_cases c9 : ((xs9 xl5.toNatClampNeg) &&& (63 : Int32)) = (13 : Int32)
        · replace w := ql_if w c9
          refine lv_tableIn (tgt := 989) (off := 945) C.1.1 C.1.2.1 dL_law_44 (by rw [c9]; decide) (by rw [c9]; decide) (by rw [c9]; rfl) (by decide) ?_
          exact hB989 n hn9 (qw_L_law_28 D.2 L9 xs9 a0 Q X n) (ih (by omega)) rl1 rl2 rl3 rl4 xl5 _ _ _ _ S (lv_sub hl [0, 1, 2, 3, 4, 5] rfl) w
        replace w := ql_ifn w c9
        have e13 := c9
        clear c9
        by_cases c9 : ((xs9 xl5.toNatClampNeg) &&& (63 : Int32)) = (14 : Int32)
        · replace w := ql_if w c9
          refine lv_tableIn (tgt := 1045) (off := 1001) C.1.1 C.1.2.1 dL_law_44 (by rw [c9]; decide) (by rw [c9]; decide) (by rw [c9]; rfl) (by decide) ?_
          exact hB1045 n hn9 (qw_L_law_28 D.2 L9 xs9 a0 Q X n) (ih (by omega)) rl1 rl2 rl3 rl4 xl5 _ _ _ _ S (lv_sub hl [0, 1, 2, 3, 4, 5] rfl) w
        replace w := ql_ifn w c9
        have e14 := c9
        clear c9
        by_cases c9 : ((xs9 xl5.toNatClampNeg) &&& (63 : Int32)) = (15 : Int32)
        · replace w := ql_if w c9
          refine lv_tableIn (tgt := 1101) (off := 1057) C.1.1 C.1.2.1 dL_law_44 (by rw [c9]; decide) (by rw [c9]; decide) (by rw [c9]; rfl) (by decide) ?_
          exact hB1101 n hn9 (qw_L_law_28 D.2 L9 xs9 a0 Q X n) (ih (by omega)) rl1 rl2 rl3 rl4 xl5 _ _ _ _ S (lv_sub hl [0, 1, 2, 3, 4, 5] rfl) w
        replace w := ql_ifn w c9
        have e15 := c9
        clear c9
        by_cases c9 : ((xs9 xl5.toNatClampNeg) &&& (63 : Int32)) = (16 : Int32)
        · replace w := ql_if w c9
          refine lv_tableIn (tgt := 1157) (off := 1113) C.1.1 C.1.2.1 dL_law_44 (by rw [c9]; decide) (by rw [c9]; decide) (by rw [c9]; rfl) (by decide) ?_
          exact hB1157 n hn9 (qw_L_law_28 D.2 L9 xs9 a0 Q X n) (ih (by omega)) rl1 rl2 rl3 rl4 xl5 _ _ _ _ S (lv_sub hl [0, 1, 2, 3, 4, 5] rfl) w
        replace w := ql_ifn w c9
        have e16 := c9
        clear c9
        by_cases c9 : ((xs9 xl5.toNatClampNeg) &&& (63 : Int32)) = (17 : Int32)
        · replace w := ql_if w c9
          refine lv_tableIn (tgt := 1213) (off := 1169) C.1.1 C.1.2.1 dL_law_44 (by rw [c9]; decide) (by rw [c9]; decide) (by rw [c9]; rfl) (by decide) ?_
          exact hB1213 n hn9 (qw_L_law_28 D.2 L9 xs9 a0 Q X n) (ih (by omega)) rl1 rl2 rl3 rl4 xl5 _ _ _ _ S (lv_sub hl [0, 1, 2, 3, 4, 5] rfl) w
        replace w := ql_ifn w c9
        have e17 := c9
        clear c9
        by_cases c9 : ((xs9 xl5.toNatClampNeg) &&& (63 : Int32)) = (18 : Int32)
        · replace w := ql_if w c9
          refine lv_tableIn (tgt := 1288) (off := 1244) C.1.1 C.1.2.1 dL_law_44 (by rw [c9]; decide) (by rw [c9]; decide) (by rw [c9]; rfl) (by decide) ?_
          exact hB1288 n hn9 (qw_L_law_28 D.2 L9 xs9 a0 Q X n) (ih (by omega)) rl1 rl2 rl3 rl4 xl5 _ _ _ _ S (lv_sub hl [0, 1, 2, 3, 4, 5] rfl) w
        replace w := ql_ifn w c9
        have e18 := c9
        clear c9
        by_cases c9 : ((xs9 xl5.toNatClampNeg) &&& (63 : Int32)) = (19 : Int32)
        · replace w := ql_if w c9
          refine lv_tableIn (tgt := 1351) (off := 1307) C.1.1 C.1.2.1 dL_law_44 (by rw [c9]; decide) (by rw [c9]; decide) (by rw [c9]; rfl) (by decide) ?_
          exact hB1351 n hn9 (qw_L_law_28 D.2 L9 xs9 a0 Q X n) (ih (by omega)) rl1 rl2 rl3 rl4 xl5 _ _ _ _ S (lv_sub hl [0, 1, 2, 3, 4, 5] rfl) w
        replace w := ql_ifn w c9
        have e19 := c9
        clear c9
        by_cases c9 : ((xs9 xl5.toNatClampNeg) &&& (63 : Int32)) = (20 : Int32)
        · replace w := ql_if w c9
          refine lv_tableIn (tgt := 1376) (off := 1332) C.1.1 C.1.2.1 dL_law_44 (by rw [c9]; decide) (by rw [c9]; decide) (by rw [c9]; rfl) (by decide) ?_
          exact hB1376 n hn9 (qw_L_law_28 D.2 L9 xs9 a0 Q X n) (ih (by omega)) rl1 rl2 rl3 rl4 xl5 _ _ _ _ S (lv_sub hl [0, 1, 2, 3, 4, 5] rfl) w
        replace w := ql_ifn w c9
        have e20 := c9
        clear c9
        by_cases c9 : ((xs9 xl5.toNatClampNeg) &&& (63 : Int32)) = (21 : Int32)
        · replace w := ql_if w c9
          refine lv_tableIn (tgt := 1432) (off := 1388) C.1.1 C.1.2.1 dL_law_44 (by rw [c9]; decide) (by rw [c9]; decide) (by rw [c9]; rfl) (by decide) ?_
          exact hB1432 n hn9 (qw_L_law_28 D.2 L9 xs9 a0 Q X n) (ih (by omega)) rl1 rl2 rl3 rl4 xl5 _ _ _ _ S (lv_sub hl [0, 1, 2, 3, 4, 5] rfl) w
        replace w := ql_ifn w c9
        have e21 := c9
        clear c9
        by_cases c9 : ((xs9 xl5.toNatClampNeg) &&& (63 : Int32)) = (22 : Int32)
        · replace w := ql_if w c9
          refine lv_tableIn (tgt := 1488) (off := 1444) C.1.1 C.1.2.1 dL_law_44 (by rw [c9]; decide) (by rw [c9]; decide) (by rw [c9]; rfl) (by decide) ?_
          exact hB1488 n hn9 (qw_L_law_28 D.2 L9 xs9 a0 Q X n) (ih (by omega)) rl1 rl2 rl3 rl4 xl5 _ _ _ _ S (lv_sub hl [0, 1, 2, 3, 4, 5] rfl) w
        replace w := ql_ifn w c9
        have e22 := c9
        clear c9
        by_cases c9 : ((xs9 xl5.toNatClampNeg) &&& (63 : Int32)) = (23 : Int32)
        · replace w := ql_if w c9
          refine lv_tableIn (tgt := 1556) (off := 1512) C.1.1 C.1.2.1 dL_law_44 (by rw [c9]; decide) (by rw [c9]; decide) (by rw [c9]; rfl) (by decide) ?_
          exact hB1556 n hn9 (qw_L_law_28 D.2 L9 xs9 a0 Q X n) (ih (by omega)) rl1 rl2 rl3 rl4 xl5 _ _ _ _ S (lv_sub hl [0, 1, 2, 3, 4, 5] rfl) w
        replace w := ql_ifn w c9
        have e23 := c9
        clear c9
        by_cases c9 : ((xs9 xl5.toNatClampNeg) &&& (63 : Int32)) = (24 : Int32)
        · replace w := ql_if w c9
          refine lv_tableIn (tgt := 1612) (off := 1568) C.1.1 C.1.2.1 dL_law_44 (by rw [c9]; decide) (by rw [c9]; decide) (by rw [c9]; rfl) (by decide) ?_
          exact hB1612 n hn9 (qw_L_law_28 D.2 L9 xs9 a0 Q X n) (ih (by omega)) rl1 rl2 rl3 rl4 xl5 _ _ _ _ S (lv_sub hl [0, 1, 2, 3, 4, 5] rfl) w
        replace w := ql_ifn w c9
        have e24 := c9
        clear c9
        by_cases c9 : ((xs9 xl5.toNatClampNeg) &&& (63 : Int32)) = (25 : Int32)
        · replace w := ql_if w c9
          refine lv_tableIn (tgt := 1680) (off := 1636) C.1.1 C.1.2.1 dL_law_44 (by rw [c9]; decide) (by rw [c9]; decide) (by rw [c9]; rfl) (by decide) ?_
          exact hB1680 n hn9 (qw_L_law_28 D.2 L9 xs9 a0 Q X n) (ih (by omega)) rl1 rl2 rl3 rl4 xl5 _ _ _ _ S (lv_sub hl [0, 1, 2, 3, 4, 5] rfl) w
        replace w := ql_ifn w c9
        have e25 := c9
        clear c9
        by_cases c9 : ((xs9 xl5.toNatClampNeg) &&& (63 : Int32)) = (26 : Int32)
        · replace w := ql_if w c9
          refine lv_tableIn (tgt := 1760) (off := 1716) C.1.1 C.1.2.1 dL_law_44 (by rw [c9]; decide) (by rw [c9]; decide) (by rw [c9]; rfl) (by decide) ?_
          exact hB1760 n hn9 (qw_L_law_28 D.2 L9 xs9 a0 Q X n) (ih (by omega)) rl1 rl2 rl3 rl4 xl5 _ _ _ _ S (lv_sub hl [0, 1, 2, 3, 4, 5] rfl) w
        replace w := ql_ifn w c9
        have e26 := c9
        clear c9
        by_cases c9 : ((xs9 xl5.toNatClampNeg) &&& (63 : Int32)) = (27 : Int32)
        · replace w := ql_if w c9
          refine lv_tableIn (tgt := 1840) (off := 1796) C.1.1 C.1.2.1 dL_law_44 (by rw [c9]; decide) (by rw [c9]; decide) (by rw [c9]; rfl) (by decide) ?_
          exact hB1840 n hn9 (qw_L_law_28 D.2 L9 xs9 a0 Q X n) (ih (by omega)) rl1 rl2 rl3 rl4 xl5 _ _ _ _ S (lv_sub hl [0, 1, 2, 3, 4, 5] rfl) w
        replace w := ql_ifn w c9
        have e27 := c9
        clear c9
        by_cases c9 : ((xs9 xl5.toNatClampNeg) &&& (63 : Int32)) = (28 : Int32)
        · replace w := ql_if w c9
          refine lv_tableIn (tgt := 1920) (off := 1876) C.1.1 C.1.2.1 dL_law_44 (by rw [c9]; decide) (by rw [c9]; decide) (by rw [c9]; rfl) (by decide) ?_
          exact hB1920 n hn9 (qw_L_law_28 D.2 L9 xs9 a0 Q X n) (ih (by omega)) rl1 rl2 rl3 rl4 xl5 _ _ _ _ S (lv_sub hl [0, 1, 2, 3, 4, 5] rfl) w
        replace w := ql_ifn w c9
        have e28 := c9
        clear c9
        by_cases c9 : ((xs9 xl5.toNatClampNeg) &&& (63 : Int32)) = (29 : Int32)
        · replace w := ql_if w c9
          refine lv_tableIn (tgt := 1933) (off := 1889) C.1.1 C.1.2.1 dL_law_44 (by rw [c9]; decide) (by rw [c9]; decide) (by rw [c9]; rfl) (by decide) ?_
          exact hB1933 n hn9 (qw_L_law_28 D.2 L9 xs9 a0 Q X n) (ih (by omega)) rl1 rl2 rl3 rl4 xl5 _ _ _ _ S (lv_sub hl [0, 1, 2, 3, 4, 5] rfl) w
        replace w := ql_ifn w c9
        have e29 := c9
        clear c9
        by_cases c9 : ((xs9 xl5.toNatClampNeg) &&& (63 : Int32)) = (30 : Int32)
        · replace w := ql_if w c9
          refine lv_tableIn (tgt := 1946) (off := 1902) C.1.1 C.1.2.1 dL_law_44 (by rw [c9]; decide) (by rw [c9]; decide) (by rw [c9]; rfl) (by decide) ?_
          exact hB1946 n hn9 (qw_L_law_28 D.2 L9 xs9 a0 Q X n) (ih (by omega)) rl1 rl2 rl3 rl4 xl5 _ _ _ _ S (lv_sub hl [0, 1, 2, 3, 4, 5] rfl) w
        replace w := ql_ifn w c9
        have e30 := c9
        clear c9
        by_cases c9 : ((xs9 xl5.toNatClampNeg) &&& (63 : Int32)) = (31 : Int32)
        · replace w := ql_if w c9
          refine lv_tableIn (tgt := 2002) (off := 1958) C.1.1 C.1.2.1 dL_law_44 (by rw [c9]; decide) (by rw [c9]; decide) (by rw [c9]; rfl) (by decide) ?_
          exact hB2002 n hn9 (qw_L_law_28 D.2 L9 xs9 a0 Q X n) (ih (by omega)) rl1 rl2 rl3 rl4 xl5 _ _ _ _ S (lv_sub hl [0, 1, 2, 3, 4, 5] rfl) w
        replace w := ql_ifn w c9
        have e31 := c9
        clear c9
        by_cases c9 : ((xs9 xl5.toNatClampNeg) &&& (63 : Int32)) = (32 : Int32)
        · replace w := ql_if w c9
          refine lv_tableIn (tgt := 2070) (off := 2026) C.1.1 C.1.2.1 dL_law_44 (by rw [c9]; decide) (by rw [c9]; decide) (by rw [c9]; rfl) (by decide) ?_
          exact hB2070 n hn9 (qw_L_law_28 D.2 L9 xs9 a0 Q X n) (ih (by omega)) rl1 rl2 rl3 rl4 xl5 _ _ _ _ S (lv_sub hl [0, 1, 2, 3, 4, 5] rfl) w
        replace w := ql_ifn w c9
        have e32 := c9
        clear c9
        by_cases c9 : ((xs9 xl5.toNatClampNeg) &&& (63 : Int32)) = (33 : Int32)
        · replace w := ql_if w c9
          refine lv_tableIn (tgt := 2083) (off := 2039) C.1.1 C.1.2.1 dL_law_44 (by rw [c9]; decide) (by rw [c9]; decide) (by rw [c9]; rfl) (by decide) ?_
          exact hB2083 n hn9 (qw_L_law_28 D.2 L9 xs9 a0 Q X n) (ih (by omega)) rl1 rl2 rl3 rl4 xl5 _ _ _ _ S (lv_sub hl [0, 1, 2, 3, 4, 5] rfl) w
        replace w := ql_ifn w c9
        have e33 := c9
        clear c9
        by_cases c9 : ((xs9 xl5.toNatClampNeg) &&& (63 : Int32)) = (34 : Int32)
        · replace w := ql_if w c9
          refine lv_tableIn (tgt := 2158) (off := 2114) C.1.1 C.1.2.1 dL_law_44 (by rw [c9]; decide) (by rw [c9]; decide) (by rw [c9]; rfl) (by decide) ?_
          exact hB2158 n hn9 (qw_L_law_28 D.2 L9 xs9 a0 Q X n) (ih (by omega)) rl1 rl2 rl3 rl4 xl5 _ _ _ _ S (lv_sub hl [0, 1, 2, 3, 4, 5] rfl) w
        replace w := ql_ifn w c9
        have e34 := c9
        clear c9
        by_cases c9 : ((xs9 xl5.toNatClampNeg) &&& (63 : Int32)) = (35 : Int32)
        · replace w := ql_if w c9
          refine lv_tableIn (tgt := 2233) (off := 2189) C.1.1 C.1.2.1 dL_law_44 (by rw [c9]; decide) (by rw [c9]; decide) (by rw [c9]; rfl) (by decide) ?_
          exact hB2233 n hn9 (qw_L_law_28 D.2 L9 xs9 a0 Q X n) (ih (by omega)) rl1 rl2 rl3 rl4 xl5 _ _ _ _ S (lv_sub hl [0, 1, 2, 3, 4, 5] rfl) w
        replace w := ql_ifn w c9
        have e35 := c9
        clear c9
        by_cases c9 : ((xs9 xl5.toNatClampNeg) &&& (63 : Int32)) = (36 : Int32)
        · replace w := ql_if w c9
          refine lv_tableIn (tgt := 2289) (off := 2245) C.1.1 C.1.2.1 dL_law_44 (by rw [c9]; decide) (by rw [c9]; decide) (by rw [c9]; rfl) (by decide) ?_
          exact hB2289 n hn9 (qw_L_law_28 D.2 L9 xs9 a0 Q X n) (ih (by omega)) rl1 rl2 rl3 rl4 xl5 _ _ _ _ S (lv_sub hl [0, 1, 2, 3, 4, 5] rfl) w
        replace w := ql_ifn w c9
        have e36 := c9
        clear c9
        by_cases c9 : ((xs9 xl5.toNatClampNeg) &&& (63 : Int32)) = (37 : Int32)
        · replace w := ql_if w c9
          refine lv_tableIn (tgt := 2302) (off := 2258) C.1.1 C.1.2.1 dL_law_44 (by rw [c9]; decide) (by rw [c9]; decide) (by rw [c9]; rfl) (by decide) ?_
          exact hB2302 n hn9 (qw_L_law_28 D.2 L9 xs9 a0 Q X n) (ih (by omega)) rl1 rl2 rl3 rl4 xl5 _ _ _ _ S (lv_sub hl [0, 1, 2, 3, 4, 5] rfl) w
        replace w := ql_ifn w c9
        have e37 := c9
        clear c9
        by_cases c9 : ((xs9 xl5.toNatClampNeg) &&& (63 : Int32)) = (38 : Int32)
        · replace w := ql_if w c9
          refine lv_tableIn (tgt := 2315) (off := 2271) C.1.1 C.1.2.1 dL_law_44 (by rw [c9]; decide) (by rw [c9]; decide) (by rw [c9]; rfl) (by decide) ?_
          exact hB2315 n hn9 (qw_L_law_28 D.2 L9 xs9 a0 Q X n) (ih (by omega)) rl1 rl2 rl3 rl4 xl5 _ _ _ _ S (lv_sub hl [0, 1, 2, 3, 4, 5] rfl) w
        replace w := ql_ifn w c9
        have e38 := c9
        clear c9
        by_cases c9 : ((xs9 xl5.toNatClampNeg) &&& (63 : Int32)) = (39 : Int32)
        · replace w := ql_if w c9
          refine lv_tableIn (tgt := 2328) (off := 2284) C.1.1 C.1.2.1 dL_law_44 (by rw [c9]; decide) (by rw [c9]; decide) (by rw [c9]; rfl) (by decide) ?_
          exact hB2328 n hn9 (qw_L_law_28 D.2 L9 xs9 a0 Q X n) (ih (by omega)) rl1 rl2 rl3 rl4 xl5 _ _ _ _ S (lv_sub hl [0, 1, 2, 3, 4, 5] rfl) w
        replace w := ql_ifn w c9
        have e39 := c9
        clear c9
        by_cases c9 : ((xs9 xl5.toNatClampNeg) &&& (63 : Int32)) = (40 : Int32)
        · replace w := ql_if w c9
          refine lv_tableIn (tgt := 2341) (off := 2297) C.1.1 C.1.2.1 dL_law_44 (by rw [c9]; decide) (by rw [c9]; decide) (by rw [c9]; rfl) (by decide) ?_
          exact hB2341 n hn9 (qw_L_law_28 D.2 L9 xs9 a0 Q X n) (ih (by omega)) rl1 rl2 rl3 rl4 xl5 _ _ _ _ S (lv_sub hl [0, 1, 2, 3, 4, 5] rfl) w
        replace w := ql_ifn w c9
        have e40 := c9
        clear c9
        by_cases c9 : ((xs9 xl5.toNatClampNeg) &&& (63 : Int32)) = (41 : Int32)
        · replace w := ql_if w c9
          refine lv_tableIn (tgt := 2354) (off := 2310) C.1.1 C.1.2.1 dL_law_44 (by rw [c9]; decide) (by rw [c9]; decide) (by rw [c9]; rfl) (by decide) ?_
          exact hB2354 n hn9 (qw_L_law_28 D.2 L9 xs9 a0 Q X n) (ih (by omega)) rl1 rl2 rl3 rl4 xl5 _ _ _ _ S (lv_sub hl [0, 1, 2, 3, 4, 5] rfl) w
        replace w := ql_ifn w c9
        have e41 := c9
        clear c9
        by_cases c9 : ((xs9 xl5.toNatClampNeg) &&& (63 : Int32)) = (42 : Int32)
        · replace w := ql_if w c9
          refine lv_tableIn (tgt := 2410) (off := 2366) C.1.1 C.1.2.1 dL_law_44 (by rw [c9]; decide) (by rw [c9]; decide) (by rw [c9]; rfl) (by decide) ?_
          exact hB2410 n hn9 (qw_L_law_28 D.2 L9 xs9 a0 Q X n) (ih (by omega)) rl1 rl2 rl3 rl4 xl5 _ _ _ _ S (lv_sub hl [0, 1, 2, 3, 4, 5] rfl) w
        replace w := ql_ifn w c9
        have e42 := c9
        clear c9
        by_cases c9 : ((xs9 xl5.toNatClampNeg) &&& (63 : Int32)) = (43 : Int32)
        · replace w := ql_if w c9
          refine lv_tableIn (tgt := 2475) (off := 2431) C.1.1 C.1.2.1 dL_law_44 (by rw [c9]; decide) (by rw [c9]; decide) (by rw [c9]; rfl) (by decide) ?_
          exact hB2475 n hn9 (qw_L_law_28 D.2 L9 xs9 a0 Q X n) (ih (by omega)) rl1 rl2 rl3 rl4 xl5 _ _ _ _ S (lv_sub hl [0, 1, 2, 3, 4, 5] rfl) w
        replace w := ql_ifn w c9
        have e43 := c9
        clear c9
        by_cases c9 : ((xs9 xl5.toNatClampNeg) &&& (63 : Int32)) = (44 : Int32)
        · replace w := ql_if w c9
          refine lv_tableIn (tgt := 2541) (off := 2497) C.1.1 C.1.2.1 dL_law_44 (by rw [c9]; decide) (by rw [c9]; decide) (by rw [c9]; rfl) (by decide) ?_
          exact hB2541 n hn9 (qw_L_law_28 D.2 L9 xs9 a0 Q X n) (ih (by omega)) rl1 rl2 rl3 rl4 xl5 _ _ _ _ S (lv_sub hl [0, 1, 2, 3, 4, 5] rfl) w
        replace w := ql_ifn w c9
        have e44 := c9
        clear c9
        by_cases c9 : ((xs9 xl5.toNatClampNeg) &&& (63 : Int32)) = (45 : Int32)
        · replace w := ql_if w c9
          refine lv_tableIn (tgt := 2554) (off := 2510) C.1.1 C.1.2.1 dL_law_44 (by rw [c9]; decide) (by rw [c9]; decide) (by rw [c9]; rfl) (by decide) ?_
          exact hB2554 n hn9 (qw_L_law_28 D.2 L9 xs9 a0 Q X n) (ih (by omega)) rl1 rl2 rl3 rl4 xl5 _ _ _ _ S (lv_sub hl [0, 1, 2, 3, 4, 5] rfl) w
        replace w := ql_ifn w c9
        have e45 := c9
        clear c9
        by_cases c9 : ((xs9 xl5.toNatClampNeg) &&& (63 : Int32)) = (46 : Int32)
        · replace w := ql_if w c9
          refine lv_tableIn (tgt := 2610) (off := 2566) C.1.1 C.1.2.1 dL_law_44 (by rw [c9]; decide) (by rw [c9]; decide) (by rw [c9]; rfl) (by decide) ?_
          exact hB2610 n hn9 (qw_L_law_28 D.2 L9 xs9 a0 Q X n) (ih (by omega)) rl1 rl2 rl3 rl4 xl5 _ _ _ _ S (lv_sub hl [0, 1, 2, 3, 4, 5] rfl) w
        replace w := ql_ifn w c9
        have e46 := c9
        clear c9
        by_cases c9 : ((xs9 xl5.toNatClampNeg) &&& (63 : Int32)) = (47 : Int32)
        · replace w := ql_if w c9
          refine lv_tableIn (tgt := 2666) (off := 2622) C.1.1 C.1.2.1 dL_law_44 (by rw [c9]; decide) (by rw [c9]; decide) (by rw [c9]; rfl) (by decide) ?_
          exact hB2666 n hn9 (qw_L_law_28 D.2 L9 xs9 a0 Q X n) (ih (by omega)) rl1 rl2 rl3 rl4 xl5 _ _ _ _ S (lv_sub hl [0, 1, 2, 3, 4, 5] rfl) w
        replace w := ql_ifn w c9
        have e47 := c9
        clear c9
        by_cases c9 : ((xs9 xl5.toNatClampNeg) &&& (63 : Int32)) = (48 : Int32)
        · replace w := ql_if w c9
          refine lv_tableIn (tgt := 2724) (off := 2680) C.1.1 C.1.2.1 dL_law_44 (by rw [c9]; decide) (by rw [c9]; decide) (by rw [c9]; rfl) (by decide) ?_
          exact hB2724 n hn9 (qw_L_law_28 D.2 L9 xs9 a0 Q X n) (ih (by omega)) rl1 rl2 rl3 rl4 xl5 _ _ _ _ S (lv_sub hl [0, 1, 2, 3, 4, 5] rfl) w
        replace w := ql_ifn w c9
        have e48 := c9
        clear c9
        by_cases c9 : ((xs9 xl5.toNatClampNeg) &&& (63 : Int32)) = (49 : Int32)
        · replace w := ql_if w c9
          refine lv_tableIn (tgt := 2768) (off := 2724) C.1.1 C.1.2.1 dL_law_44 (by rw [c9]; decide) (by rw [c9]; decide) (by rw [c9]; rfl) (by decide) ?_
          exact hB2768 n hn9 (qw_L_law_28 D.2 L9 xs9 a0 Q X n) (ih (by omega)) rl1 rl2 rl3 rl4 xl5 _ _ _ _ S (lv_sub hl [0, 1, 2, 3, 4, 5] rfl) w
        replace w := ql_ifn w c9
        have e49 := c9
        clear c9
        by_cases c9 : ((xs9 xl5.toNatClampNeg) &&& (63 : Int32)) = (50 : Int32)
        · replace w := ql_if w c9
          refine lv_tableIn (tgt := 2812) (off := 2768) C.1.1 C.1.2.1 dL_law_44 (by rw [c9]; decide) (by rw [c9]; decide) (by rw [c9]; rfl) (by decide) ?_
          exact hB2812 n hn9 (qw_L_law_28 D.2 L9 xs9 a0 Q X n) (ih (by omega)) rl1 rl2 rl3 rl4 xl5 _ _ _ _ S (lv_sub hl [0, 1, 2, 3, 4, 5] rfl) w
        replace w := ql_ifn w c9
        have e50 := c9
        clear c9
        by_cases c9 : ((xs9 xl5.toNatClampNeg) &&& (63 : Int32)) = (51 : Int32)
        · replace w := ql_if w c9
          refine lv_tableIn (tgt := 2856) (off := 2812) C.1.1 C.1.2.1 dL_law_44 (by rw [c9]; decide) (by rw [c9]; decide) (by rw [c9]; rfl) (by decide) ?_
          exact hB2856 n hn9 (qw_L_law_28 D.2 L9 xs9 a0 Q X n) (ih (by omega)) rl1 rl2 rl3 rl4 xl5 _ _ _ _ S (lv_sub hl [0, 1, 2, 3, 4, 5] rfl) w
        replace w := ql_ifn w c9
        have e51 := c9
        clear c9
        by_cases c9 : ((xs9 xl5.toNatClampNeg) &&& (63 : Int32)) = (52 : Int32)
        · replace w := ql_if w c9
          refine lv_tableIn (tgt := 2900) (off := 2856) C.1.1 C.1.2.1 dL_law_44 (by rw [c9]; decide) (by rw [c9]; decide) (by rw [c9]; rfl) (by decide) ?_
          exact hB2900 n hn9 (qw_L_law_28 D.2 L9 xs9 a0 Q X n) (ih (by omega)) rl1 rl2 rl3 rl4 xl5 _ _ _ _ S (lv_sub hl [0, 1, 2, 3, 4, 5] rfl) w
        replace w := ql_ifn w c9
        have e52 := c9
        clear c9
        by_cases c9 : ((xs9 xl5.toNatClampNeg) &&& (63 : Int32)) = (53 : Int32)
        · replace w := ql_if w c9
          refine lv_tableIn (tgt := 2913) (off := 2869) C.1.1 C.1.2.1 dL_law_44 (by rw [c9]; decide) (by rw [c9]; decide) (by rw [c9]; rfl) (by decide) ?_
          exact hB2913 n hn9 (qw_L_law_28 D.2 L9 xs9 a0 Q X n) (ih (by omega)) rl1 rl2 rl3 rl4 xl5 _ _ _ _ S (lv_sub hl [0, 1, 2, 3, 4, 5] rfl) w
        replace w := ql_ifn w c9
        have e53 := c9
        clear c9
        refine lv_tableOut (tgt := 2957) C.1.1 C.1.2.1 dL_law_44 (ql_sw (n := 54) (by decide) (fun k hk => ?_)) (by decide) ?_
        · rcases (show k = 0 ∨ k = 1 ∨ k = 2 ∨ k = 3 ∨ k = 4 ∨ k = 5 ∨ k = 6 ∨ k = 7 ∨ k = 8 ∨ k = 9 ∨ k = 10 ∨ k = 11 ∨ k = 12 ∨ k = 13 ∨ k = 14 ∨ k = 15 ∨ k = 16 ∨ k = 17 ∨ k = 18 ∨ k = 19 ∨ k = 20 ∨ k = 21 ∨ k = 22 ∨ k = 23 ∨ k = 24 ∨ k = 25 ∨ k = 26 ∨ k = 27 ∨ k = 28 ∨ k = 29 ∨ k = 30 ∨ k = 31 ∨ k = 32 ∨ k = 33 ∨ k = 34 ∨ k = 35 ∨ k = 36 ∨ k = 37 ∨ k = 38 ∨ k = 39 ∨ k = 40 ∨ k = 41 ∨ k = 42 ∨ k = 43 ∨ k = 44 ∨ k = 45 ∨ k = 46 ∨ k = 47 ∨ k = 48 ∨ k = 49 ∨ k = 50 ∨ k = 51 ∨ k = 52 ∨ k = 53 by omega) with rfl | rfl | rfl | rfl | rfl | rfl | rfl | rfl | rfl | rfl | rfl | rfl | rfl | rfl | rfl | rfl | rfl | rfl | rfl | rfl | rfl | rfl | rfl | rfl | rfl | rfl | rfl | rfl | rfl | rfl | rfl | rfl | rfl | rfl | rfl | rfl | rfl | rfl | rfl | rfl | rfl | rfl | rfl | rfl | rfl | rfl | rfl | rfl | rfl | rfl | rfl | rfl | rfl | rfl
          · exact e0
          · exact e1
          · exact e2
          · exact e3
          · exact e4
          · exact e5
          · exact e6
          · exact e7
          · exact e8
          · exact e9
          · exact e10
          · exact e11
          · exact e12
          · exact e13
          · exact e14
          · exact e15
          · exact e16
          · exact e17
          · exact e18
          · exact e19
          · exact e20
          · exact e21
          · exact e22
          · exact e23
          · exact e24
          · exact e25
          · exact e26
          · exact e27
          · exact e28
          · exact e29
          · exact e30
          · exact e31
          · exact e32
          · exact e33
          · exact e34
          · exact e35
          · exact e36
          · exact e37
          · exact e38
          · exact e39
          · exact e40
          · exact e41
          · exact e42
          · exact e43
          · exact e44
          · exact e45
          · exact e46
          · exact e47
          · exact e48
          · exact e49
          · exact e50
          · exact e51
          · exact e52
          · exact e53
        refine W.cs (cells' := (1053 + (513 - (n + 1)) * 21)) (slots' := (20326 + (513 - (n + 1)) * 5126)) (by omega) (by omega) ?_
        exact hB2957 n hn9 (qw_L_law_28 D.2 L9 xs9 a0 Q X n) (ih (by omega)) rl1 rl2 rl3 rl4 xl5 _ _ _ _ S (lv_sub hl [0, 1, 2, 3, 4, 5] rfl) w
  unfold qw_L_law at w
  refine ql_new (ci := 12) (fs := [.null, .null, .int 0, .null, .null, .int 0, .int 0, .null, .null, .null, .null]) C S rfl qlay_12 tyX11 tyX11_ok gw_108 gw_109 gw_71 (fun j hj => by rcases (show j = 0 ∨ j = 1 ∨ j = 2 ∨ j = 3 ∨ j = 4 ∨ j = 5 ∨ j = 6 ∨ j = 7 ∨ j = 8 ∨ j = 9 ∨ j = 10 by omega) with rfl | rfl | rfl | rfl | rfl | rfl | rfl | rfl | rfl | rfl | rfl <;> rfl) ⟨Nat.le_of_ble_eq_true rfl, Nat.le_of_ble_eq_true rfl⟩ dL_law_0 w (fun r301 h H S w => ?_)
  refine W.cs (cells' := 1) (slots' := 11) rfl rfl ?_
  refine lv_dup C.1.1 C.1.2.1 dL_law_3 (ql_catR _) ?_
  refine ql_I0 (As := []) (rest := [va_rf r301]) C S htab hlocks hl qy_X11_init qi_X11_init rfl gw_110 w (fun b w => qm_X11_init l hl9 D _ b _ _ w) rfl ⟨Nat.le_of_ble_eq_true rfl, Nat.le_of_ble_eq_true rfl⟩ ⟨rfl, rfl⟩ (by generalize r301 = z0; cases z0 <;> exact Nat.le_of_ble_eq_true rfl) (fun b e9 => by cases e9; rfl) dL_law_4 ⟨Nat.le_of_ble_eq_true rfl, Nat.le_of_ble_eq_true rfl⟩ ⟨Nat.le_of_ble_eq_true rfl, Nat.le_of_ble_eq_true rfl⟩ (fun h H locs S w => ?_)
  refine W.cs (cells' := 1020) (slots' := 7391) rfl rfl ?_
  refine ql_astore_n (lv' := [(1, va_rf r301), (0, .ref a0)]) C dL_law_7 rfl hl (by decide) rfl (fun ls hl => ?_)
  refine ql_new (ci := 13) (fs := [.null, .null, .null, .null, .int 0, .int 0, .int 0, .int 0, .null, .int 0, .int 0, .int 0, .null, .int 0, .null, .null, .int 0, .null, .int 0]) C S rfl qlay_13 tyX12 tyX12_ok gw_1662 gw_1663 gw_86 (fun j hj => by rcases (show j = 0 ∨ j = 1 ∨ j = 2 ∨ j = 3 ∨ j = 4 ∨ j = 5 ∨ j = 6 ∨ j = 7 ∨ j = 8 ∨ j = 9 ∨ j = 10 ∨ j = 11 ∨ j = 12 ∨ j = 13 ∨ j = 14 ∨ j = 15 ∨ j = 16 ∨ j = 17 ∨ j = 18 by omega) with rfl | rfl | rfl | rfl | rfl | rfl | rfl | rfl | rfl | rfl | rfl | rfl | rfl | rfl | rfl | rfl | rfl | rfl | rfl <;> rfl) ⟨Nat.le_of_ble_eq_true rfl, Nat.le_of_ble_eq_true rfl⟩ dL_law_8 w (fun r303 h H S w => ?_)
  refine W.cs (cells' := 1021) (slots' := 7410) rfl rfl ?_
  refine lv_dup C.1.1 C.1.2.1 dL_law_11 (ql_catR _) ?_
  refine ql_I0 (As := []) (rest := [va_rf r303]) C S htab hlocks hl qy_X12_init qi_X12_init rfl gw_1664 w (fun b w => qm_X12_init l hl9 D _ b _ _ w) rfl ⟨Nat.le_of_ble_eq_true rfl, Nat.le_of_ble_eq_true rfl⟩ ⟨rfl, rfl⟩ (by generalize r303 = z0; cases z0 <;> exact Nat.le_of_ble_eq_true rfl) (fun b e9 => by cases e9; rfl) dL_law_12 ⟨Nat.le_of_ble_eq_true rfl, Nat.le_of_ble_eq_true rfl⟩ ⟨Nat.le_of_ble_eq_true rfl, Nat.le_of_ble_eq_true rfl⟩ (fun h H locs S w => ?_)
  refine W.cs (cells' := 1030) (slots' := 15198) rfl rfl ?_
  refine ql_astore_n (lv' := [(2, va_rf r303), (1, va_rf r301), (0, .ref a0)]) C dL_law_15 rfl hl (by decide) (by generalize r301 = z9; cases z9 <;> rfl) (fun ls hl => ?_)
  refine lv_iconst (v := (1 : Int32)) C.1.1 C.1.2.1 dL_law_16 (by decide) ?_
  refine ql_newa (kd := 1) (a0 := (1, .inr (.inl (fun _ => 0)))) (atype := .long) C S gw_165 rfl (fun z => z) (fun cA => rfl) (by decide) (by decide) (by decide) ⟨Nat.le_of_ble_eq_true rfl, Nat.le_of_ble_eq_true rfl⟩ dL_law_17 w (fun r305 h H S w => ?_)
  refine W.cs (cells' := 1031) (slots' := 15199) rfl rfl ?_
  refine ql_astore_n (lv' := [(3, va_rf r305), (2, va_rf r303), (1, va_rf r301), (0, .ref a0)]) C dL_law_19 rfl hl (by decide) (by generalize r303 = z9; cases z9 <;> rfl) (fun ls hl => ?_)
  refine lv_iconst (v := (1 : Int32)) C.1.1 C.1.2.1 dL_law_20 (by decide) ?_
  refine ql_newa (kd := 4) (a0 := (1, .inr (.inr (.inr (.inl (fun _ => 0)))))) (atype := .double) C S gw_2145 rfl (fun z => z) (fun cA => rfl) (by decide) (by decide) (by decide) ⟨Nat.le_of_ble_eq_true rfl, Nat.le_of_ble_eq_true rfl⟩ dL_law_21 w (fun r306 h H S w => ?_)
  refine W.cs (cells' := 1032) (slots' := 15200) rfl rfl ?_
  refine ql_astore (lv' := [(4, va_rf r306), (3, va_rf r305), (2, va_rf r303), (1, va_rf r301), (0, .ref a0)]) C dL_law_23 hl (by decide) (by generalize r305 = z9; cases z9 <;> rfl) (fun ls hl => ?_)
  refine lv_iconst (v := (0 : Int32)) C.1.1 C.1.2.1 dL_law_25 (by decide) ?_
  refine lv_istore (lv' := [(5, .int (0 : Int32)), (4, va_rf r306), (3, va_rf r305), (2, va_rf r303), (1, va_rf r301), (0, .ref a0)]) C.1.1 C.1.2.1 dL_law_26 hl (by decide) (by generalize r306 = z9; cases z9 <;> rfl) (fun ls hl => ?_)
  refine W.cs (cells' := (1032 + (513 - 513) * 21)) (slots' := (15200 + (513 - 513) * 5126)) (by omega) (by omega) ?_
  exact hB28 513 (Nat.le_refl _) r301 r303 r305 r306 (0 : Int32) _ _ _ _ S (lv_sub hl [5, 4, 3, 2, 1, 0] rfl) w
