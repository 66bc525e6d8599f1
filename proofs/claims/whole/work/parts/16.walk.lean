def qw_X12_carries (a0 : Nat) (xp1 : Int32) (h : ql_H) (Q : Int32 → ql_H → Prop) : Prop :=
ql_gR h (some a0) 13 17 fun r1 =>
ql_lI h r1 0 (xp1 + (1 : Int32)) fun x2 =>
ql_gR h (some a0) 13 17 fun r3 =>
ql_lI h r3 0 (xp1 + (2 : Int32)) fun x4 =>
ql_gR h (some a0) 13 17 fun r5 =>
ql_lI h r5 0 (xp1 + (3 : Int32)) fun x6 =>
ql_gR h (some a0) 13 17 fun r7 =>
ql_lI h r7 0 xp1 fun x8 =>
if x8 = (0 : Int32) then (ql_rv h (some a0) 13 fun b9 => qw_X12_addClause b9 x2 (x6.toUInt32 % 65536).toInt32 h (fun x9 h =>
Q x9 h)) else if x8 = (1 : Int32) then (ql_rv h (some a0) 13 fun b11 => qw_X12_insertNote b11 x2 x4 (x6.toUInt32 % 65536).toInt32 h (fun x11 h =>
Q x11 h)) else if x8 = (2 : Int32) then (ql_rv h (some a0) 13 fun b13 => qw_X12_replaceNote b13 x2 x4 (x6.toUInt32 % 65536).toInt32 h (fun x13 h =>
Q x13 h)) else if x8 = (3 : Int32) then (ql_rv h (some a0) 13 fun b15 => qw_X12_deleteNote b15 x2 x4 h (fun x15 h =>
Q x15 h)) else if x8 = (4 : Int32) then (ql_rv h (some a0) 13 fun b17 => qw_X12_setSunset b17 x2 x4 h (fun x17 h =>
Q x17 h)) else if x8 = (5 : Int32) then (ql_rv h (some a0) 13 fun b19 => qw_X12_cite b19 x2 x4 h (fun x19 h =>
Q x19 h)) else if x8 = (6 : Int32) then (ql_rv h (some a0) 13 fun b21 => qw_X12_uncite b21 x2 x4 h (fun x21 h =>
Q x21 h)) else if x8 = (7 : Int32) then (ql_rv h (some a0) 13 fun b23 => qw_X12_repeal b23 x2 h (fun x23 h =>
Q x23 h)) else if x8 = (8 : Int32) then (ql_rv h (some a0) 13 fun b25 => qw_X12_consolidate b25  h (fun x25 h =>
Q x25 h)) else (ql_rv h (some a0) 13 fun b27 => qw_X12_advance b27 x2 h (fun x27 h =>
Q x27 h))
set_option maxHeartbeats 4000000 in
set_option maxRecDepth 100000 in
theorem qm_X12_carries (l : Launch) (hl9 : l.stackTraces = false) (D : ql_D) (h0 : ql_H) (a0 : Nat) (xp1 : Int32) (Q : Int32 → ql_H → Prop) (X : String → ql_H → Prop) (w : qw_X12_carries a0 xp1 h0 Q) : ql_M D l yX12_carries cX12_carries 5 (some .int) ({ frames := 10, cells := 0, slots := 0, locals := 174 } : Room) h0 [.ref a0, .int xp1] (ql_rI Q) X 0 0 := by
  refine ql_ofW (by decide) (Nat.le_of_ble_eq_true rfl) ?_
  intro p e s m below meth c ls C hr hlocks hnm htab S hl
  have hl : lv_has ls 5 [(0, .ref a0), (1, .int xp1)] := hl
  unfold qw_X12_carries at w
  refine ql_aload_n (r := (some a0)) C dX12_carries_0 rfl (lv_at hl 0 rfl) ?_
  refine ql_getR C S qf_13_17 gw_1685 dX12_carries_1 w (fun r1 w => ?_)
  refine lv_iload_n C.1.1 C.1.2.1 dX12_carries_4 rfl (lv_at hl 1 rfl) ?_
  refine lv_iconst (v := (1 : Int32)) C.1.1 C.1.2.1 dX12_carries_5 (by decide) ?_
  refine lv_iadd C.1.1 C.1.2.1 dX12_carries_6 ?_
  refine ql_iald C S dX12_carries_7 w (fun x2 w => ?_)
  refine lv_istore_n (lv' := [(2, .int x2), (0, .ref a0), (1, .int xp1)]) C.1.1 C.1.2.1 dX12_carries_8 rfl hl (by decide) rfl (fun ls hl => ?_)
  refine ql_aload_n (r := (some a0)) C dX12_carries_9 rfl (lv_at hl 1 rfl) ?_
  refine ql_getR C S qf_13_17 gw_1685 dX12_carries_10 w (fun r3 w => ?_)
  refine lv_iload_n C.1.1 C.1.2.1 dX12_carries_13 rfl (lv_at hl 2 rfl) ?_
  refine lv_iconst (v := (2 : Int32)) C.1.1 C.1.2.1 dX12_carries_14 (by decide) ?_
  refine lv_iadd C.1.1 C.1.2.1 dX12_carries_15 ?_
  refine ql_iald C S dX12_carries_16 w (fun x4 w => ?_)
  refine lv_istore_n (lv' := [(3, .int x4), (2, .int x2), (0, .ref a0), (1, .int xp1)]) C.1.1 C.1.2.1 dX12_carries_17 rfl hl (by decide) rfl (fun ls hl => ?_)
  refine ql_aload_n (r := (some a0)) C dX12_carries_18 rfl (lv_at hl 2 rfl) ?_
  refine ql_getR C S qf_13_17 gw_1685 dX12_carries_19 w (fun r5 w => ?_)
  refine lv_iload_n C.1.1 C.1.2.1 dX12_carries_22 rfl (lv_at hl 3 rfl) ?_
  refine lv_iconst (v := (3 : Int32)) C.1.1 C.1.2.1 dX12_carries_23 (by decide) ?_
  refine lv_iadd C.1.1 C.1.2.1 dX12_carries_24 ?_
  refine ql_iald C S dX12_carries_25 w (fun x6 w => ?_)
  refine lv_i2c C.1.1 C.1.2.1 dX12_carries_26 rfl ?_
  refine lv_istore (lv' := [(4, .int (x6.toUInt32 % 65536).toInt32), (3, .int x4), (2, .int x2), (0, .ref a0), (1, .int xp1)]) C.1.1 C.1.2.1 dX12_carries_27 hl (by decide) rfl (fun ls hl => ?_)
  refine ql_aload_n (r := (some a0)) C dX12_carries_29 rfl (lv_at hl 3 rfl) ?_
  refine ql_getR C S qf_13_17 gw_1685 dX12_carries_30 w (fun r7 w => ?_)
  refine lv_iload_n C.1.1 C.1.2.1 dX12_carries_33 rfl (lv_at hl 4 rfl) ?_
  refine ql_iald C S dX12_carries_34 w (fun x8 w => ?_)
  by_cases c9 : x8 = (0 : Int32)
  · replace w := ql_if w c9
    refine lv_tableIn (tgt := 84) (off := 49) C.1.1 C.1.2.1 dX12_carries_35 (by rw [c9]; decide) (by rw [c9]; decide) (by rw [c9]; rfl) (by decide) ?_
    refine ql_aload_n (r := (some a0)) C dX12_carries_84 rfl (lv_at hl 3 rfl) ?_
    refine lv_iload_n C.1.1 C.1.2.1 dX12_carries_85 rfl (lv_at hl 2 rfl) ?_
    refine lv_iload C.1.1 C.1.2.1 dX12_carries_86 (lv_at hl 0 rfl) ?_
    refine ql_VI (As := [.int x2, .int (x6.toUInt32 % 65536).toInt32]) (rest := []) C S htab hlocks hl qy_X12_addClause qi_X12_addClause qs_X12_addClause gw_2115 (ci := 13) rfl w (fun b w => qm_X12_addClause l hl9 D _ b x2 (x6.toUInt32 % 65536).toInt32 _ _ w) rfl ⟨Nat.le_of_ble_eq_true rfl, Nat.le_of_ble_eq_true rfl⟩ ⟨rfl, rfl⟩ (by exact Nat.le_of_ble_eq_true rfl) (fun b e9 => by cases e9; rfl) dX12_carries_88 ⟨Nat.le_of_ble_eq_true rfl, Nat.le_of_ble_eq_true rfl⟩ ⟨Nat.le_of_ble_eq_true rfl, Nat.le_of_ble_eq_true rfl⟩ (fun x9 h H locs S w => ?_)
    refine W.cs (cells' := 0) (slots' := 0) rfl rfl ?_
    exact ql_iret C S hr hlocks dX12_carries_91 ⟨Nat.le_of_ble_eq_true rfl, Nat.le_of_ble_eq_true rfl⟩ w
  replace w := ql_ifn w c9
  have e0 := c9
  clear c9
  by_cases c9 : x8 = (1 : Int32)
  · replace w := ql_if w c9
    refine lv_tableIn (tgt := 92) (off := 57) C.1.1 C.1.2.1 dX12_carries_35 (by rw [c9]; decide) (by rw [c9]; decide) (by rw [c9]; rfl) (by decide) ?_
    refine ql_aload_n (r := (some a0)) C dX12_carries_92 rfl (lv_at hl 3 rfl) ?_
    refine lv_iload_n C.1.1 C.1.2.1 dX12_carries_93 rfl (lv_at hl 2 rfl) ?_
    refine lv_iload_n C.1.1 C.1.2.1 dX12_carries_94 rfl (lv_at hl 1 rfl) ?_
    refine lv_iload C.1.1 C.1.2.1 dX12_carries_95 (lv_at hl 0 rfl) ?_
    refine ql_VI (As := [.int x2, .int x4, .int (x6.toUInt32 % 65536).toInt32]) (rest := []) C S htab hlocks hl qy_X12_insertNote qi_X12_insertNote qs_X12_insertNote gw_2116 (ci := 13) rfl w (fun b w => qm_X12_insertNote l hl9 D _ b x2 x4 (x6.toUInt32 % 65536).toInt32 _ _ w) rfl ⟨Nat.le_of_ble_eq_true rfl, Nat.le_of_ble_eq_true rfl⟩ ⟨rfl, rfl⟩ (by exact Nat.le_of_ble_eq_true rfl) (fun b e9 => by cases e9; rfl) dX12_carries_97 ⟨Nat.le_of_ble_eq_true rfl, Nat.le_of_ble_eq_true rfl⟩ ⟨Nat.le_of_ble_eq_true rfl, Nat.le_of_ble_eq_true rfl⟩ (fun x11 h H locs S w => ?_)
    refine W.cs (cells' := 0) (slots' := 0) rfl rfl ?_
    exact ql_iret C S hr hlocks dX12_carries_100 ⟨Nat.le_of_ble_eq_true rfl, Nat.le_of_ble_eq_true rfl⟩ w
  replace w := ql_ifn w c9
  have e1 := c9
  clear c9
  by_cases c9 : x8 = (2 : Int32)
  · replace w := ql_if w c9
    refine lv_tableIn (tgt := 101) (off := 66) C.1.1 C.1.2.1 dX12_carries_35 (by rw [c9]; decide) (by rw [c9]; decide) (by rw [c9]; rfl) (by decide) ?_
    refine ql_aload_n (r := (some a0)) C dX12_carries_101 rfl (lv_at hl 3 rfl) ?_
    refine lv_iload_n C.1.1 C.1.2.1 dX12_carries_102 rfl (lv_at hl 2 rfl) ?_
    refine lv_iload_n C.1.1 C.1.2.1 dX12_carries_103 rfl (lv_at hl 1 rfl) ?_
    refine lv_iload C.1.1 C.1.2.1 dX12_carries_104 (lv_at hl 0 rfl) ?_
    refine ql_VI (As := [.int x2, .int x4, .int (x6.toUInt32 % 65536).toInt32]) (rest := []) C S htab hlocks hl qy_X12_replaceNote qi_X12_replaceNote qs_X12_replaceNote gw_2117 (ci := 13) rfl w (fun b w => qm_X12_replaceNote l hl9 D _ b x2 x4 (x6.toUInt32 % 65536).toInt32 _ _ w) rfl ⟨Nat.le_of_ble_eq_true rfl, Nat.le_of_ble_eq_true rfl⟩ ⟨rfl, rfl⟩ (by exact Nat.le_of_ble_eq_true rfl) (fun b e9 => by cases e9; rfl) dX12_carries_106 ⟨Nat.le_of_ble_eq_true rfl, Nat.le_of_ble_eq_true rfl⟩ ⟨Nat.le_of_ble_eq_true rfl, Nat.le_of_ble_eq_true rfl⟩ (fun x13 h H locs S w => ?_)
    refine W.cs (cells' := 0) (slots' := 0) rfl rfl ?_
    exact ql_iret C S hr hlocks dX12_carries_109 ⟨Nat.le_of_ble_eq_true rfl, Nat.le_of_ble_eq_true rfl⟩ w
  replace w := ql_ifn w c9
  have e2 := c9
  clear c9
  by_cases c9 : x8 = (3 : Int32)
  · replace w := ql_if w c9
    refine lv_tableIn (tgt := 110) (off := 75) C.1.1 C.1.2.1 dX12_carries_35 (by rw [c9]; decide) (by rw [c9]; decide) (by rw [c9]; rfl) (by decide) ?_
    refine ql_aload_n (r := (some a0)) C dX12_carries_110 rfl (lv_at hl 3 rfl) ?_
    refine lv_iload_n C.1.1 C.1.2.1 dX12_carries_111 rfl (lv_at hl 2 rfl) ?_
    refine lv_iload_n C.1.1 C.1.2.1 dX12_carries_112 rfl (lv_at hl 1 rfl) ?_
    refine ql_VI (As := [.int x2, .int x4]) (rest := []) C S htab hlocks hl qy_X12_deleteNote qi_X12_deleteNote qs_X12_deleteNote gw_2118 (ci := 13) rfl w (fun b w => qm_X12_deleteNote l hl9 D _ b x2 x4 _ _ w) rfl ⟨Nat.le_of_ble_eq_true rfl, Nat.le_of_ble_eq_true rfl⟩ ⟨rfl, rfl⟩ (by exact Nat.le_of_ble_eq_true rfl) (fun b e9 => by cases e9; rfl) dX12_carries_113 ⟨Nat.le_of_ble_eq_true rfl, Nat.le_of_ble_eq_true rfl⟩ ⟨Nat.le_of_ble_eq_true rfl, Nat.le_of_ble_eq_true rfl⟩ (fun x15 h H locs S w => ?_)
    refine W.cs (cells' := 0) (slots' := 0) rfl rfl ?_
    exact ql_iret C S hr hlocks dX12_carries_116 ⟨Nat.le_of_ble_eq_true rfl, Nat.le_of_ble_eq_true rfl⟩ w
  replace w := ql_ifn w c9
  have e3 := c9
  clear c9
  by_cases c9 : x8 = (4 : Int32)
  · replace w := ql_if w c9
    refine lv_tableIn (tgt := 117) (off := 82) C.1.1 C.1.2.1 dX12_carries_35 (by rw [c9]; decide) (by rw [c9]; decide) (by rw [c9]; rfl) (by decide) ?_
    refine ql_aload_n (r := (some a0)) C dX12_carries_117 rfl (lv_at hl 3 rfl) ?_
    refine lv_iload_n C.1.1 C.1.2.1 dX12_carries_118 rfl (lv_at hl 2 rfl) ?_
    refine lv_iload_n C.1.1 C.1.2.1 dX12_carries_119 rfl (lv_at hl 1 rfl) ?_
    refine ql_VI (As := [.int x2, .int x4]) (rest := []) C S htab hlocks hl qy_X12_setSunset qi_X12_setSunset qs_X12_setSunset gw_2119 (ci := 13) rfl w (fun b w => qm_X12_setSunset l hl9 D _ b x2 x4 _ _ w) rfl ⟨Nat.le_of_ble_eq_true rfl, Nat.le_of_ble_eq_true rfl⟩ ⟨rfl, rfl⟩ (by exact Nat.le_of_ble_eq_true rfl) (fun b e9 => by cases e9; rfl) dX12_carries_120 ⟨Nat.le_of_ble_eq_true rfl, Nat.le_of_ble_eq_true rfl⟩ ⟨Nat.le_of_ble_eq_true rfl, Nat.le_of_ble_eq_true rfl⟩ (fun x17 h H locs S w => ?_)
    refine W.cs (cells' := 0) (slots' := 0) rfl rfl ?_
    exact ql_iret C S hr hlocks dX12_carries_123 ⟨Nat.le_of_ble_eq_true rfl, Nat.le_of_ble_eq_true rfl⟩ w
  replace w := ql_ifn w c9
  have e4 := c9
  clear c9
  by_cases c9 : x8 = (5 : Int32)
  · replace w := ql_if w c9
    refine lv_tableIn (tgt := 124) (off := 89) C.1.1 C.1.2.1 dX12_carries_35 (by rw [c9]; decide) (by rw [c9]; decide) (by rw [c9]; rfl) (by decide) ?_
    refine ql_aload_n (r := (some a0)) C dX12_carries_124 rfl (lv_at hl 3 rfl) ?_
    refine lv_iload_n C.1.1 C.1.2.1 dX12_carries_125 rfl (lv_at hl 2 rfl) ?_
    refine lv_iload_n C.1.1 C.1.2.1 dX12_carries_126 rfl (lv_at hl 1 rfl) ?_
    refine ql_VI (As := [.int x2, .int x4]) (rest := []) C S htab hlocks hl qy_X12_cite qi_X12_cite qs_X12_cite gw_2120 (ci := 13) rfl w (fun b w => qm_X12_cite l hl9 D _ b x2 x4 _ _ w) rfl ⟨Nat.le_of_ble_eq_true rfl, Nat.le_of_ble_eq_true rfl⟩ ⟨rfl, rfl⟩ (by exact Nat.le_of_ble_eq_true rfl) (fun b e9 => by cases e9; rfl) dX12_carries_127 ⟨Nat.le_of_ble_eq_true rfl, Nat.le_of_ble_eq_true rfl⟩ ⟨Nat.le_of_ble_eq_true rfl, Nat.le_of_ble_eq_true rfl⟩ (fun x19 h H locs S w => ?_)
    refine W.cs (cells' := 0) (slots' := 0) rfl rfl ?_
    exact ql_iret C S hr hlocks dX12_carries_130 ⟨Nat.le_of_ble_eq_true rfl, Nat.le_of_ble_eq_true rfl⟩ w
  replace w := ql_ifn w c9
  have e5 := c9
  clear c9
  by_cases c9 : x8 = (6 : Int32)
  · replace w := ql_if w c9
    refine lv_tableIn (tgt := 131) (off := 96) C.1.1 C.1.2.1 dX12_carries_35 (by rw [c9]; decide) (by rw [c9]; decide) (by rw [c9]; rfl) (by decide) ?_
    refine ql_aload_n (r := (some a0)) C dX12_carries_131 rfl (lv_at hl 3 rfl) ?_
    refine lv_iload_n C.1.1 C.1.2.1 dX12_carries_132 rfl (lv_at hl 2 rfl) ?_
    refine lv_iload_n C.1.1 C.1.2.1 dX12_carries_133 rfl (lv_at hl 1 rfl) ?_
    refine ql_VI (As := [.int x2, .int x4]) (rest := []) C S htab hlocks hl qy_X12_uncite qi_X12_uncite qs_X12_uncite gw_2121 (ci := 13) rfl w (fun b w => qm_X12_uncite l hl9 D _ b x2 x4 _ _ w) rfl ⟨Nat.le_of_ble_eq_true rfl, Nat.le_of_ble_eq_true rfl⟩ ⟨rfl, rfl⟩ (by exact Nat.le_of_ble_eq_true rfl) (fun b e9 => by cases e9; rfl) dX12_carries_134 ⟨Nat.le_of_ble_eq_true rfl, Nat.le_of_ble_eq_true rfl⟩ ⟨Nat.le_of_ble_eq_true rfl, Nat.le_of_ble_eq_true rfl⟩ (fun x21 h H locs S w => ?_)
    refine W.cs (cells' := 0) (slots' := 0) rfl rfl ?_
    exact ql_iret C S hr hlocks dX12_carries_137 ⟨Nat.le_of_ble_eq_true rfl, Nat.le_of_ble_eq_true rfl⟩ w
  replace w := ql_ifn w c9
  have e6 := c9
  clear c9
  by_cases c9 : x8 = (7 : Int32)
  · replace w := ql_if w c9
    refine lv_tableIn (tgt := 138) (off := 103) C.1.1 C.1.2.1 dX12_carries_35 (by rw [c9]; decide) (by rw [c9]; decide) (by rw [c9]; rfl) (by decide) ?_
    refine ql_aload_n (r := (some a0)) C dX12_carries_138 rfl (lv_at hl 3 rfl) ?_
    refine lv_iload_n C.1.1 C.1.2.1 dX12_carries_139 rfl (lv_at hl 2 rfl) ?_
    refine ql_VI (As := [.int x2]) (rest := []) C S htab hlocks hl qy_X12_repeal qi_X12_repeal qs_X12_repeal gw_2122 (ci := 13) rfl w (fun b w => qm_X12_repeal l hl9 D _ b x2 _ _ w) rfl ⟨Nat.le_of_ble_eq_true rfl, Nat.le_of_ble_eq_true rfl⟩ ⟨rfl, rfl⟩ (by exact Nat.le_of_ble_eq_true rfl) (fun b e9 => by cases e9; rfl) dX12_carries_140 ⟨Nat.le_of_ble_eq_true rfl, Nat.le_of_ble_eq_true rfl⟩ ⟨Nat.le_of_ble_eq_true rfl, Nat.le_of_ble_eq_true rfl⟩ (fun x23 h H locs S w => ?_)
    refine W.cs (cells' := 0) (slots' := 0) rfl rfl ?_
    exact ql_iret C S hr hlocks dX12_carries_143 ⟨Nat.le_of_ble_eq_true rfl, Nat.le_of_ble_eq_true rfl⟩ w
  replace w := ql_ifn w c9
  have e7 := c9
  clear c9
  by_cases c9 : x8 = (8 : Int32)
  · replace w := ql_if w c9
    refine lv_tableIn (tgt := 144) (off := 109) C.1.1 C.1.2.1 dX12_carries_35 (by rw [c9]; decide) (by rw [c9]; decide) (by rw [c9]; rfl) (by decide) ?_
    refine ql_aload_n (r := (some a0)) C dX12_carries_144 rfl (lv_at hl 3 rfl) ?_
    refine ql_VI (As := []) (rest := []) C S htab hlocks hl qy_X12_consolidate qi_X12_consolidate qs_X12_consolidate gw_2123 (ci := 13) rfl w (fun b w => qm_X12_consolidate l hl9 D _ b _ _ w) rfl ⟨Nat.le_of_ble_eq_true rfl, Nat.le_of_ble_eq_true rfl⟩ ⟨rfl, rfl⟩ (by exact Nat.le_of_ble_eq_true rfl) (fun b e9 => by cases e9; rfl) dX12_carries_145 ⟨Nat.le_of_ble_eq_true rfl, Nat.le_of_ble_eq_true rfl⟩ ⟨Nat.le_of_ble_eq_true rfl, Nat.le_of_ble_eq_true rfl⟩ (fun x25 h H locs S w => ?_)
    refine W.cs (cells' := 0) (slots' := 0) rfl rfl ?_
    exact ql_iret C S hr hlocks dX12_carries_148 ⟨Nat.le_of_ble_eq_true rfl, Nat.le_of_ble_eq_true rfl⟩ w
  replace w := ql_ifn w c9
  have e8 := c9
  clear c9
  refine lv_tableOut (tgt := 149) C.1.1 C.1.2.1 dX12_carries_35 (ql_sw (n := 9) (by decide) (fun k hk => ?_)) (by decide) ?_
  · rcases (show k = 0 ∨ k = 1 ∨ k = 2 ∨ k = 3 ∨ k = 4 ∨ k = 5 ∨ k = 6 ∨ k = 7 ∨ k = 8 by omega) with rfl | rfl | rfl | rfl | rfl | rfl | rfl | rfl | rfl
    · exact e0
    · exact e1
    · exact e2
    · exact e3
    · exact e4
    · exact e5
    · exact e6
    · exact e7
    · exact e8
  refine ql_aload_n (r := (some a0)) C dX12_carries_149 rfl (lv_at hl 3 rfl) ?_
  refine lv_iload_n C.1.1 C.1.2.1 dX12_carries_150 rfl (lv_at hl 2 rfl) ?_
  refine ql_VI (As := [.int x2]) (rest := []) C S htab hlocks hl qy_X12_advance qi_X12_advance qs_X12_advance gw_2124 (ci := 13) rfl w (fun b w => qm_X12_advance l hl9 D _ b x2 _ _ w) rfl ⟨Nat.le_of_ble_eq_true rfl, Nat.le_of_ble_eq_true rfl⟩ ⟨rfl, rfl⟩ (by exact Nat.le_of_ble_eq_true rfl) (fun b e9 => by cases e9; rfl) dX12_carries_151 ⟨Nat.le_of_ble_eq_true rfl, Nat.le_of_ble_eq_true rfl⟩ ⟨Nat.le_of_ble_eq_true rfl, Nat.le_of_ble_eq_true rfl⟩ (fun x27 h H locs S w => ?_)
  refine W.cs (cells' := 0) (slots' := 0) rfl rfl ?_
  exact ql_iret C S hr hlocks dX12_carries_154 ⟨Nat.le_of_ble_eq_true rfl, Nat.le_of_ble_eq_true rfl⟩ w
def qw_X12_runScript_98 (σ : Nat → Nat) (a0 : Nat) (Q : Int32 → ql_H → Prop) (xl2 : Int32) (xl3 : Int32) (h : ql_H) : Prop :=
ql_pV h (some a0) 13 6 (.int (0 : Int32)) fun h =>
ql_gI h (some a0) 13 7 fun x1 =>
if x1 ≤ 0 then (ql_gR h (some a0) 13 3 fun r2 =>
ql_rv h (some a0) 13 fun b2 => qw_X12_keeps b2 r2 h (fun h =>
ql_gI h (some a0) 13 18 fun x4 =>
Q x4 h)) else (ql_gR h (some a0) 13 3 fun r5 =>
ql_gR h (some a0) 13 0 fun r6 =>
qw_X12_copies r5 (0 : Int32) r6 (0 : Int32) h (fun h =>
ql_pV h (some a0) 13 11 (.int xl2) fun h =>
ql_pV h (some a0) 13 7 (.int (2 : Int32)) fun h =>
if xl3 ≤ 0 then (Q xl3 h) else (Q (0 : Int32) h)))
def qw_X12_runScript_62 (σ : Nat → Nat) (a0 : Nat) (Q : Int32 → ql_H → Prop) : Nat → Int32 → Int32 → ql_H → Prop
  | 0, _, _, _ => False
  | n + 1, xl2, xl3, h =>
    ql_gI h (some a0) 13 18 fun x7 =>
    if x7 ≤ xl2 then (qw_X12_runScript_98 σ a0 Q xl2 xl3 h) else (ql_gI h (some a0) 13 7 fun x8 =>
    if x8 = 0 then (ql_rv h (some a0) 13 fun b9 => qw_X12_carries b9 ((4 : Int32) * xl2) h (fun x9 h =>
    ql_gI h (some a0) 13 7 fun x11 =>
    if x11 = 0 then (qw_X12_runScript_62 σ a0 Q n (xl2 + (1 : Int32)) x9 h) else (qw_X12_runScript_62 σ a0 Q n xl2 x9 h))) else (qw_X12_runScript_98 σ a0 Q xl2 xl3 h))
def qw_X12_runScript_32 (σ : Nat → Nat) (a0 : Nat) (Q : Int32 → ql_H → Prop) (rs0 : Option Nat) (xs1 : Int32) (h : ql_H) : Prop :=
ql_rv h rs0 13 fun b12 => qw_X12_fails b12 xs1 h (fun x12 h =>
if x12 = 0 then (ql_gR h (some a0) 13 0 fun r14 =>
ql_gR h (some a0) 13 3 fun r15 =>
qw_X12_copies r14 (0 : Int32) r15 (0 : Int32) h (fun h =>
ql_pV h (some a0) 13 6 (.int (1 : Int32)) fun h =>
qw_X12_runScript_62 σ a0 Q ql_FU (0 : Int32) (0 : Int32) h)) else (Q (0 : Int32) h))
def qw_X12_runScript_17 (σ : Nat → Nat) (a0 : Nat) (Q : Int32 → ql_H → Prop) (xl1 : Int32) (h : ql_H) : Prop :=
ql_pV h (some a0) 13 9 (.int (0 : Int32)) fun h =>
if xl1 = 0 then (qw_X12_runScript_32 σ a0 Q (some a0) (1 : Int32) h) else (qw_X12_runScript_32 σ a0 Q (some a0) (0 : Int32) h)
def qw_X12_runScript (σ : Nat → Nat) (a0 : Nat) (h : ql_H) (Q : Int32 → ql_H → Prop) : Prop :=
ql_rv h (some a0) 13 fun b16 => qw_X12_isScript σ b16  h (fun x16 h =>
if x16 = 0 then (ql_gI h (some a0) 13 16 fun x18 =>
ql_pV h (some a0) 13 10 (.int x18) fun h =>
qw_X12_runScript_17 σ a0 Q x16 h) else (qw_X12_runScript_17 σ a0 Q x16 h))
set_option maxHeartbeats 4000000 in
set_option maxRecDepth 100000 in
theorem qm_X12_runScript (l : Launch) (hl9 : l.stackTraces = false) (D : ql_D) (h0 : ql_H) (a0 : Nat) (Q : Int32 → ql_H → Prop) (X : String → ql_H → Prop) (w : qw_X12_runScript D.2 a0 h0 Q) : ql_M D l yX12_runScript cX12_runScript 4 (some .int) ({ frames := 16, cells := 0, slots := 0, locals := 253 } : Room) h0 [.ref a0] (ql_rI Q) X 0 0 := by
  refine ql_ofW (by decide) (Nat.le_of_ble_eq_true rfl) ?_
  intro p e s m below meth c ls C hr hlocks hnm htab S hl
  have hl : lv_has ls 4 [(0, .ref a0)] := hl
  have hB98 : ∀ (xl2 : Int32) (xl3 : Int32) (h : ql_H) (H : Heap) (locs : List Loc) (ls : Array Slot), ql_S D h0 s H locs h → lv_has ls 4 [(0, .ref a0), (2, .int xl2), (3, .int xl3)] → qw_X12_runScript_98 D.2 a0 Q xl2 xl3 h → W p l e ({ frames := 16, cells := 0, slots := 0, locals := 253 } : Room) s m ([.ref a0] : List Value).toArray below meth c H locs 0 0 (vx_MQ below (ql_Q D h0 (ql_rI Q)) (ql_X D h0 X) ([.ref a0] : List Value).toArray s 0 0 (ql_A h0)) (F0 m 98 ls []) := by
    intro xl2 xl3 h H locs ls S hl w
    unfold qw_X12_runScript_98 at w
    refine ql_aload_n (r := (some a0)) C dX12_runScript_98 rfl (lv_at hl 0 rfl) ?_
    refine lv_iconst (v := (0 : Int32)) C.1.1 C.1.2.1 dX12_runScript_99 (by decide) ?_
    refine ql_putV C S qf_13_6 gw_1674 (tyX12) tyX12_ok nmX12 rfl dX12_runScript_100 (v := .int (0 : Int32)) rfl rfl w (fun h H locs S w => ?_)
    refine ql_aload_n (r := (some a0)) C dX12_runScript_103 rfl (lv_at hl 0 rfl) ?_
    refine ql_getI C S qf_13_7 gw_1675 dX12_runScript_104 w (fun x1 w => ?_)
    refine lv_if_le (tgt := 143) C.1.1 C.1.2.1 dX12_runScript_107 (by decide) (fun c9 => ?_) (fun c9 => ?_)
    · replace w := ql_if w c9
      refine ql_aload_n (r := (some a0)) C dX12_runScript_143 rfl (lv_at hl 0 rfl) ?_
      refine ql_aload_n (r := (some a0)) C dX12_runScript_144 rfl (lv_at hl 0 rfl) ?_
      refine ql_getR C S qf_13_3 gw_1671 dX12_runScript_145 w (fun r2 w => ?_)
      refine ql_VV (As := [va_rf r2]) (rest := []) C S htab hlocks hl qy_X12_keeps qi_X12_keeps qs_X12_keeps gw_1753 (ci := 13) rfl w (fun b w => qm_X12_keeps l hl9 D _ b r2 _ _ w) rfl ⟨Nat.le_of_ble_eq_true rfl, Nat.le_of_ble_eq_true rfl⟩ ⟨rfl, rfl⟩ (by exact Nat.le_of_ble_eq_true rfl) (fun b e9 => by cases e9; rfl) dX12_runScript_148 ⟨Nat.le_of_ble_eq_true rfl, Nat.le_of_ble_eq_true rfl⟩ ⟨Nat.le_of_ble_eq_true rfl, Nat.le_of_ble_eq_true rfl⟩ (fun h H locs S w => ?_)
      refine W.cs (cells' := 0) (slots' := 0) rfl rfl ?_
      refine ql_aload_n (r := (some a0)) C dX12_runScript_151 rfl (lv_at hl 0 rfl) ?_
      refine ql_getI C S qf_13_18 gw_1686 dX12_runScript_152 w (fun x4 w => ?_)
      exact ql_iret C S hr hlocks dX12_runScript_155 ⟨Nat.le_of_ble_eq_true rfl, Nat.le_of_ble_eq_true rfl⟩ w
    · replace w := ql_ifn w c9
      refine ql_aload_n (r := (some a0)) C dX12_runScript_110 rfl (lv_at hl 0 rfl) ?_
      refine ql_getR C S qf_13_3 gw_1671 dX12_runScript_111 w (fun r5 w => ?_)
      refine lv_iconst (v := (0 : Int32)) C.1.1 C.1.2.1 dX12_runScript_114 (by decide) ?_
      refine ql_aload_n (r := (some a0)) C dX12_runScript_115 rfl (lv_at hl 0 rfl) ?_
      refine ql_getR C S qf_13_0 gw_1668 dX12_runScript_116 w (fun r6 w => ?_)
      refine lv_iconst (v := (0 : Int32)) C.1.1 C.1.2.1 dX12_runScript_119 (by decide) ?_
      refine ql_SV (As := [va_rf r5, .int (0 : Int32), va_rf r6, .int (0 : Int32)]) (rest := []) C S htab hlocks hl qy_X12_copies qi_X12_copies gw_1757 (qm_X12_copies l hl9 D _ r5 (0 : Int32) r6 (0 : Int32) _ _ w) rfl ⟨Nat.le_of_ble_eq_true rfl, Nat.le_of_ble_eq_true rfl⟩ ⟨rfl, rfl⟩ (by exact Nat.le_of_ble_eq_true rfl) rfl dX12_runScript_120 ⟨Nat.le_of_ble_eq_true rfl, Nat.le_of_ble_eq_true rfl⟩ ⟨Nat.le_of_ble_eq_true rfl, Nat.le_of_ble_eq_true rfl⟩ (fun h H locs S w => ?_)
      refine W.cs (cells' := 0) (slots' := 0) rfl rfl ?_
      refine ql_aload_n (r := (some a0)) C dX12_runScript_123 rfl (lv_at hl 0 rfl) ?_
      refine lv_iload_n C.1.1 C.1.2.1 dX12_runScript_124 rfl (lv_at hl 1 rfl) ?_
      refine ql_putV C S qf_13_11 gw_1679 (tyX12) tyX12_ok nmX12 rfl dX12_runScript_125 (v := .int xl2) rfl rfl w (fun h H locs S w => ?_)
      refine ql_aload_n (r := (some a0)) C dX12_runScript_128 rfl (lv_at hl 0 rfl) ?_
      refine lv_iconst (v := (2 : Int32)) C.1.1 C.1.2.1 dX12_runScript_129 (by decide) ?_
      refine ql_putV C S qf_13_7 gw_1675 (tyX12) tyX12_ok nmX12 rfl dX12_runScript_130 (v := .int (2 : Int32)) rfl rfl w (fun h H locs S w => ?_)
      refine lv_iload_n C.1.1 C.1.2.1 dX12_runScript_133 rfl (lv_at hl 2 rfl) ?_
      refine lv_if_le (tgt := 141) C.1.1 C.1.2.1 dX12_runScript_134 (by decide) (fun c9 => ?_) (fun c9 => ?_)
      · replace w := ql_if w c9
        refine lv_iload_n C.1.1 C.1.2.1 dX12_runScript_141 rfl (lv_at hl 2 rfl) ?_
        exact ql_iret C S hr hlocks dX12_runScript_142 ⟨Nat.le_of_ble_eq_true rfl, Nat.le_of_ble_eq_true rfl⟩ w
      · replace w := ql_ifn w c9
        refine lv_iconst (v := (0 : Int32)) C.1.1 C.1.2.1 dX12_runScript_137 (by decide) ?_
        refine lv_goto (tgt := 142) C.1.1 C.1.2.1 dX12_runScript_138 (by decide) ?_
        exact ql_iret C S hr hlocks dX12_runScript_142 ⟨Nat.le_of_ble_eq_true rfl, Nat.le_of_ble_eq_true rfl⟩ w
  have hB62 : ∀ n : Nat, ∀ (xl2 : Int32) (xl3 : Int32) (h : ql_H) (H : Heap) (locs : List Loc) (ls : Array Slot), ql_S D h0 s H locs h → lv_has ls 4 [(0, .ref a0), (2, .int xl2), (3, .int xl3)] → qw_X12_runScript_62 D.2 a0 Q n xl2 xl3 h → W p l e ({ frames := 16, cells := 0, slots := 0, locals := 253 } : Room) s m ([.ref a0] : List Value).toArray below meth c H locs 0 0 (vx_MQ below (ql_Q D h0 (ql_rI Q)) (ql_X D h0 X) ([.ref a0] : List Value).toArray s 0 0 (ql_A h0)) (F0 m 62 ls []) := by
    intro n
    induction n with
    | zero => intro xl2 xl3 h H locs ls S hl w; rw [qw_X12_runScript_62] at w; exact w.elim
    | succ n ih =>
      intro xl2 xl3 h H locs ls S hl w
      rw [qw_X12_runScript_62] at w
      refine lv_iload_n C.1.1 C.1.2.1 dX12_runScript_62 rfl (lv_at hl 1 rfl) ?_
      refine ql_aload_n (r := (some a0)) C dX12_runScript_63 rfl (lv_at hl 0 rfl) ?_
      refine ql_getI C S qf_13_18 gw_1686 dX12_runScript_64 w (fun x7 w => ?_)
      refine lv_icmp_ge (tgt := 98) C.1.1 C.1.2.1 dX12_runScript_67 (by decide) (fun c9 => ?_) (fun c9 => ?_)
      · replace w := ql_if w c9
        exact hB98 xl2 xl3 _ _ _ _ S (lv_sub hl [0, 1, 2] rfl) w
      · replace w := ql_ifn w c9
        refine ql_aload_n (r := (some a0)) C dX12_runScript_70 rfl (lv_at hl 0 rfl) ?_
        refine ql_getI C S qf_13_7 gw_1675 dX12_runScript_71 w (fun x8 w => ?_)
        refine lv_if_ne (tgt := 98) C.1.1 C.1.2.1 dX12_runScript_74 (by decide) (fun c9 => ?_) (fun c9 => ?_)
        · replace w := ql_ifn w c9
          exact hB98 xl2 xl3 _ _ _ _ S (lv_sub hl [0, 1, 2] rfl) w
        · replace w := ql_if w c9
          refine ql_aload_n (r := (some a0)) C dX12_runScript_77 rfl (lv_at hl 0 rfl) ?_
          refine lv_iconst (v := (4 : Int32)) C.1.1 C.1.2.1 dX12_runScript_78 (by decide) ?_
          refine lv_iload_n C.1.1 C.1.2.1 dX12_runScript_79 rfl (lv_at hl 1 rfl) ?_
          refine lv_imul C.1.1 C.1.2.1 dX12_runScript_80 ?_
          refine ql_VI (As := [.int ((4 : Int32) * xl2)]) (rest := []) C S htab hlocks hl qy_X12_carries qi_X12_carries qs_X12_carries gw_2111 (ci := 13) rfl w (fun b w => qm_X12_carries l hl9 D _ b ((4 : Int32) * xl2) _ _ w) rfl ⟨Nat.le_of_ble_eq_true rfl, Nat.le_of_ble_eq_true rfl⟩ ⟨rfl, rfl⟩ (by exact Nat.le_of_ble_eq_true rfl) (fun b e9 => by cases e9; rfl) dX12_runScript_81 ⟨Nat.le_of_ble_eq_true rfl, Nat.le_of_ble_eq_true rfl⟩ ⟨Nat.le_of_ble_eq_true rfl, Nat.le_of_ble_eq_true rfl⟩ (fun x9 h H locs S w => ?_)
          refine W.cs (cells' := 0) (slots' := 0) rfl rfl ?_
          refine lv_istore_n (lv' := [(3, .int x9), (0, .ref a0), (2, .int xl2)]) C.1.1 C.1.2.1 dX12_runScript_84 rfl hl (by decide) rfl (fun ls hl => ?_)
          refine ql_aload_n (r := (some a0)) C dX12_runScript_85 rfl (lv_at hl 1 rfl) ?_
          refine ql_getI C S qf_13_7 gw_1675 dX12_runScript_86 w (fun x11 w => ?_)
          refine lv_if_ne (tgt := 62) C.1.1 C.1.2.1 dX12_runScript_89 (by decide) (fun c9 => ?_) (fun c9 => ?_)
          · replace w := ql_ifn w c9
            exact ih xl2 x9 _ _ _ _ S (lv_sub hl [1, 2, 0] rfl) w
          · replace w := ql_if w c9
            refine lv_iinc (v := (xl2 + (1 : Int32))) (lv' := [(2, .int (xl2 + (1 : Int32))), (3, .int x9), (0, .ref a0)]) C.1.1 C.1.2.1 dX12_runScript_92 hl (k := 2) rfl rfl (by decide) rfl (fun ls hl => ?_)
            refine lv_goto (tgt := 62) C.1.1 C.1.2.1 dX12_runScript_95 (by decide) ?_
            exact ih (xl2 + (1 : Int32)) x9 _ _ _ _ S (lv_sub hl [2, 0, 1] rfl) w
  have hB32 : ∀ (rs0 : Option Nat) (xs1 : Int32) (h : ql_H) (H : Heap) (locs : List Loc) (ls : Array Slot), ql_S D h0 s H locs h → lv_has ls 4 [(0, .ref a0)] → qw_X12_runScript_32 D.2 a0 Q rs0 xs1 h → W p l e ({ frames := 16, cells := 0, slots := 0, locals := 253 } : Room) s m ([.ref a0] : List Value).toArray below meth c H locs 0 0 (vx_MQ below (ql_Q D h0 (ql_rI Q)) (ql_X D h0 X) ([.ref a0] : List Value).toArray s 0 0 (ql_A h0)) (F0 m 32 ls [.int xs1, va_rf rs0]) := by
    intro rs0 xs1 h H locs ls S hl w
    unfold qw_X12_runScript_32 at w
    refine ql_VI (As := [.int xs1]) (rest := []) C S htab hlocks hl qy_X12_fails qi_X12_fails qs_X12_fails gw_1749 (ci := 13) rfl w (fun b w => qm_X12_fails l hl9 D _ b xs1 _ _ w) rfl ⟨Nat.le_of_ble_eq_true rfl, Nat.le_of_ble_eq_true rfl⟩ ⟨rfl, rfl⟩ (by exact Nat.le_of_ble_eq_true rfl) (fun b e9 => by cases e9; rfl) dX12_runScript_32 ⟨Nat.le_of_ble_eq_true rfl, Nat.le_of_ble_eq_true rfl⟩ ⟨Nat.le_of_ble_eq_true rfl, Nat.le_of_ble_eq_true rfl⟩ (fun x12 h H locs S w => ?_)
    refine W.cs (cells' := 0) (slots' := 0) rfl rfl ?_
    refine lv_if_eq (tgt := 40) C.1.1 C.1.2.1 dX12_runScript_35 (by decide) (fun c9 => ?_) (fun c9 => ?_)
    · replace w := ql_if w c9
      refine ql_aload_n (r := (some a0)) C dX12_runScript_40 rfl (lv_at hl 0 rfl) ?_
      refine ql_getR C S qf_13_0 gw_1668 dX12_runScript_41 w (fun r14 w => ?_)
      refine lv_iconst (v := (0 : Int32)) C.1.1 C.1.2.1 dX12_runScript_44 (by decide) ?_
      refine ql_aload_n (r := (some a0)) C dX12_runScript_45 rfl (lv_at hl 0 rfl) ?_
      refine ql_getR C S qf_13_3 gw_1671 dX12_runScript_46 w (fun r15 w => ?_)
      refine lv_iconst (v := (0 : Int32)) C.1.1 C.1.2.1 dX12_runScript_49 (by decide) ?_
      refine ql_SV (As := [va_rf r14, .int (0 : Int32), va_rf r15, .int (0 : Int32)]) (rest := []) C S htab hlocks hl qy_X12_copies qi_X12_copies gw_1757 (qm_X12_copies l hl9 D _ r14 (0 : Int32) r15 (0 : Int32) _ _ w) rfl ⟨Nat.le_of_ble_eq_true rfl, Nat.le_of_ble_eq_true rfl⟩ ⟨rfl, rfl⟩ (by exact Nat.le_of_ble_eq_true rfl) rfl dX12_runScript_50 ⟨Nat.le_of_ble_eq_true rfl, Nat.le_of_ble_eq_true rfl⟩ ⟨Nat.le_of_ble_eq_true rfl, Nat.le_of_ble_eq_true rfl⟩ (fun h H locs S w => ?_)
      refine W.cs (cells' := 0) (slots' := 0) rfl rfl ?_
      refine ql_aload_n (r := (some a0)) C dX12_runScript_53 rfl (lv_at hl 0 rfl) ?_
      refine lv_iconst (v := (1 : Int32)) C.1.1 C.1.2.1 dX12_runScript_54 (by decide) ?_
      refine ql_putV C S qf_13_6 gw_1674 (tyX12) tyX12_ok nmX12 rfl dX12_runScript_55 (v := .int (1 : Int32)) rfl rfl w (fun h H locs S w => ?_)
      refine lv_iconst (v := (0 : Int32)) C.1.1 C.1.2.1 dX12_runScript_58 (by decide) ?_
      refine lv_istore_n (lv' := [(2, .int (0 : Int32)), (0, .ref a0)]) C.1.1 C.1.2.1 dX12_runScript_59 rfl hl (by decide) rfl (fun ls hl => ?_)
      refine lv_iconst (v := (0 : Int32)) C.1.1 C.1.2.1 dX12_runScript_60 (by decide) ?_
      refine lv_istore_n (lv' := [(3, .int (0 : Int32)), (2, .int (0 : Int32)), (0, .ref a0)]) C.1.1 C.1.2.1 dX12_runScript_61 rfl hl (by decide) rfl (fun ls hl => ?_)
      exact hB62 ql_FU (0 : Int32) (0 : Int32) _ _ _ _ S (lv_sub hl [2, 1, 0] rfl) w
    · replace w := ql_ifn w c9
      refine lv_iconst (v := (0 : Int32)) C.1.1 C.1.2.1 dX12_runScript_38 (by decide) ?_
      exact ql_iret C S hr hlocks dX12_runScript_39 ⟨Nat.le_of_ble_eq_true rfl, Nat.le_of_ble_eq_true rfl⟩ w
  have hB17 : ∀ (xl1 : Int32) (h : ql_H) (H : Heap) (locs : List Loc) (ls : Array Slot), ql_S D h0 s H locs h → lv_has ls 4 [(0, .ref a0), (1, .int xl1)] → qw_X12_runScript_17 D.2 a0 Q xl1 h → W p l e ({ frames := 16, cells := 0, slots := 0, locals := 253 } : Room) s m ([.ref a0] : List Value).toArray below meth c H locs 0 0 (vx_MQ below (ql_Q D h0 (ql_rI Q)) (ql_X D h0 X) ([.ref a0] : List Value).toArray s 0 0 (ql_A h0)) (F0 m 17 ls []) := by
    intro xl1 h H locs ls S hl w
    unfold qw_X12_runScript_17 at w
    refine ql_aload_n (r := (some a0)) C dX12_runScript_17 rfl (lv_at hl 0 rfl) ?_
    refine lv_iconst (v := (0 : Int32)) C.1.1 C.1.2.1 dX12_runScript_18 (by decide) ?_
    refine ql_putV C S qf_13_9 gw_1677 (tyX12) tyX12_ok nmX12 rfl dX12_runScript_19 (v := .int (0 : Int32)) rfl rfl w (fun h H locs S w => ?_)
    refine ql_aload_n (r := (some a0)) C dX12_runScript_22 rfl (lv_at hl 0 rfl) ?_
    refine lv_iload_n C.1.1 C.1.2.1 dX12_runScript_23 rfl (lv_at hl 1 rfl) ?_
    refine lv_if_eq (tgt := 31) C.1.1 C.1.2.1 dX12_runScript_24 (by decide) (fun c9 => ?_) (fun c9 => ?_)
    · replace w := ql_if w c9
      refine lv_iconst (v := (1 : Int32)) C.1.1 C.1.2.1 dX12_runScript_31 (by decide) ?_
      exact hB32 (some a0) (1 : Int32) _ _ _ _ S (lv_sub hl [0] rfl) w
    · replace w := ql_ifn w c9
      refine lv_iconst (v := (0 : Int32)) C.1.1 C.1.2.1 dX12_runScript_27 (by decide) ?_
      refine lv_goto (tgt := 32) C.1.1 C.1.2.1 dX12_runScript_28 (by decide) ?_
      exact hB32 (some a0) (0 : Int32) _ _ _ _ S (lv_sub hl [0] rfl) w
  unfold qw_X12_runScript at w
  refine ql_aload_n (r := (some a0)) C dX12_runScript_0 rfl (lv_at hl 0 rfl) ?_
  refine ql_VI (As := []) (rest := []) C S htab hlocks hl qy_X12_isScript qi_X12_isScript qs_X12_isScript gw_2067 (ci := 13) rfl w (fun b w => qm_X12_isScript l hl9 D _ b _ _ w) rfl ⟨Nat.le_of_ble_eq_true rfl, Nat.le_of_ble_eq_true rfl⟩ ⟨rfl, rfl⟩ (by exact Nat.le_of_ble_eq_true rfl) (fun b e9 => by cases e9; rfl) dX12_runScript_1 ⟨Nat.le_of_ble_eq_true rfl, Nat.le_of_ble_eq_true rfl⟩ ⟨Nat.le_of_ble_eq_true rfl, Nat.le_of_ble_eq_true rfl⟩ (fun x16 h H locs S w => ?_)
  refine W.cs (cells' := 0) (slots' := 0) rfl rfl ?_
  refine lv_istore_n (lv' := [(1, .int x16), (0, .ref a0)]) C.1.1 C.1.2.1 dX12_runScript_4 rfl hl (by decide) rfl (fun ls hl => ?_)
  refine lv_iload_n C.1.1 C.1.2.1 dX12_runScript_5 rfl (lv_at hl 0 rfl) ?_
  refine lv_if_ne (tgt := 17) C.1.1 C.1.2.1 dX12_runScript_6 (by decide) (fun c9 => ?_) (fun c9 => ?_)
  · replace w := ql_ifn w c9
    exact hB17 x16 _ _ _ _ S (lv_sub hl [1, 0] rfl) w
  · replace w := ql_if w c9
    refine ql_aload_n (r := (some a0)) C dX12_runScript_9 rfl (lv_at hl 1 rfl) ?_
    refine ql_aload_n (r := (some a0)) C dX12_runScript_10 rfl (lv_at hl 1 rfl) ?_
    refine ql_getI C S qf_13_16 gw_1684 dX12_runScript_11 w (fun x18 w => ?_)
    refine ql_putV C S qf_13_10 gw_1678 (tyX12) tyX12_ok nmX12 rfl dX12_runScript_14 (v := .int x18) rfl rfl w (fun h H locs S w => ?_)
    exact hB17 x16 _ _ _ _ S (lv_sub hl [1, 0] rfl) w
def qw_X12_errorPosition_13 (a0 : Nat) (Q : Int32 → ql_H → Prop) (rs0 : Option Nat) (xs1 : Int32) (h : ql_H) : Prop :=
ql_rv h rs0 13 fun b1 => qw_X12_fails b1 xs1 h (fun x1 h =>
if x1 = 0 then (ql_gI h (some a0) 13 10 fun x3 =>
Q x3 h) else (Q (0 : Int32) h))
def qw_X12_errorPosition (a0 : Nat) (h : ql_H) (Q : Int32 → ql_H → Prop) : Prop :=
ql_gI h (some a0) 13 10 fun x4 =>
if 0 ≤ x4 then (qw_X12_errorPosition_13 a0 Q (some a0) (0 : Int32) h) else (qw_X12_errorPosition_13 a0 Q (some a0) (1 : Int32) h)
set_option maxHeartbeats 4000000 in
set_option maxRecDepth 100000 in
theorem qm_X12_errorPosition (l : Launch) (hl9 : l.stackTraces = false) (D : ql_D) (h0 : ql_H) (a0 : Nat) (Q : Int32 → ql_H → Prop) (X : String → ql_H → Prop) (w : qw_X12_errorPosition a0 h0 Q) : ql_M D l yX12_errorPosition cX12_errorPosition 1 (some .int) ({ frames := 4, cells := 0, slots := 0, locals := 77 } : Room) h0 [.ref a0] (ql_rI Q) X 0 0 := by
  refine ql_ofW (by decide) (Nat.le_of_ble_eq_true rfl) ?_
  intro p e s m below meth c ls C hr hlocks hnm htab S hl
  have hl : lv_has ls 1 [(0, .ref a0)] := hl
  have hB13 : ∀ (rs0 : Option Nat) (xs1 : Int32) (h : ql_H) (H : Heap) (locs : List Loc) (ls : Array Slot), ql_S D h0 s H locs h → lv_has ls 1 [(0, .ref a0)] → qw_X12_errorPosition_13 a0 Q rs0 xs1 h → W p l e ({ frames := 4, cells := 0, slots := 0, locals := 77 } : Room) s m ([.ref a0] : List Value).toArray below meth c H locs 0 0 (vx_MQ below (ql_Q D h0 (ql_rI Q)) (ql_X D h0 X) ([.ref a0] : List Value).toArray s 0 0 (ql_A h0)) (F0 m 13 ls [.int xs1, va_rf rs0]) := by
    intro rs0 xs1 h H locs ls S hl w
    unfold qw_X12_errorPosition_13 at w
    refine ql_VI (As := [.int xs1]) (rest := []) C S htab hlocks hl qy_X12_fails qi_X12_fails qs_X12_fails gw_1749 (ci := 13) rfl w (fun b w => qm_X12_fails l hl9 D _ b xs1 _ _ w) rfl ⟨Nat.le_of_ble_eq_true rfl, Nat.le_of_ble_eq_true rfl⟩ ⟨rfl, rfl⟩ (by exact Nat.le_of_ble_eq_true rfl) (fun b e9 => by cases e9; rfl) dX12_errorPosition_13 ⟨Nat.le_of_ble_eq_true rfl, Nat.le_of_ble_eq_true rfl⟩ ⟨Nat.le_of_ble_eq_true rfl, Nat.le_of_ble_eq_true rfl⟩ (fun x1 h H locs S w => ?_)
    refine W.cs (cells' := 0) (slots' := 0) rfl rfl ?_
    refine lv_if_eq (tgt := 23) C.1.1 C.1.2.1 dX12_errorPosition_16 (by decide) (fun c9 => ?_) (fun c9 => ?_)
    · replace w := ql_if w c9
      refine ql_aload_n (r := (some a0)) C dX12_errorPosition_23 rfl (lv_at hl 0 rfl) ?_
      refine ql_getI C S qf_13_10 gw_1678 dX12_errorPosition_24 w (fun x3 w => ?_)
      exact ql_iret C S hr hlocks dX12_errorPosition_27 ⟨Nat.le_of_ble_eq_true rfl, Nat.le_of_ble_eq_true rfl⟩ w
    · replace w := ql_ifn w c9
      refine lv_iconst (v := (0 : Int32)) C.1.1 C.1.2.1 dX12_errorPosition_19 (by decide) ?_
      refine lv_goto (tgt := 27) C.1.1 C.1.2.1 dX12_errorPosition_20 (by decide) ?_
      exact ql_iret C S hr hlocks dX12_errorPosition_27 ⟨Nat.le_of_ble_eq_true rfl, Nat.le_of_ble_eq_true rfl⟩ w
  unfold qw_X12_errorPosition at w
  refine ql_aload_n (r := (some a0)) C dX12_errorPosition_0 rfl (lv_at hl 0 rfl) ?_
  refine ql_aload_n (r := (some a0)) C dX12_errorPosition_1 rfl (lv_at hl 0 rfl) ?_
  refine ql_getI C S qf_13_10 gw_1678 dX12_errorPosition_2 w (fun x4 w => ?_)
  refine lv_if_ge (tgt := 12) C.1.1 C.1.2.1 dX12_errorPosition_5 (by decide) (fun c9 => ?_) (fun c9 => ?_)
  · replace w := ql_if w c9
    refine lv_iconst (v := (0 : Int32)) C.1.1 C.1.2.1 dX12_errorPosition_12 (by decide) ?_
    exact hB13 (some a0) (0 : Int32) _ _ _ _ S (lv_sub hl [0] rfl) w
  · replace w := ql_ifn w c9
    refine lv_iconst (v := (1 : Int32)) C.1.1 C.1.2.1 dX12_errorPosition_8 (by decide) ?_
    refine lv_goto (tgt := 13) C.1.1 C.1.2.1 dX12_errorPosition_9 (by decide) ?_
    exact hB13 (some a0) (1 : Int32) _ _ _ _ S (lv_sub hl [0] rfl) w
def qw_X12_failedCommand_13 (a0 : Nat) (Q : Int32 → ql_H → Prop) (rs0 : Option Nat) (xs1 : Int32) (h : ql_H) : Prop :=
ql_rv h rs0 13 fun b1 => qw_X12_fails b1 xs1 h (fun x1 h =>
if x1 = 0 then (ql_gI h (some a0) 13 11 fun x3 =>
Q x3 h) else (Q (0 : Int32) h))
def qw_X12_failedCommand (a0 : Nat) (h : ql_H) (Q : Int32 → ql_H → Prop) : Prop :=
ql_gI h (some a0) 13 11 fun x4 =>
if 0 ≤ x4 then (qw_X12_failedCommand_13 a0 Q (some a0) (0 : Int32) h) else (qw_X12_failedCommand_13 a0 Q (some a0) (1 : Int32) h)
set_option maxHeartbeats 4000000 in
set_option maxRecDepth 100000 in
theorem qm_X12_failedCommand (l : Launch) (hl9 : l.stackTraces = false) (D : ql_D) (h0 : ql_H) (a0 : Nat) (Q : Int32 → ql_H → Prop) (X : String → ql_H → Prop) (w : qw_X12_failedCommand a0 h0 Q) : ql_M D l yX12_failedCommand cX12_failedCommand 1 (some .int) ({ frames := 4, cells := 0, slots := 0, locals := 77 } : Room) h0 [.ref a0] (ql_rI Q) X 0 0 := by
  refine ql_ofW (by decide) (Nat.le_of_ble_eq_true rfl) ?_
  intro p e s m below meth c ls C hr hlocks hnm htab S hl
  have hl : lv_has ls 1 [(0, .ref a0)] := hl
  have hB13 : ∀ (rs0 : Option Nat) (xs1 : Int32) (h : ql_H) (H : Heap) (locs : List Loc) (ls : Array Slot), ql_S D h0 s H locs h → lv_has ls 1 [(0, .ref a0)] → qw_X12_failedCommand_13 a0 Q rs0 xs1 h → W p l e ({ frames := 4, cells := 0, slots := 0, locals := 77 } : Room) s m ([.ref a0] : List Value).toArray below meth c H locs 0 0 (vx_MQ below (ql_Q D h0 (ql_rI Q)) (ql_X D h0 X) ([.ref a0] : List Value).toArray s 0 0 (ql_A h0)) (F0 m 13 ls [.int xs1, va_rf rs0]) := by
    intro rs0 xs1 h H locs ls S hl w
    unfold qw_X12_failedCommand_13 at w
    refine ql_VI (As := [.int xs1]) (rest := []) C S htab hlocks hl qy_X12_fails qi_X12_fails qs_X12_fails gw_1749 (ci := 13) rfl w (fun b w => qm_X12_fails l hl9 D _ b xs1 _ _ w) rfl ⟨Nat.le_of_ble_eq_true rfl, Nat.le_of_ble_eq_true rfl⟩ ⟨rfl, rfl⟩ (by exact Nat.le_of_ble_eq_true rfl) (fun b e9 => by cases e9; rfl) dX12_failedCommand_13 ⟨Nat.le_of_ble_eq_true rfl, Nat.le_of_ble_eq_true rfl⟩ ⟨Nat.le_of_ble_eq_true rfl, Nat.le_of_ble_eq_true rfl⟩ (fun x1 h H locs S w => ?_)
    refine W.cs (cells' := 0) (slots' := 0) rfl rfl ?_
    refine lv_if_eq (tgt := 23) C.1.1 C.1.2.1 dX12_failedCommand_16 (by decide) (fun c9 => ?_) (fun c9 => ?_)
    · replace w := ql_if w c9
      refine ql_aload_n (r := (some a0)) C dX12_failedCommand_23 rfl (lv_at hl 0 rfl) ?_
      refine ql_getI C S qf_13_11 gw_1679 dX12_failedCommand_24 w (fun x3 w => ?_)
      exact ql_iret C S hr hlocks dX12_failedCommand_27 ⟨Nat.le_of_ble_eq_true rfl, Nat.le_of_ble_eq_true rfl⟩ w
    · replace w := ql_ifn w c9
      refine lv_iconst (v := (0 : Int32)) C.1.1 C.1.2.1 dX12_failedCommand_19 (by decide) ?_
      refine lv_goto (tgt := 27) C.1.1 C.1.2.1 dX12_failedCommand_20 (by decide) ?_
      exact ql_iret C S hr hlocks dX12_failedCommand_27 ⟨Nat.le_of_ble_eq_true rfl, Nat.le_of_ble_eq_true rfl⟩ w
  unfold qw_X12_failedCommand at w
  refine ql_aload_n (r := (some a0)) C dX12_failedCommand_0 rfl (lv_at hl 0 rfl) ?_
  refine ql_aload_n (r := (some a0)) C dX12_failedCommand_1 rfl (lv_at hl 0 rfl) ?_
  refine ql_getI C S qf_13_11 gw_1679 dX12_failedCommand_2 w (fun x4 w => ?_)
  refine lv_if_ge (tgt := 12) C.1.1 C.1.2.1 dX12_failedCommand_5 (by decide) (fun c9 => ?_) (fun c9 => ?_)
  · replace w := ql_if w c9
    refine lv_iconst (v := (0 : Int32)) C.1.1 C.1.2.1 dX12_failedCommand_12 (by decide) ?_
    exact hB13 (some a0) (0 : Int32) _ _ _ _ S (lv_sub hl [0] rfl) w
  · replace w := ql_ifn w c9
    refine lv_iconst (v := (1 : Int32)) C.1.1 C.1.2.1 dX12_failedCommand_8 (by decide) ?_
    refine lv_goto (tgt := 13) C.1.1 C.1.2.1 dX12_failedCommand_9 (by decide) ?_
    exact hB13 (some a0) (1 : Int32) _ _ _ _ S (lv_sub hl [0] rfl) w
def qw_X12_undo_13 (a0 : Nat) (Q : Int32 → ql_H → Prop) (rs0 : Option Nat) (xs1 : Int32) (h : ql_H) : Prop :=
ql_rv h rs0 13 fun b1 => qw_X12_fails b1 xs1 h (fun x1 h =>
if x1 = 0 then (ql_gI h (some a0) 13 5 fun x3 =>
ql_pV h (some a0) 13 5 (.int (x3 - (1 : Int32))) fun h =>
ql_gR h (some a0) 13 1 fun r4 =>
ql_gI h (some a0) 13 5 fun x5 =>
ql_gR h (some a0) 13 0 fun r6 =>
qw_X12_copies r4 ((685 : Int32) * x5) r6 (0 : Int32) h (fun h =>
ql_gI h (some a0) 13 5 fun x7 =>
Q x7 h)) else (Q (0 : Int32) h))
def qw_X12_undo (a0 : Nat) (h : ql_H) (Q : Int32 → ql_H → Prop) : Prop :=
ql_gI h (some a0) 13 5 fun x8 =>
if x8 = 0 then (qw_X12_undo_13 a0 Q (some a0) (1 : Int32) h) else (qw_X12_undo_13 a0 Q (some a0) (0 : Int32) h)
set_option maxHeartbeats 4000000 in
set_option maxRecDepth 100000 in
theorem qm_X12_undo (l : Launch) (hl9 : l.stackTraces = false) (D : ql_D) (h0 : ql_H) (a0 : Nat) (Q : Int32 → ql_H → Prop) (X : String → ql_H → Prop) (w : qw_X12_undo a0 h0 Q) : ql_M D l yX12_undo cX12_undo 1 (some .int) ({ frames := 4, cells := 0, slots := 0, locals := 80 } : Room) h0 [.ref a0] (ql_rI Q) X 0 0 := by
  refine ql_ofW (by decide) (Nat.le_of_ble_eq_true rfl) ?_
  intro p e s m below meth c ls C hr hlocks hnm htab S hl
  have hl : lv_has ls 1 [(0, .ref a0)] := hl
  have hB13 : ∀ (rs0 : Option Nat) (xs1 : Int32) (h : ql_H) (H : Heap) (locs : List Loc) (ls : Array Slot), ql_S D h0 s H locs h → lv_has ls 1 [(0, .ref a0)] → qw_X12_undo_13 a0 Q rs0 xs1 h → W p l e ({ frames := 4, cells := 0, slots := 0, locals := 80 } : Room) s m ([.ref a0] : List Value).toArray below meth c H locs 0 0 (vx_MQ below (ql_Q D h0 (ql_rI Q)) (ql_X D h0 X) ([.ref a0] : List Value).toArray s 0 0 (ql_A h0)) (F0 m 13 ls [.int xs1, va_rf rs0]) := by
    intro rs0 xs1 h H locs ls S hl w
    unfold qw_X12_undo_13 at w
    refine ql_VI (As := [.int xs1]) (rest := []) C S htab hlocks hl qy_X12_fails qi_X12_fails qs_X12_fails gw_1749 (ci := 13) rfl w (fun b w => qm_X12_fails l hl9 D _ b xs1 _ _ w) rfl ⟨Nat.le_of_ble_eq_true rfl, Nat.le_of_ble_eq_true rfl⟩ ⟨rfl, rfl⟩ (by exact Nat.le_of_ble_eq_true rfl) (fun b e9 => by cases e9; rfl) dX12_undo_13 ⟨Nat.le_of_ble_eq_true rfl, Nat.le_of_ble_eq_true rfl⟩ ⟨Nat.le_of_ble_eq_true rfl, Nat.le_of_ble_eq_true rfl⟩ (fun x1 h H locs S w => ?_)
    refine W.cs (cells' := 0) (slots' := 0) rfl rfl ?_
    refine lv_if_eq (tgt := 21) C.1.1 C.1.2.1 dX12_undo_16 (by decide) (fun c9 => ?_) (fun c9 => ?_)
    · replace w := ql_if w c9
      refine ql_aload_n (r := (some a0)) C dX12_undo_21 rfl (lv_at hl 0 rfl) ?_
      refine lv_dup C.1.1 C.1.2.1 dX12_undo_22 (ql_catR _) ?_
      refine ql_getI C S qf_13_5 gw_1673 dX12_undo_23 w (fun x3 w => ?_)
      refine lv_iconst (v := (1 : Int32)) C.1.1 C.1.2.1 dX12_undo_26 (by decide) ?_
      refine lv_isub C.1.1 C.1.2.1 dX12_undo_27 ?_
      refine ql_putV C S qf_13_5 gw_1673 (tyX12) tyX12_ok nmX12 rfl dX12_undo_28 (v := .int (x3 - (1 : Int32))) rfl rfl w (fun h H locs S w => ?_)
      refine ql_aload_n (r := (some a0)) C dX12_undo_31 rfl (lv_at hl 0 rfl) ?_
      refine ql_getR C S qf_13_1 gw_1669 dX12_undo_32 w (fun r4 w => ?_)
      refine lv_sipush (v := (685 : Int32)) C.1.1 C.1.2.1 dX12_undo_35 (by decide) ?_
      refine ql_aload_n (r := (some a0)) C dX12_undo_38 rfl (lv_at hl 0 rfl) ?_
      refine ql_getI C S qf_13_5 gw_1673 dX12_undo_39 w (fun x5 w => ?_)
      refine lv_imul C.1.1 C.1.2.1 dX12_undo_42 ?_
      refine ql_aload_n (r := (some a0)) C dX12_undo_43 rfl (lv_at hl 0 rfl) ?_
      refine ql_getR C S qf_13_0 gw_1668 dX12_undo_44 w (fun r6 w => ?_)
      refine lv_iconst (v := (0 : Int32)) C.1.1 C.1.2.1 dX12_undo_47 (by decide) ?_
      refine ql_SV (As := [va_rf r4, .int ((685 : Int32) * x5), va_rf r6, .int (0 : Int32)]) (rest := []) C S htab hlocks hl qy_X12_copies qi_X12_copies gw_1757 (qm_X12_copies l hl9 D _ r4 ((685 : Int32) * x5) r6 (0 : Int32) _ _ w) rfl ⟨Nat.le_of_ble_eq_true rfl, Nat.le_of_ble_eq_true rfl⟩ ⟨rfl, rfl⟩ (by exact Nat.le_of_ble_eq_true rfl) rfl dX12_undo_48 ⟨Nat.le_of_ble_eq_true rfl, Nat.le_of_ble_eq_true rfl⟩ ⟨Nat.le_of_ble_eq_true rfl, Nat.le_of_ble_eq_true rfl⟩ (fun h H locs S w => ?_)
      refine W.cs (cells' := 0) (slots' := 0) rfl rfl ?_
      refine ql_aload_n (r := (some a0)) C dX12_undo_51 rfl (lv_at hl 0 rfl) ?_
      refine ql_getI C S qf_13_5 gw_1673 dX12_undo_52 w (fun x7 w => ?_)
      exact ql_iret C S hr hlocks dX12_undo_55 ⟨Nat.le_of_ble_eq_true rfl, Nat.le_of_ble_eq_true rfl⟩ w
    · replace w := ql_ifn w c9
      refine lv_iconst (v := (0 : Int32)) C.1.1 C.1.2.1 dX12_undo_19 (by decide) ?_
      exact ql_iret C S hr hlocks dX12_undo_20 ⟨Nat.le_of_ble_eq_true rfl, Nat.le_of_ble_eq_true rfl⟩ w
  unfold qw_X12_undo at w
  refine ql_aload_n (r := (some a0)) C dX12_undo_0 rfl (lv_at hl 0 rfl) ?_
  refine ql_aload_n (r := (some a0)) C dX12_undo_1 rfl (lv_at hl 0 rfl) ?_
  refine ql_getI C S qf_13_5 gw_1673 dX12_undo_2 w (fun x8 w => ?_)
  refine lv_if_ne (tgt := 12) C.1.1 C.1.2.1 dX12_undo_5 (by decide) (fun c9 => ?_) (fun c9 => ?_)
  · replace w := ql_ifn w c9
    refine lv_iconst (v := (0 : Int32)) C.1.1 C.1.2.1 dX12_undo_12 (by decide) ?_
    exact hB13 (some a0) (0 : Int32) _ _ _ _ S (lv_sub hl [0] rfl) w
  · replace w := ql_if w c9
    refine lv_iconst (v := (1 : Int32)) C.1.1 C.1.2.1 dX12_undo_8 (by decide) ?_
    refine lv_goto (tgt := 13) C.1.1 C.1.2.1 dX12_undo_9 (by decide) ?_
    exact hB13 (some a0) (1 : Int32) _ _ _ _ S (lv_sub hl [0] rfl) w
def qw_X12_save (a0 : Nat) (h : ql_H) (Q : Int32 → ql_H → Prop) : Prop :=
ql_pV h (some a0) 13 7 (.int (0 : Int32)) fun h =>
ql_pV h (some a0) 13 4 (.int (1 : Int32)) fun h =>
ql_gR h (some a0) 13 0 fun r1 =>
ql_gR h (some a0) 13 2 fun r2 =>
qw_X12_copies r1 (0 : Int32) r2 (0 : Int32) h (fun h =>
ql_gR h (some a0) 13 0 fun r3 =>
ql_lI h r3 0 (0 : Int32) fun x4 =>
Q x4 h)
set_option maxHeartbeats 4000000 in
set_option maxRecDepth 100000 in
theorem qm_X12_save (l : Launch) (hl9 : l.stackTraces = false) (D : ql_D) (h0 : ql_H) (a0 : Nat) (Q : Int32 → ql_H → Prop) (X : String → ql_H → Prop) (w : qw_X12_save a0 h0 Q) : ql_M D l yX12_save cX12_save 1 (some .int) ({ frames := 4, cells := 0, slots := 0, locals := 80 } : Room) h0 [.ref a0] (ql_rI Q) X 0 0 := by
  refine ql_ofW (by decide) (Nat.le_of_ble_eq_true rfl) ?_
  intro p e s m below meth c ls C hr hlocks hnm htab S hl
  have hl : lv_has ls 1 [(0, .ref a0)] := hl
  unfold qw_X12_save at w
  refine ql_aload_n (r := (some a0)) C dX12_save_0 rfl (lv_at hl 0 rfl) ?_
  refine lv_iconst (v := (0 : Int32)) C.1.1 C.1.2.1 dX12_save_1 (by decide) ?_
  refine ql_putV C S qf_13_7 gw_1675 (tyX12) tyX12_ok nmX12 rfl dX12_save_2 (v := .int (0 : Int32)) rfl rfl w (fun h H locs S w => ?_)
  refine ql_aload_n (r := (some a0)) C dX12_save_5 rfl (lv_at hl 0 rfl) ?_
  refine lv_iconst (v := (1 : Int32)) C.1.1 C.1.2.1 dX12_save_6 (by decide) ?_
  refine ql_putV C S qf_13_4 gw_1672 (tyX12) tyX12_ok nmX12 rfl dX12_save_7 (v := .int (1 : Int32)) rfl rfl w (fun h H locs S w => ?_)
  refine ql_aload_n (r := (some a0)) C dX12_save_10 rfl (lv_at hl 0 rfl) ?_
  refine ql_getR C S qf_13_0 gw_1668 dX12_save_11 w (fun r1 w => ?_)
  refine lv_iconst (v := (0 : Int32)) C.1.1 C.1.2.1 dX12_save_14 (by decide) ?_
  refine ql_aload_n (r := (some a0)) C dX12_save_15 rfl (lv_at hl 0 rfl) ?_
  refine ql_getR C S qf_13_2 gw_1670 dX12_save_16 w (fun r2 w => ?_)
  refine lv_iconst (v := (0 : Int32)) C.1.1 C.1.2.1 dX12_save_19 (by decide) ?_
  refine ql_SV (As := [va_rf r1, .int (0 : Int32), va_rf r2, .int (0 : Int32)]) (rest := []) C S htab hlocks hl qy_X12_copies qi_X12_copies gw_1757 (qm_X12_copies l hl9 D _ r1 (0 : Int32) r2 (0 : Int32) _ _ w) rfl ⟨Nat.le_of_ble_eq_true rfl, Nat.le_of_ble_eq_true rfl⟩ ⟨rfl, rfl⟩ (by exact Nat.le_of_ble_eq_true rfl) rfl dX12_save_20 ⟨Nat.le_of_ble_eq_true rfl, Nat.le_of_ble_eq_true rfl⟩ ⟨Nat.le_of_ble_eq_true rfl, Nat.le_of_ble_eq_true rfl⟩ (fun h H locs S w => ?_)
  refine W.cs (cells' := 0) (slots' := 0) rfl rfl ?_
  refine ql_aload_n (r := (some a0)) C dX12_save_23 rfl (lv_at hl 0 rfl) ?_
  refine ql_getR C S qf_13_0 gw_1668 dX12_save_24 w (fun r3 w => ?_)
  refine lv_iconst (v := (0 : Int32)) C.1.1 C.1.2.1 dX12_save_27 (by decide) ?_
  refine ql_iald C S dX12_save_28 w (fun x4 w => ?_)
  exact ql_iret C S hr hlocks dX12_save_29 ⟨Nat.le_of_ble_eq_true rfl, Nat.le_of_ble_eq_true rfl⟩ w
def qw_X12_restore_13 (a0 : Nat) (Q : Int32 → ql_H → Prop) (rs0 : Option Nat) (xs1 : Int32) (h : ql_H) : Prop :=
ql_rv h rs0 13 fun b1 => qw_X12_fails b1 xs1 h (fun x1 h =>
if x1 = 0 then (ql_gR h (some a0) 13 2 fun r3 =>
ql_gR h (some a0) 13 0 fun r4 =>
qw_X12_copies r3 (0 : Int32) r4 (0 : Int32) h (fun h =>
ql_pV h (some a0) 13 5 (.int (0 : Int32)) fun h =>
ql_gR h (some a0) 13 0 fun r5 =>
ql_lI h r5 0 (0 : Int32) fun x6 =>
Q x6 h)) else (Q (0 : Int32) h))
def qw_X12_restore (a0 : Nat) (h : ql_H) (Q : Int32 → ql_H → Prop) : Prop :=
ql_gI h (some a0) 13 4 fun x7 =>
if x7 = 0 then (qw_X12_restore_13 a0 Q (some a0) (1 : Int32) h) else (qw_X12_restore_13 a0 Q (some a0) (0 : Int32) h)
set_option maxHeartbeats 4000000 in
set_option maxRecDepth 100000 in
theorem qm_X12_restore (l : Launch) (hl9 : l.stackTraces = false) (D : ql_D) (h0 : ql_H) (a0 : Nat) (Q : Int32 → ql_H → Prop) (X : String → ql_H → Prop) (w : qw_X12_restore a0 h0 Q) : ql_M D l yX12_restore cX12_restore 1 (some .int) ({ frames := 4, cells := 0, slots := 0, locals := 80 } : Room) h0 [.ref a0] (ql_rI Q) X 0 0 := by
  refine ql_ofW (by decide) (Nat.le_of_ble_eq_true rfl) ?_
  intro p e s m below meth c ls C hr hlocks hnm htab S hl
  have hl : lv_has ls 1 [(0, .ref a0)] := hl
  have hB13 : ∀ (rs0 : Option Nat) (xs1 : Int32) (h : ql_H) (H : Heap) (locs : List Loc) (ls : Array Slot), ql_S D h0 s H locs h → lv_has ls 1 [(0, .ref a0)] → qw_X12_restore_13 a0 Q rs0 xs1 h → W p l e ({ frames := 4, cells := 0, slots := 0, locals := 80 } : Room) s m ([.ref a0] : List Value).toArray below meth c H locs 0 0 (vx_MQ below (ql_Q D h0 (ql_rI Q)) (ql_X D h0 X) ([.ref a0] : List Value).toArray s 0 0 (ql_A h0)) (F0 m 13 ls [.int xs1, va_rf rs0]) := by
    intro rs0 xs1 h H locs ls S hl w
    unfold qw_X12_restore_13 at w
    refine ql_VI (As := [.int xs1]) (rest := []) C S htab hlocks hl qy_X12_fails qi_X12_fails qs_X12_fails gw_1749 (ci := 13) rfl w (fun b w => qm_X12_fails l hl9 D _ b xs1 _ _ w) rfl ⟨Nat.le_of_ble_eq_true rfl, Nat.le_of_ble_eq_true rfl⟩ ⟨rfl, rfl⟩ (by exact Nat.le_of_ble_eq_true rfl) (fun b e9 => by cases e9; rfl) dX12_restore_13 ⟨Nat.le_of_ble_eq_true rfl, Nat.le_of_ble_eq_true rfl⟩ ⟨Nat.le_of_ble_eq_true rfl, Nat.le_of_ble_eq_true rfl⟩ (fun x1 h H locs S w => ?_)
    refine W.cs (cells' := 0) (slots' := 0) rfl rfl ?_
    refine lv_if_eq (tgt := 21) C.1.1 C.1.2.1 dX12_restore_16 (by decide) (fun c9 => ?_) (fun c9 => ?_)
    · replace w := ql_if w c9
      refine ql_aload_n (r := (some a0)) C dX12_restore_21 rfl (lv_at hl 0 rfl) ?_
      refine ql_getR C S qf_13_2 gw_1670 dX12_restore_22 w (fun r3 w => ?_)
      refine lv_iconst (v := (0 : Int32)) C.1.1 C.1.2.1 dX12_restore_25 (by decide) ?_
      refine ql_aload_n (r := (some a0)) C dX12_restore_26 rfl (lv_at hl 0 rfl) ?_
      refine ql_getR C S qf_13_0 gw_1668 dX12_restore_27 w (fun r4 w => ?_)
      refine lv_iconst (v := (0 : Int32)) C.1.1 C.1.2.1 dX12_restore_30 (by decide) ?_
      refine ql_SV (As := [va_rf r3, .int (0 : Int32), va_rf r4, .int (0 : Int32)]) (rest := []) C S htab hlocks hl qy_X12_copies qi_X12_copies gw_1757 (qm_X12_copies l hl9 D _ r3 (0 : Int32) r4 (0 : Int32) _ _ w) rfl ⟨Nat.le_of_ble_eq_true rfl, Nat.le_of_ble_eq_true rfl⟩ ⟨rfl, rfl⟩ (by exact Nat.le_of_ble_eq_true rfl) rfl dX12_restore_31 ⟨Nat.le_of_ble_eq_true rfl, Nat.le_of_ble_eq_true rfl⟩ ⟨Nat.le_of_ble_eq_true rfl, Nat.le_of_ble_eq_true rfl⟩ (fun h H locs S w => ?_)
      refine W.cs (cells' := 0) (slots' := 0) rfl rfl ?_
      refine ql_aload_n (r := (some a0)) C dX12_restore_34 rfl (lv_at hl 0 rfl) ?_
      refine lv_iconst (v := (0 : Int32)) C.1.1 C.1.2.1 dX12_restore_35 (by decide) ?_
      refine ql_putV C S qf_13_5 gw_1673 (tyX12) tyX12_ok nmX12 rfl dX12_restore_36 (v := .int (0 : Int32)) rfl rfl w (fun h H locs S w => ?_)
      refine ql_aload_n (r := (some a0)) C dX12_restore_39 rfl (lv_at hl 0 rfl) ?_
      refine ql_getR C S qf_13_0 gw_1668 dX12_restore_40 w (fun r5 w => ?_)
      refine lv_iconst (v := (0 : Int32)) C.1.1 C.1.2.1 dX12_restore_43 (by decide) ?_
      refine ql_iald C S dX12_restore_44 w (fun x6 w => ?_)
      exact ql_iret C S hr hlocks dX12_restore_45 ⟨Nat.le_of_ble_eq_true rfl, Nat.le_of_ble_eq_true rfl⟩ w
    · replace w := ql_ifn w c9
      refine lv_iconst (v := (0 : Int32)) C.1.1 C.1.2.1 dX12_restore_19 (by decide) ?_
      exact ql_iret C S hr hlocks dX12_restore_20 ⟨Nat.le_of_ble_eq_true rfl, Nat.le_of_ble_eq_true rfl⟩ w
  unfold qw_X12_restore at w
  refine ql_aload_n (r := (some a0)) C dX12_restore_0 rfl (lv_at hl 0 rfl) ?_
  refine ql_aload_n (r := (some a0)) C dX12_restore_1 rfl (lv_at hl 0 rfl) ?_
  refine ql_getI C S qf_13_4 gw_1672 dX12_restore_2 w (fun x7 w => ?_)
  refine lv_if_eq (tgt := 12) C.1.1 C.1.2.1 dX12_restore_5 (by decide) (fun c9 => ?_) (fun c9 => ?_)
  · replace w := ql_if w c9
    refine lv_iconst (v := (1 : Int32)) C.1.1 C.1.2.1 dX12_restore_12 (by decide) ?_
    exact hB13 (some a0) (1 : Int32) _ _ _ _ S (lv_sub hl [0] rfl) w
  · replace w := ql_ifn w c9
    refine lv_iconst (v := (0 : Int32)) C.1.1 C.1.2.1 dX12_restore_8 (by decide) ?_
    refine lv_goto (tgt := 13) C.1.1 C.1.2.1 dX12_restore_9 (by decide) ?_
    exact hB13 (some a0) (0 : Int32) _ _ _ _ S (lv_sub hl [0] rfl) w
def qw_L_addClause (rp0 : Option Nat) (xp1 : Int32) (xp2 : Int32) (rp3 : Option Nat) (h : ql_H) (Q : Int32 → ql_H → Prop) : Prop :=
ql_rv h rp0 12 fun b1 => qw_X11_addClause b1 xp1 xp2 h (fun x1 h =>
ql_sJ h rp3 (0 : Int32) x1.toInt64 fun h =>
Q (0 : Int32) h) (fun E h => if E = "java/lang/IllegalArgumentException" then (Q (1 : Int32) h) else if E = "java/lang/IllegalStateException" then (Q (2 : Int32) h) else if E = "java/lang/UnsupportedOperationException" then (Q (3 : Int32) h) else False)
set_option maxHeartbeats 4000000 in
set_option maxRecDepth 100000 in
theorem qm_L_addClause (l : Launch) (hl9 : l.stackTraces = false) (D : ql_D) (h0 : ql_H) (rp0 : Option Nat) (xp1 : Int32) (xp2 : Int32) (rp3 : Option Nat) (Q : Int32 → ql_H → Prop) (X : String → ql_H → Prop) (w : qw_L_addClause rp0 xp1 xp2 rp3 h0 Q) : ql_MH D l yL_addClause cL_addClause 5 (some .int) [(0, 10, 13, 13), (0, 10, 17, 15), (0, 10, 21, 17)] ({ frames := 14, cells := 1, slots := 6, locals := 188 } : Room) h0 [va_rf rp0, .int xp1, .int xp2, va_rf rp3] (ql_rI Q) X 1 6 := by
  refine ql_ofWH (by decide) (by cases rp0 <;> cases rp3 <;> exact Nat.le_of_ble_eq_true rfl) ?_
  intro p e s m below meth c ls C hr hlocks hnm htab9 S hl
  rw [show lv_args 0 [va_rf rp0, .int xp1, .int xp2, va_rf rp3] = [(0, va_rf rp0), (1, .int xp1), (2, .int xp2), (3, va_rf rp3)] from by cases rp0 <;> cases rp3 <;> rfl] at hl
  unfold qw_L_addClause at w
  refine ql_aload_n (r := rp3) C dL_addClause_0 rfl (lv_at hl 3 rfl) ?_
  refine lv_iconst (v := (0 : Int32)) C.1.1 C.1.2.1 dL_addClause_1 (by decide) ?_
  refine ql_aload_n (r := rp0) C dL_addClause_2 rfl (lv_at hl 0 rfl) ?_
  refine lv_iload_n C.1.1 C.1.2.1 dL_addClause_3 rfl (lv_at hl 1 rfl) ?_
  refine lv_iload_n C.1.1 C.1.2.1 dL_addClause_4 rfl (lv_at hl 2 rfl) ?_
  refine ql_HVI (As := [.int xp1, .int xp2]) (rest := [.int (0 : Int32), va_rf rp3]) C S hl qy_X11_addClause qi_X11_addClause qs_X11_addClause gw_775 (ci := 12) rfl w (fun b w => qm_X11_addClause l hl9 D _ b xp1 xp2 _ _ w) rfl ⟨Nat.le_of_ble_eq_true rfl, Nat.le_of_ble_eq_true rfl⟩ ⟨rfl, rfl⟩ (by generalize rp3 = z0; cases z0 <;> exact Nat.le_of_ble_eq_true rfl) (fun b e9 => by cases e9; rfl) dL_addClause_5 ⟨Nat.le_of_ble_eq_true rfl, Nat.le_of_ble_eq_true rfl⟩ (fun E ce q9 h H locs w S g1 g2 g3 => ?_) (fun x1 h H locs S w => ?_)
  · by_cases c9 : E = "java/lang/IllegalArgumentException"
    · replace w := ql_if w c9
      subst c9
      refine ql_catch C htab9 [] (0, 10, 13, 13) [(0, 10, 17, 15), (0, 10, 21, 17)] rfl (fun z hz => nomatch hz) rfl (by decide) gw_772 (by decide +kernel) g1 g2 g3 (tgt := 13) rfl ?_
      refine ql_astore (lv' := [(4, va_rf (some q9)), (0, va_rf rp0), (1, .int xp1), (2, .int xp2), (3, va_rf rp3)]) C dL_addClause_13 hl (by decide) (by generalize rp3 = z9; cases z9 <;> rfl) (fun ls hl => ?_)
      refine lv_iconst (v := (1 : Int32)) C.1.1 C.1.2.1 dL_addClause_15 (by decide) ?_
      exact ql_iret C S hr hlocks dL_addClause_16 ⟨Nat.le_of_ble_eq_true rfl, Nat.le_of_ble_eq_true rfl⟩ w
    replace w := ql_ifn w c9
    clear c9
    by_cases c9 : E = "java/lang/IllegalStateException"
    · replace w := ql_if w c9
      subst c9
      refine ql_catch C htab9 [(0, 10, 13, 13)] (0, 10, 17, 15) [(0, 10, 21, 17)] rfl (fun z hz => by rcases (show z = (0, 10, 13, 13) by simpa using hz) with rfl <;> first | exact ⟨by decide, _, gw_772, by decide +kernel⟩) rfl (by decide) gw_773 (by decide +kernel) g1 g2 g3 (tgt := 17) rfl ?_
      refine ql_astore (lv' := [(4, va_rf (some q9)), (0, va_rf rp0), (1, .int xp1), (2, .int xp2), (3, va_rf rp3)]) C dL_addClause_17 hl (by decide) (by generalize rp3 = z9; cases z9 <;> rfl) (fun ls hl => ?_)
      refine lv_iconst (v := (2 : Int32)) C.1.1 C.1.2.1 dL_addClause_19 (by decide) ?_
      exact ql_iret C S hr hlocks dL_addClause_20 ⟨Nat.le_of_ble_eq_true rfl, Nat.le_of_ble_eq_true rfl⟩ w
    replace w := ql_ifn w c9
    clear c9
    by_cases c9 : E = "java/lang/UnsupportedOperationException"
    · replace w := ql_if w c9
      subst c9
      refine ql_catch C htab9 [(0, 10, 13, 13), (0, 10, 17, 15)] (0, 10, 21, 17) [] rfl (fun z hz => by rcases (show z = (0, 10, 13, 13) ∨ z = (0, 10, 17, 15) by simpa using hz) with rfl | rfl <;> first | exact ⟨by decide, _, gw_772, by decide +kernel⟩ | exact ⟨by decide, _, gw_773, by decide +kernel⟩) rfl (by decide) gw_774 (by decide +kernel) g1 g2 g3 (tgt := 21) rfl ?_
      refine ql_astore (lv' := [(4, va_rf (some q9)), (0, va_rf rp0), (1, .int xp1), (2, .int xp2), (3, va_rf rp3)]) C dL_addClause_21 hl (by decide) (by generalize rp3 = z9; cases z9 <;> rfl) (fun ls hl => ?_)
      refine lv_iconst (v := (3 : Int32)) C.1.1 C.1.2.1 dL_addClause_23 (by decide) ?_
      exact ql_iret C S hr hlocks dL_addClause_24 ⟨Nat.le_of_ble_eq_true rfl, Nat.le_of_ble_eq_true rfl⟩ w
    replace w := ql_ifn w c9
    clear c9
    exact w.elim
  refine W.cs (cells' := 1) (slots' := 6) rfl rfl ?_
  refine lv_i2l C.1.1 C.1.2.1 dL_addClause_8 rfl ?_
  refine ql_last C S dL_addClause_9 w (fun h H locs S w => ?_)
  refine lv_goto (tgt := 25) C.1.1 C.1.2.1 dL_addClause_10 (by decide) ?_
  refine lv_iconst (v := (0 : Int32)) C.1.1 C.1.2.1 dL_addClause_25 (by decide) ?_
  exact ql_iret C S hr hlocks dL_addClause_26 ⟨Nat.le_of_ble_eq_true rfl, Nat.le_of_ble_eq_true rfl⟩ w
def qw_L_insertNote (rp0 : Option Nat) (xp1 : Int32) (xp2 : Int32) (xp3 : Int32) (rp4 : Option Nat) (h : ql_H) (Q : Int32 → ql_H → Prop) : Prop :=
ql_rv h rp0 12 fun b1 => qw_X11_insertNote b1 xp1 xp2 xp3 h (fun x1 h =>
ql_sJ h rp4 (0 : Int32) x1.toInt64 fun h =>
Q (0 : Int32) h) (fun E h => if E = "java/util/NoSuchElementException" then (Q (1 : Int32) h) else if E = "java/lang/IndexOutOfBoundsException" then (Q (2 : Int32) h) else if E = "java/lang/IllegalArgumentException" then (Q (3 : Int32) h) else if E = "java/lang/IllegalStateException" then (Q (4 : Int32) h) else if E = "java/lang/UnsupportedOperationException" then (Q (5 : Int32) h) else False)
set_option maxHeartbeats 4000000 in
set_option maxRecDepth 100000 in
theorem qm_L_insertNote (l : Launch) (hl9 : l.stackTraces = false) (D : ql_D) (h0 : ql_H) (rp0 : Option Nat) (xp1 : Int32) (xp2 : Int32) (xp3 : Int32) (rp4 : Option Nat) (Q : Int32 → ql_H → Prop) (X : String → ql_H → Prop) (w : qw_L_insertNote rp0 xp1 xp2 xp3 rp4 h0 Q) : ql_MH D l yL_insertNote cL_insertNote 6 (some .int) [(0, 12, 15, 23), (0, 12, 19, 25), (0, 12, 23, 13), (0, 12, 27, 15), (0, 12, 31, 17)] ({ frames := 14, cells := 1, slots := 6, locals := 206 } : Room) h0 [va_rf rp0, .int xp1, .int xp2, .int xp3, va_rf rp4] (ql_rI Q) X 1 6 := by
  refine ql_ofWH (by decide) (by cases rp0 <;> cases rp4 <;> exact Nat.le_of_ble_eq_true rfl) ?_
  intro p e s m below meth c ls C hr hlocks hnm htab9 S hl
  rw [show lv_args 0 [va_rf rp0, .int xp1, .int xp2, .int xp3, va_rf rp4] = [(0, va_rf rp0), (1, .int xp1), (2, .int xp2), (3, .int xp3), (4, va_rf rp4)] from by cases rp0 <;> cases rp4 <;> rfl] at hl
  unfold qw_L_insertNote at w
  refine ql_aload (r := rp4) C dL_insertNote_0 (lv_at hl 4 rfl) ?_
  refine lv_iconst (v := (0 : Int32)) C.1.1 C.1.2.1 dL_insertNote_2 (by decide) ?_
  refine ql_aload_n (r := rp0) C dL_insertNote_3 rfl (lv_at hl 0 rfl) ?_
  refine lv_iload_n C.1.1 C.1.2.1 dL_insertNote_4 rfl (lv_at hl 1 rfl) ?_
  refine lv_iload_n C.1.1 C.1.2.1 dL_insertNote_5 rfl (lv_at hl 2 rfl) ?_
  refine lv_iload_n C.1.1 C.1.2.1 dL_insertNote_6 rfl (lv_at hl 3 rfl) ?_
  refine ql_HVI (As := [.int xp1, .int xp2, .int xp3]) (rest := [.int (0 : Int32), va_rf rp4]) C S hl qy_X11_insertNote qi_X11_insertNote qs_X11_insertNote gw_837 (ci := 12) rfl w (fun b w => qm_X11_insertNote l hl9 D _ b xp1 xp2 xp3 _ _ w) rfl ⟨Nat.le_of_ble_eq_true rfl, Nat.le_of_ble_eq_true rfl⟩ ⟨rfl, rfl⟩ (by generalize rp4 = z0; cases z0 <;> exact Nat.le_of_ble_eq_true rfl) (fun b e9 => by cases e9; rfl) dL_insertNote_7 ⟨Nat.le_of_ble_eq_true rfl, Nat.le_of_ble_eq_true rfl⟩ (fun E ce q9 h H locs w S g1 g2 g3 => ?_) (fun x1 h H locs S w => ?_)
  · by_cases c9 : E = "java/util/NoSuchElementException"
    · replace w := ql_if w c9
      subst c9
      refine ql_catch C htab9 [] (0, 12, 15, 23) [(0, 12, 19, 25), (0, 12, 23, 13), (0, 12, 27, 15), (0, 12, 31, 17)] rfl (fun z hz => nomatch hz) rfl (by decide) gw_804 (by decide +kernel) g1 g2 g3 (tgt := 15) rfl ?_
      refine ql_astore (lv' := [(5, va_rf (some q9)), (0, va_rf rp0), (1, .int xp1), (2, .int xp2), (3, .int xp3), (4, va_rf rp4)]) C dL_insertNote_15 hl (by decide) (by generalize rp4 = z9; cases z9 <;> rfl) (fun ls hl => ?_)
      refine lv_iconst (v := (1 : Int32)) C.1.1 C.1.2.1 dL_insertNote_17 (by decide) ?_
      exact ql_iret C S hr hlocks dL_insertNote_18 ⟨Nat.le_of_ble_eq_true rfl, Nat.le_of_ble_eq_true rfl⟩ w
    replace w := ql_ifn w c9
    clear c9
    by_cases c9 : E = "java/lang/IndexOutOfBoundsException"
    · replace w := ql_if w c9
      subst c9
      refine ql_catch C htab9 [(0, 12, 15, 23)] (0, 12, 19, 25) [(0, 12, 23, 13), (0, 12, 27, 15), (0, 12, 31, 17)] rfl (fun z hz => by rcases (show z = (0, 12, 15, 23) by simpa using hz) with rfl <;> first | exact ⟨by decide, _, gw_804, by decide +kernel⟩) rfl (by decide) gw_805 (by decide +kernel) g1 g2 g3 (tgt := 19) rfl ?_
      refine ql_astore (lv' := [(5, va_rf (some q9)), (0, va_rf rp0), (1, .int xp1), (2, .int xp2), (3, .int xp3), (4, va_rf rp4)]) C dL_insertNote_19 hl (by decide) (by generalize rp4 = z9; cases z9 <;> rfl) (fun ls hl => ?_)
      refine lv_iconst (v := (2 : Int32)) C.1.1 C.1.2.1 dL_insertNote_21 (by decide) ?_
      exact ql_iret C S hr hlocks dL_insertNote_22 ⟨Nat.le_of_ble_eq_true rfl, Nat.le_of_ble_eq_true rfl⟩ w
    replace w := ql_ifn w c9
    clear c9
    by_cases c9 : E = "java/lang/IllegalArgumentException"
    · replace w := ql_if w c9
      subst c9
      refine ql_catch C htab9 [(0, 12, 15, 23), (0, 12, 19, 25)] (0, 12, 23, 13) [(0, 12, 27, 15), (0, 12, 31, 17)] rfl (fun z hz => by rcases (show z = (0, 12, 15, 23) ∨ z = (0, 12, 19, 25) by simpa using hz) with rfl | rfl <;> first | exact ⟨by decide, _, gw_804, by decide +kernel⟩ | exact ⟨by decide, _, gw_805, by decide +kernel⟩) rfl (by decide) gw_772 (by decide +kernel) g1 g2 g3 (tgt := 23) rfl ?_
      refine ql_astore (lv' := [(5, va_rf (some q9)), (0, va_rf rp0), (1, .int xp1), (2, .int xp2), (3, .int xp3), (4, va_rf rp4)]) C dL_insertNote_23 hl (by decide) (by generalize rp4 = z9; cases z9 <;> rfl) (fun ls hl => ?_)
      refine lv_iconst (v := (3 : Int32)) C.1.1 C.1.2.1 dL_insertNote_25 (by decide) ?_
      exact ql_iret C S hr hlocks dL_insertNote_26 ⟨Nat.le_of_ble_eq_true rfl, Nat.le_of_ble_eq_true rfl⟩ w
    replace w := ql_ifn w c9
    clear c9
    by_cases c9 : E = "java/lang/IllegalStateException"
    · replace w := ql_if w c9
      subst c9
      refine ql_catch C htab9 [(0, 12, 15, 23), (0, 12, 19, 25), (0, 12, 23, 13)] (0, 12, 27, 15) [(0, 12, 31, 17)] rfl (fun z hz => by rcases (show z = (0, 12, 15, 23) ∨ z = (0, 12, 19, 25) ∨ z = (0, 12, 23, 13) by simpa using hz) with rfl | rfl | rfl <;> first | exact ⟨by decide, _, gw_804, by decide +kernel⟩ | exact ⟨by decide, _, gw_805, by decide +kernel⟩ | exact ⟨by decide, _, gw_772, by decide +kernel⟩) rfl (by decide) gw_773 (by decide +kernel) g1 g2 g3 (tgt := 27) rfl ?_
      refine ql_astore (lv' := [(5, va_rf (some q9)), (0, va_rf rp0), (1, .int xp1), (2, .int xp2), (3, .int xp3), (4, va_rf rp4)]) C dL_insertNote_27 hl (by decide) (by generalize rp4 = z9; cases z9 <;> rfl) (fun ls hl => ?_)
      refine lv_iconst (v := (4 : Int32)) C.1.1 C.1.2.1 dL_insertNote_29 (by decide) ?_
      exact ql_iret C S hr hlocks dL_insertNote_30 ⟨Nat.le_of_ble_eq_true rfl, Nat.le_of_ble_eq_true rfl⟩ w
    replace w := ql_ifn w c9
    clear c9
    by_cases c9 : E = "java/lang/UnsupportedOperationException"
    · replace w := ql_if w c9
      subst c9
      refine ql_catch C htab9 [(0, 12, 15, 23), (0, 12, 19, 25), (0, 12, 23, 13), (0, 12, 27, 15)] (0, 12, 31, 17) [] rfl (fun z hz => by rcases (show z = (0, 12, 15, 23) ∨ z = (0, 12, 19, 25) ∨ z = (0, 12, 23, 13) ∨ z = (0, 12, 27, 15) by simpa using hz) with rfl | rfl | rfl | rfl <;> first | exact ⟨by decide, _, gw_804, by decide +kernel⟩ | exact ⟨by decide, _, gw_805, by decide +kernel⟩ | exact ⟨by decide, _, gw_772, by decide +kernel⟩ | exact ⟨by decide, _, gw_773, by decide +kernel⟩) rfl (by decide) gw_774 (by decide +kernel) g1 g2 g3 (tgt := 31) rfl ?_
      refine ql_astore (lv' := [(5, va_rf (some q9)), (0, va_rf rp0), (1, .int xp1), (2, .int xp2), (3, .int xp3), (4, va_rf rp4)]) C dL_insertNote_31 hl (by decide) (by generalize rp4 = z9; cases z9 <;> rfl) (fun ls hl => ?_)
      refine lv_iconst (v := (5 : Int32)) C.1.1 C.1.2.1 dL_insertNote_33 (by decide) ?_
      exact ql_iret C S hr hlocks dL_insertNote_34 ⟨Nat.le_of_ble_eq_true rfl, Nat.le_of_ble_eq_true rfl⟩ w
    replace w := ql_ifn w c9
    clear c9
    exact w.elim
  refine W.cs (cells' := 1) (slots' := 6) rfl rfl ?_
  refine lv_i2l C.1.1 C.1.2.1 dL_insertNote_10 rfl ?_
  refine ql_last C S dL_insertNote_11 w (fun h H locs S w => ?_)
  refine lv_goto (tgt := 35) C.1.1 C.1.2.1 dL_insertNote_12 (by decide) ?_
  refine lv_iconst (v := (0 : Int32)) C.1.1 C.1.2.1 dL_insertNote_35 (by decide) ?_
  exact ql_iret C S hr hlocks dL_insertNote_36 ⟨Nat.le_of_ble_eq_true rfl, Nat.le_of_ble_eq_true rfl⟩ w
def qw_L_replaceNote (rp0 : Option Nat) (xp1 : Int32) (xp2 : Int32) (xp3 : Int32) (rp4 : Option Nat) (h : ql_H) (Q : Int32 → ql_H → Prop) : Prop :=
ql_rv h rp0 12 fun b1 => qw_X11_replaceNote b1 xp1 xp2 xp3 h (fun x1 h =>
ql_sJ h rp4 (0 : Int32) x1.toInt64 fun h =>
Q (0 : Int32) h) (fun E h => if E = "java/util/NoSuchElementException" then (Q (1 : Int32) h) else if E = "java/lang/IndexOutOfBoundsException" then (Q (2 : Int32) h) else if E = "java/lang/IllegalArgumentException" then (Q (3 : Int32) h) else if E = "java/lang/IllegalStateException" then (Q (4 : Int32) h) else False)
set_option maxHeartbeats 4000000 in
set_option maxRecDepth 100000 in
theorem qm_L_replaceNote (l : Launch) (hl9 : l.stackTraces = false) (D : ql_D) (h0 : ql_H) (rp0 : Option Nat) (xp1 : Int32) (xp2 : Int32) (xp3 : Int32) (rp4 : Option Nat) (Q : Int32 → ql_H → Prop) (X : String → ql_H → Prop) (w : qw_L_replaceNote rp0 xp1 xp2 xp3 rp4 h0 Q) : ql_MH D l yL_replaceNote cL_replaceNote 6 (some .int) [(0, 12, 15, 23), (0, 12, 19, 25), (0, 12, 23, 13), (0, 12, 27, 15)] ({ frames := 14, cells := 1, slots := 6, locals := 207 } : Room) h0 [va_rf rp0, .int xp1, .int xp2, .int xp3, va_rf rp4] (ql_rI Q) X 1 6 := by
  refine ql_ofWH (by decide) (by cases rp0 <;> cases rp4 <;> exact Nat.le_of_ble_eq_true rfl) ?_
  intro p e s m below meth c ls C hr hlocks hnm htab9 S hl
  rw [show lv_args 0 [va_rf rp0, .int xp1, .int xp2, .int xp3, va_rf rp4] = [(0, va_rf rp0), (1, .int xp1), (2, .int xp2), (3, .int xp3), (4, va_rf rp4)] from by cases rp0 <;> cases rp4 <;> rfl] at hl
  unfold qw_L_replaceNote at w
  refine ql_aload (r := rp4) C dL_replaceNote_0 (lv_at hl 4 rfl) ?_
  refine lv_iconst (v := (0 : Int32)) C.1.1 C.1.2.1 dL_replaceNote_2 (by decide) ?_
  refine ql_aload_n (r := rp0) C dL_replaceNote_3 rfl (lv_at hl 0 rfl) ?_
  refine lv_iload_n C.1.1 C.1.2.1 dL_replaceNote_4 rfl (lv_at hl 1 rfl) ?_
  refine lv_iload_n C.1.1 C.1.2.1 dL_replaceNote_5 rfl (lv_at hl 2 rfl) ?_
  refine lv_iload_n C.1.1 C.1.2.1 dL_replaceNote_6 rfl (lv_at hl 3 rfl) ?_
  refine ql_HVI (As := [.int xp1, .int xp2, .int xp3]) (rest := [.int (0 : Int32), va_rf rp4]) C S hl qy_X11_replaceNote qi_X11_replaceNote qs_X11_replaceNote gw_874 (ci := 12) rfl w (fun b w => qm_X11_replaceNote l hl9 D _ b xp1 xp2 xp3 _ _ w) rfl ⟨Nat.le_of_ble_eq_true rfl, Nat.le_of_ble_eq_true rfl⟩ ⟨rfl, rfl⟩ (by generalize rp4 = z0; cases z0 <;> exact Nat.le_of_ble_eq_true rfl) (fun b e9 => by cases e9; rfl) dL_replaceNote_7 ⟨Nat.le_of_ble_eq_true rfl, Nat.le_of_ble_eq_true rfl⟩ (fun E ce q9 h H locs w S g1 g2 g3 => ?_) (fun x1 h H locs S w => ?_)
  · by_cases c9 : E = "java/util/NoSuchElementException"
    · replace w := ql_if w c9
      subst c9
      refine ql_catch C htab9 [] (0, 12, 15, 23) [(0, 12, 19, 25), (0, 12, 23, 13), (0, 12, 27, 15)] rfl (fun z hz => nomatch hz) rfl (by decide) gw_804 (by decide +kernel) g1 g2 g3 (tgt := 15) rfl ?_
      refine ql_astore (lv' := [(5, va_rf (some q9)), (0, va_rf rp0), (1, .int xp1), (2, .int xp2), (3, .int xp3), (4, va_rf rp4)]) C dL_replaceNote_15 hl (by decide) (by generalize rp4 = z9; cases z9 <;> rfl) (fun ls hl => ?_)
      refine lv_iconst (v := (1 : Int32)) C.1.1 C.1.2.1 dL_replaceNote_17 (by decide) ?_
      exact ql_iret C S hr hlocks dL_replaceNote_18 ⟨Nat.le_of_ble_eq_true rfl, Nat.le_of_ble_eq_true rfl⟩ w
    replace w := ql_ifn w c9
    clear c9
    by_cases c9 : E = "java/lang/IndexOutOfBoundsException"
    · replace w := ql_if w c9
      subst c9
      refine ql_catch C htab9 [(0, 12, 15, 23)] (0, 12, 19, 25) [(0, 12, 23, 13), (0, 12, 27, 15)] rfl (fun z hz => by rcases (show z = (0, 12, 15, 23) by simpa using hz) with rfl <;> first | exact ⟨by decide, _, gw_804, by decide +kernel⟩) rfl (by decide) gw_805 (by decide +kernel) g1 g2 g3 (tgt := 19) rfl ?_
      refine ql_astore (lv' := [(5, va_rf (some q9)), (0, va_rf rp0), (1, .int xp1), (2, .int xp2), (3, .int xp3), (4, va_rf rp4)]) C dL_replaceNote_19 hl (by decide) (by generalize rp4 = z9; cases z9 <;> rfl) (fun ls hl => ?_)
      refine lv_iconst (v := (2 : Int32)) C.1.1 C.1.2.1 dL_replaceNote_21 (by decide) ?_
      exact ql_iret C S hr hlocks dL_replaceNote_22 ⟨Nat.le_of_ble_eq_true rfl, Nat.le_of_ble_eq_true rfl⟩ w
    replace w := ql_ifn w c9
    clear c9
    by_cases c9 : E = "java/lang/IllegalArgumentException"
    · replace w := ql_if w c9
      subst c9
      refine ql_catch C htab9 [(0, 12, 15, 23), (0, 12, 19, 25)] (0, 12, 23, 13) [(0, 12, 27, 15)] rfl (fun z hz => by rcases (show z = (0, 12, 15, 23) ∨ z = (0, 12, 19, 25) by simpa using hz) with rfl | rfl <;> first | exact ⟨by decide, _, gw_804, by decide +kernel⟩ | exact ⟨by decide, _, gw_805, by decide +kernel⟩) rfl (by decide) gw_772 (by decide +kernel) g1 g2 g3 (tgt := 23) rfl ?_
      refine ql_astore (lv' := [(5, va_rf (some q9)), (0, va_rf rp0), (1, .int xp1), (2, .int xp2), (3, .int xp3), (4, va_rf rp4)]) C dL_replaceNote_23 hl (by decide) (by generalize rp4 = z9; cases z9 <;> rfl) (fun ls hl => ?_)
      refine lv_iconst (v := (3 : Int32)) C.1.1 C.1.2.1 dL_replaceNote_25 (by decide) ?_
      exact ql_iret C S hr hlocks dL_replaceNote_26 ⟨Nat.le_of_ble_eq_true rfl, Nat.le_of_ble_eq_true rfl⟩ w
    replace w := ql_ifn w c9
    clear c9
    by_cases c9 : E = "java/lang/IllegalStateException"
    · replace w := ql_if w c9
      subst c9
      refine ql_catch C htab9 [(0, 12, 15, 23), (0, 12, 19, 25), (0, 12, 23, 13)] (0, 12, 27, 15) [] rfl (fun z hz => by rcases (show z = (0, 12, 15, 23) ∨ z = (0, 12, 19, 25) ∨ z = (0, 12, 23, 13) by simpa using hz) with rfl | rfl | rfl <;> first | exact ⟨by decide, _, gw_804, by decide +kernel⟩ | exact ⟨by decide, _, gw_805, by decide +kernel⟩ | exact ⟨by decide, _, gw_772, by decide +kernel⟩) rfl (by decide) gw_773 (by decide +kernel) g1 g2 g3 (tgt := 27) rfl ?_
      refine ql_astore (lv' := [(5, va_rf (some q9)), (0, va_rf rp0), (1, .int xp1), (2, .int xp2), (3, .int xp3), (4, va_rf rp4)]) C dL_replaceNote_27 hl (by decide) (by generalize rp4 = z9; cases z9 <;> rfl) (fun ls hl => ?_)
      refine lv_iconst (v := (4 : Int32)) C.1.1 C.1.2.1 dL_replaceNote_29 (by decide) ?_
      exact ql_iret C S hr hlocks dL_replaceNote_30 ⟨Nat.le_of_ble_eq_true rfl, Nat.le_of_ble_eq_true rfl⟩ w
    replace w := ql_ifn w c9
    clear c9
    exact w.elim
  refine W.cs (cells' := 1) (slots' := 6) rfl rfl ?_
  refine lv_i2l C.1.1 C.1.2.1 dL_replaceNote_10 rfl ?_
  refine ql_last C S dL_replaceNote_11 w (fun h H locs S w => ?_)
  refine lv_goto (tgt := 31) C.1.1 C.1.2.1 dL_replaceNote_12 (by decide) ?_
  refine lv_iconst (v := (0 : Int32)) C.1.1 C.1.2.1 dL_replaceNote_31 (by decide) ?_
  exact ql_iret C S hr hlocks dL_replaceNote_32 ⟨Nat.le_of_ble_eq_true rfl, Nat.le_of_ble_eq_true rfl⟩ w
def qw_L_deleteNote (rp0 : Option Nat) (xp1 : Int32) (xp2 : Int32) (rp3 : Option Nat) (h : ql_H) (Q : Int32 → ql_H → Prop) : Prop :=
ql_rv h rp0 12 fun b1 => qw_X11_deleteNote b1 xp1 xp2 h (fun x1 h =>
ql_sJ h rp3 (0 : Int32) x1.toInt64 fun h =>
Q (0 : Int32) h) (fun E h => if E = "java/util/NoSuchElementException" then (Q (1 : Int32) h) else if E = "java/lang/IndexOutOfBoundsException" then (Q (2 : Int32) h) else if E = "java/lang/IllegalStateException" then (Q (3 : Int32) h) else if E = "java/lang/UnsupportedOperationException" then (Q (4 : Int32) h) else False)
set_option maxHeartbeats 4000000 in
set_option maxRecDepth 100000 in
theorem qm_L_deleteNote (l : Launch) (hl9 : l.stackTraces = false) (D : ql_D) (h0 : ql_H) (rp0 : Option Nat) (xp1 : Int32) (xp2 : Int32) (rp3 : Option Nat) (Q : Int32 → ql_H → Prop) (X : String → ql_H → Prop) (w : qw_L_deleteNote rp0 xp1 xp2 rp3 h0 Q) : ql_MH D l yL_deleteNote cL_deleteNote 5 (some .int) [(0, 10, 13, 23), (0, 10, 17, 25), (0, 10, 21, 15), (0, 10, 25, 17)] ({ frames := 14, cells := 1, slots := 6, locals := 204 } : Room) h0 [va_rf rp0, .int xp1, .int xp2, va_rf rp3] (ql_rI Q) X 1 6 := by
  refine ql_ofWH (by decide) (by cases rp0 <;> cases rp3 <;> exact Nat.le_of_ble_eq_true rfl) ?_
  intro p e s m below meth c ls C hr hlocks hnm htab9 S hl
  rw [show lv_args 0 [va_rf rp0, .int xp1, .int xp2, va_rf rp3] = [(0, va_rf rp0), (1, .int xp1), (2, .int xp2), (3, va_rf rp3)] from by cases rp0 <;> cases rp3 <;> rfl] at hl
  unfold qw_L_deleteNote at w
  refine ql_aload_n (r := rp3) C dL_deleteNote_0 rfl (lv_at hl 3 rfl) ?_
  refine lv_iconst (v := (0 : Int32)) C.1.1 C.1.2.1 dL_deleteNote_1 (by decide) ?_
  refine ql_aload_n (r := rp0) C dL_deleteNote_2 rfl (lv_at hl 0 rfl) ?_
  refine lv_iload_n C.1.1 C.1.2.1 dL_deleteNote_3 rfl (lv_at hl 1 rfl) ?_
  refine lv_iload_n C.1.1 C.1.2.1 dL_deleteNote_4 rfl (lv_at hl 2 rfl) ?_
  refine ql_HVI (As := [.int xp1, .int xp2]) (rest := [.int (0 : Int32), va_rf rp3]) C S hl qy_X11_deleteNote qi_X11_deleteNote qs_X11_deleteNote gw_892 (ci := 12) rfl w (fun b w => qm_X11_deleteNote l hl9 D _ b xp1 xp2 _ _ w) rfl ⟨Nat.le_of_ble_eq_true rfl, Nat.le_of_ble_eq_true rfl⟩ ⟨rfl, rfl⟩ (by generalize rp3 = z0; cases z0 <;> exact Nat.le_of_ble_eq_true rfl) (fun b e9 => by cases e9; rfl) dL_deleteNote_5 ⟨Nat.le_of_ble_eq_true rfl, Nat.le_of_ble_eq_true rfl⟩ (fun E ce q9 h H locs w S g1 g2 g3 => ?_) (fun x1 h H locs S w => ?_)
  · by_cases c9 : E = "java/util/NoSuchElementException"
    · replace w := ql_if w c9
      subst c9
      refine ql_catch C htab9 [] (0, 10, 13, 23) [(0, 10, 17, 25), (0, 10, 21, 15), (0, 10, 25, 17)] rfl (fun z hz => nomatch hz) rfl (by decide) gw_804 (by decide +kernel) g1 g2 g3 (tgt := 13) rfl ?_
      refine ql_astore (lv' := [(4, va_rf (some q9)), (0, va_rf rp0), (1, .int xp1), (2, .int xp2), (3, va_rf rp3)]) C dL_deleteNote_13 hl (by decide) (by generalize rp3 = z9; cases z9 <;> rfl) (fun ls hl => ?_)
      refine lv_iconst (v := (1 : Int32)) C.1.1 C.1.2.1 dL_deleteNote_15 (by decide) ?_
      exact ql_iret C S hr hlocks dL_deleteNote_16 ⟨Nat.le_of_ble_eq_true rfl, Nat.le_of_ble_eq_true rfl⟩ w
    replace w := ql_ifn w c9
    clear c9
    by_cases c9 : E = "java/lang/IndexOutOfBoundsException"
    · replace w := ql_if w c9
      subst c9
      refine ql_catch C htab9 [(0, 10, 13, 23)] (0, 10, 17, 25) [(0, 10, 21, 15), (0, 10, 25, 17)] rfl (fun z hz => by rcases (show z = (0, 10, 13, 23) by simpa using hz) with rfl <;> first | exact ⟨by decide, _, gw_804, by decide +kernel⟩) rfl (by decide) gw_805 (by decide +kernel) g1 g2 g3 (tgt := 17) rfl ?_
      refine ql_astore (lv' := [(4, va_rf (some q9)), (0, va_rf rp0), (1, .int xp1), (2, .int xp2), (3, va_rf rp3)]) C dL_deleteNote_17 hl (by decide) (by generalize rp3 = z9; cases z9 <;> rfl) (fun ls hl => ?_)
      refine lv_iconst (v := (2 : Int32)) C.1.1 C.1.2.1 dL_deleteNote_19 (by decide) ?_
      exact ql_iret C S hr hlocks dL_deleteNote_20 ⟨Nat.le_of_ble_eq_true rfl, Nat.le_of_ble_eq_true rfl⟩ w
    replace w := ql_ifn w c9
    clear c9
    by_cases c9 : E = "java/lang/IllegalStateException"
    · replace w := ql_if w c9
      subst c9
      refine ql_catch C htab9 [(0, 10, 13, 23), (0, 10, 17, 25)] (0, 10, 21, 15) [(0, 10, 25, 17)] rfl (fun z hz => by rcases (show z = (0, 10, 13, 23) ∨ z = (0, 10, 17, 25) by simpa using hz) with rfl | rfl <;> first | exact ⟨by decide, _, gw_804, by decide +kernel⟩ | exact ⟨by decide, _, gw_805, by decide +kernel⟩) rfl (by decide) gw_773 (by decide +kernel) g1 g2 g3 (tgt := 21) rfl ?_
      refine ql_astore (lv' := [(4, va_rf (some q9)), (0, va_rf rp0), (1, .int xp1), (2, .int xp2), (3, va_rf rp3)]) C dL_deleteNote_21 hl (by decide) (by generalize rp3 = z9; cases z9 <;> rfl) (fun ls hl => ?_)
      refine lv_iconst (v := (3 : Int32)) C.1.1 C.1.2.1 dL_deleteNote_23 (by decide) ?_
      exact ql_iret C S hr hlocks dL_deleteNote_24 ⟨Nat.le_of_ble_eq_true rfl, Nat.le_of_ble_eq_true rfl⟩ w
    replace w := ql_ifn w c9
    clear c9
    by_cases c9 : E = "java/lang/UnsupportedOperationException"
    · replace w := ql_if w c9
      subst c9
      refine ql_catch C htab9 [(0, 10, 13, 23), (0, 10, 17, 25), (0, 10, 21, 15)] (0, 10, 25, 17) [] rfl (fun z hz => by rcases (show z = (0, 10, 13, 23) ∨ z = (0, 10, 17, 25) ∨ z = (0, 10, 21, 15) by simpa using hz) with rfl | rfl | rfl <;> first | exact ⟨by decide, _, gw_804, by decide +kernel⟩ | exact ⟨by decide, _, gw_805, by decide +kernel⟩ | exact ⟨by decide, _, gw_773, by decide +kernel⟩) rfl (by decide) gw_774 (by decide +kernel) g1 g2 g3 (tgt := 25) rfl ?_
      refine ql_astore (lv' := [(4, va_rf (some q9)), (0, va_rf rp0), (1, .int xp1), (2, .int xp2), (3, va_rf rp3)]) C dL_deleteNote_25 hl (by decide) (by generalize rp3 = z9; cases z9 <;> rfl) (fun ls hl => ?_)
      refine lv_iconst (v := (4 : Int32)) C.1.1 C.1.2.1 dL_deleteNote_27 (by decide) ?_
      exact ql_iret C S hr hlocks dL_deleteNote_28 ⟨Nat.le_of_ble_eq_true rfl, Nat.le_of_ble_eq_true rfl⟩ w
    replace w := ql_ifn w c9
    clear c9
    exact w.elim
  refine W.cs (cells' := 1) (slots' := 6) rfl rfl ?_
  refine lv_i2l C.1.1 C.1.2.1 dL_deleteNote_8 rfl ?_
  refine ql_last C S dL_deleteNote_9 w (fun h H locs S w => ?_)
  refine lv_goto (tgt := 29) C.1.1 C.1.2.1 dL_deleteNote_10 (by decide) ?_
  refine lv_iconst (v := (0 : Int32)) C.1.1 C.1.2.1 dL_deleteNote_29 (by decide) ?_
  exact ql_iret C S hr hlocks dL_deleteNote_30 ⟨Nat.le_of_ble_eq_true rfl, Nat.le_of_ble_eq_true rfl⟩ w
def qw_L_setSunset (rp0 : Option Nat) (xp1 : Int32) (xp2 : Int32) (rp3 : Option Nat) (h : ql_H) (Q : Int32 → ql_H → Prop) : Prop :=
ql_rv h rp0 12 fun b1 => qw_X11_setSunset b1 xp1 xp2 h (fun x1 h =>
ql_sJ h rp3 (0 : Int32) x1.toInt64 fun h =>
Q (0 : Int32) h) (fun E h => if E = "java/util/NoSuchElementException" then (Q (1 : Int32) h) else if E = "java/lang/IllegalArgumentException" then (Q (2 : Int32) h) else if E = "java/lang/IllegalStateException" then (Q (3 : Int32) h) else False)
set_option maxHeartbeats 4000000 in
set_option maxRecDepth 100000 in
theorem qm_L_setSunset (l : Launch) (hl9 : l.stackTraces = false) (D : ql_D) (h0 : ql_H) (rp0 : Option Nat) (xp1 : Int32) (xp2 : Int32) (rp3 : Option Nat) (Q : Int32 → ql_H → Prop) (X : String → ql_H → Prop) (w : qw_L_setSunset rp0 xp1 xp2 rp3 h0 Q) : ql_MH D l yL_setSunset cL_setSunset 5 (some .int) [(0, 10, 13, 23), (0, 10, 17, 13), (0, 10, 21, 15)] ({ frames := 14, cells := 1, slots := 6, locals := 188 } : Room) h0 [va_rf rp0, .int xp1, .int xp2, va_rf rp3] (ql_rI Q) X 1 6 := by
  refine ql_ofWH (by decide) (by cases rp0 <;> cases rp3 <;> exact Nat.le_of_ble_eq_true rfl) ?_
  intro p e s m below meth c ls C hr hlocks hnm htab9 S hl
  rw [show lv_args 0 [va_rf rp0, .int xp1, .int xp2, va_rf rp3] = [(0, va_rf rp0), (1, .int xp1), (2, .int xp2), (3, va_rf rp3)] from by cases rp0 <;> cases rp3 <;> rfl] at hl
  unfold qw_L_setSunset at w
  refine ql_aload_n (r := rp3) C dL_setSunset_0 rfl (lv_at hl 3 rfl) ?_
  refine lv_iconst (v := (0 : Int32)) C.1.1 C.1.2.1 dL_setSunset_1 (by decide) ?_
  refine ql_aload_n (r := rp0) C dL_setSunset_2 rfl (lv_at hl 0 rfl) ?_
  refine lv_iload_n C.1.1 C.1.2.1 dL_setSunset_3 rfl (lv_at hl 1 rfl) ?_
  refine lv_iload_n C.1.1 C.1.2.1 dL_setSunset_4 rfl (lv_at hl 2 rfl) ?_
  refine ql_HVI (As := [.int xp1, .int xp2]) (rest := [.int (0 : Int32), va_rf rp3]) C S hl qy_X11_setSunset qi_X11_setSunset qs_X11_setSunset gw_904 (ci := 12) rfl w (fun b w => qm_X11_setSunset l hl9 D _ b xp1 xp2 _ _ w) rfl ⟨Nat.le_of_ble_eq_true rfl, Nat.le_of_ble_eq_true rfl⟩ ⟨rfl, rfl⟩ (by generalize rp3 = z0; cases z0 <;> exact Nat.le_of_ble_eq_true rfl) (fun b e9 => by cases e9; rfl) dL_setSunset_5 ⟨Nat.le_of_ble_eq_true rfl, Nat.le_of_ble_eq_true rfl⟩ (fun E ce q9 h H locs w S g1 g2 g3 => ?_) (fun x1 h H locs S w => ?_)
  · by_cases c9 : E = "java/util/NoSuchElementException"
    · replace w := ql_if w c9
      subst c9
      refine ql_catch C htab9 [] (0, 10, 13, 23) [(0, 10, 17, 13), (0, 10, 21, 15)] rfl (fun z hz => nomatch hz) rfl (by decide) gw_804 (by decide +kernel) g1 g2 g3 (tgt := 13) rfl ?_
      refine ql_astore (lv' := [(4, va_rf (some q9)), (0, va_rf rp0), (1, .int xp1), (2, .int xp2), (3, va_rf rp3)]) C dL_setSunset_13 hl (by decide) (by generalize rp3 = z9; cases z9 <;> rfl) (fun ls hl => ?_)
      refine lv_iconst (v := (1 : Int32)) C.1.1 C.1.2.1 dL_setSunset_15 (by decide) ?_
      exact ql_iret C S hr hlocks dL_setSunset_16 ⟨Nat.le_of_ble_eq_true rfl, Nat.le_of_ble_eq_true rfl⟩ w
    replace w := ql_ifn w c9
    clear c9
    by_cases c9 : E = "java/lang/IllegalArgumentException"
    · replace w := ql_if w c9
      subst c9
      refine ql_catch C htab9 [(0, 10, 13, 23)] (0, 10, 17, 13) [(0, 10, 21, 15)] rfl (fun z hz => by rcases (show z = (0, 10, 13, 23) by simpa using hz) with rfl <;> first | exact ⟨by decide, _, gw_804, by decide +kernel⟩) rfl (by decide) gw_772 (by decide +kernel) g1 g2 g3 (tgt := 17) rfl ?_
      refine ql_astore (lv' := [(4, va_rf (some q9)), (0, va_rf rp0), (1, .int xp1), (2, .int xp2), (3, va_rf rp3)]) C dL_setSunset_17 hl (by decide) (by generalize rp3 = z9; cases z9 <;> rfl) (fun ls hl => ?_)
      refine lv_iconst (v := (2 : Int32)) C.1.1 C.1.2.1 dL_setSunset_19 (by decide) ?_
      exact ql_iret C S hr hlocks dL_setSunset_20 ⟨Nat.le_of_ble_eq_true rfl, Nat.le_of_ble_eq_true rfl⟩ w
    replace w := ql_ifn w c9
    clear c9
    by_cases c9 : E = "java/lang/IllegalStateException"
    · replace w := ql_if w c9
      subst c9
      refine ql_catch C htab9 [(0, 10, 13, 23), (0, 10, 17, 13)] (0, 10, 21, 15) [] rfl (fun z hz => by rcases (show z = (0, 10, 13, 23) ∨ z = (0, 10, 17, 13) by simpa using hz) with rfl | rfl <;> first | exact ⟨by decide, _, gw_804, by decide +kernel⟩ | exact ⟨by decide, _, gw_772, by decide +kernel⟩) rfl (by decide) gw_773 (by decide +kernel) g1 g2 g3 (tgt := 21) rfl ?_
      refine ql_astore (lv' := [(4, va_rf (some q9)), (0, va_rf rp0), (1, .int xp1), (2, .int xp2), (3, va_rf rp3)]) C dL_setSunset_21 hl (by decide) (by generalize rp3 = z9; cases z9 <;> rfl) (fun ls hl => ?_)
      refine lv_iconst (v := (3 : Int32)) C.1.1 C.1.2.1 dL_setSunset_23 (by decide) ?_
      exact ql_iret C S hr hlocks dL_setSunset_24 ⟨Nat.le_of_ble_eq_true rfl, Nat.le_of_ble_eq_true rfl⟩ w
    replace w := ql_ifn w c9
    clear c9
    exact w.elim
  refine W.cs (cells' := 1) (slots' := 6) rfl rfl ?_
  refine lv_i2l C.1.1 C.1.2.1 dL_setSunset_8 rfl ?_
  refine ql_last C S dL_setSunset_9 w (fun h H locs S w => ?_)
  refine lv_goto (tgt := 25) C.1.1 C.1.2.1 dL_setSunset_10 (by decide) ?_
  refine lv_iconst (v := (0 : Int32)) C.1.1 C.1.2.1 dL_setSunset_25 (by decide) ?_
  exact ql_iret C S hr hlocks dL_setSunset_26 ⟨Nat.le_of_ble_eq_true rfl, Nat.le_of_ble_eq_true rfl⟩ w
def qw_L_cite (rp0 : Option Nat) (xp1 : Int32) (xp2 : Int32) (rp3 : Option Nat) (h : ql_H) (Q : Int32 → ql_H → Prop) : Prop :=
ql_rv h rp0 12 fun b1 => qw_X11_cite b1 xp1 xp2 h (fun x1 h =>
ql_sJ h rp3 (0 : Int32) x1.toInt64 fun h =>
Q (0 : Int32) h) (fun E h => if E = "java/util/NoSuchElementException" then (Q (1 : Int32) h) else if E = "java/lang/IllegalArgumentException" then (Q (2 : Int32) h) else if E = "java/lang/IllegalStateException" then (Q (3 : Int32) h) else False)
set_option maxHeartbeats 4000000 in
set_option maxRecDepth 100000 in
theorem qm_L_cite (l : Launch) (hl9 : l.stackTraces = false) (D : ql_D) (h0 : ql_H) (rp0 : Option Nat) (xp1 : Int32) (xp2 : Int32) (rp3 : Option Nat) (Q : Int32 → ql_H → Prop) (X : String → ql_H → Prop) (w : qw_L_cite rp0 xp1 xp2 rp3 h0 Q) : ql_MH D l yL_cite cL_cite 5 (some .int) [(0, 10, 13, 23), (0, 10, 17, 13), (0, 10, 21, 15)] ({ frames := 14, cells := 1, slots := 6, locals := 198 } : Room) h0 [va_rf rp0, .int xp1, .int xp2, va_rf rp3] (ql_rI Q) X 1 6 := by
  refine ql_ofWH (by decide) (by cases rp0 <;> cases rp3 <;> exact Nat.le_of_ble_eq_true rfl) ?_
  intro p e s m below meth c ls C hr hlocks hnm htab9 S hl
  rw [show lv_args 0 [va_rf rp0, .int xp1, .int xp2, va_rf rp3] = [(0, va_rf rp0), (1, .int xp1), (2, .int xp2), (3, va_rf rp3)] from by cases rp0 <;> cases rp3 <;> rfl] at hl
  unfold qw_L_cite at w
  refine ql_aload_n (r := rp3) C dL_cite_0 rfl (lv_at hl 3 rfl) ?_
  refine lv_iconst (v := (0 : Int32)) C.1.1 C.1.2.1 dL_cite_1 (by decide) ?_
  refine ql_aload_n (r := rp0) C dL_cite_2 rfl (lv_at hl 0 rfl) ?_
  refine lv_iload_n C.1.1 C.1.2.1 dL_cite_3 rfl (lv_at hl 1 rfl) ?_
  refine lv_iload_n C.1.1 C.1.2.1 dL_cite_4 rfl (lv_at hl 2 rfl) ?_
  refine ql_HVI (As := [.int xp1, .int xp2]) (rest := [.int (0 : Int32), va_rf rp3]) C S hl qy_X11_cite qi_X11_cite qs_X11_cite gw_915 (ci := 12) rfl w (fun b w => qm_X11_cite l hl9 D _ b xp1 xp2 _ _ w) rfl ⟨Nat.le_of_ble_eq_true rfl, Nat.le_of_ble_eq_true rfl⟩ ⟨rfl, rfl⟩ (by generalize rp3 = z0; cases z0 <;> exact Nat.le_of_ble_eq_true rfl) (fun b e9 => by cases e9; rfl) dL_cite_5 ⟨Nat.le_of_ble_eq_true rfl, Nat.le_of_ble_eq_true rfl⟩ (fun E ce q9 h H locs w S g1 g2 g3 => ?_) (fun x1 h H locs S w => ?_)
  · by_cases c9 : E = "java/util/NoSuchElementException"
    · replace w := ql_if w c9
      subst c9
      refine ql_catch C htab9 [] (0, 10, 13, 23) [(0, 10, 17, 13), (0, 10, 21, 15)] rfl (fun z hz => nomatch hz) rfl (by decide) gw_804 (by decide +kernel) g1 g2 g3 (tgt := 13) rfl ?_
      refine ql_astore (lv' := [(4, va_rf (some q9)), (0, va_rf rp0), (1, .int xp1), (2, .int xp2), (3, va_rf rp3)]) C dL_cite_13 hl (by decide) (by generalize rp3 = z9; cases z9 <;> rfl) (fun ls hl => ?_)
      refine lv_iconst (v := (1 : Int32)) C.1.1 C.1.2.1 dL_cite_15 (by decide) ?_
      exact ql_iret C S hr hlocks dL_cite_16 ⟨Nat.le_of_ble_eq_true rfl, Nat.le_of_ble_eq_true rfl⟩ w
    replace w := ql_ifn w c9
    clear c9
    by_cases c9 : E = "java/lang/IllegalArgumentException"
    · replace w := ql_if w c9
      subst c9
      refine ql_catch C htab9 [(0, 10, 13, 23)] (0, 10, 17, 13) [(0, 10, 21, 15)] rfl (fun z hz => by rcases (show z = (0, 10, 13, 23) by simpa using hz) with rfl <;> first | exact ⟨by decide, _, gw_804, by decide +kernel⟩) rfl (by decide) gw_772 (by decide +kernel) g1 g2 g3 (tgt := 17) rfl ?_
      refine ql_astore (lv' := [(4, va_rf (some q9)), (0, va_rf rp0), (1, .int xp1), (2, .int xp2), (3, va_rf rp3)]) C dL_cite_17 hl (by decide) (by generalize rp3 = z9; cases z9 <;> rfl) (fun ls hl => ?_)
      refine lv_iconst (v := (2 : Int32)) C.1.1 C.1.2.1 dL_cite_19 (by decide) ?_
      exact ql_iret C S hr hlocks dL_cite_20 ⟨Nat.le_of_ble_eq_true rfl, Nat.le_of_ble_eq_true rfl⟩ w
    replace w := ql_ifn w c9
    clear c9
    by_cases c9 : E = "java/lang/IllegalStateException"
    · replace w := ql_if w c9
      subst c9
      refine ql_catch C htab9 [(0, 10, 13, 23), (0, 10, 17, 13)] (0, 10, 21, 15) [] rfl (fun z hz => by rcases (show z = (0, 10, 13, 23) ∨ z = (0, 10, 17, 13) by simpa using hz) with rfl | rfl <;> first | exact ⟨by decide, _, gw_804, by decide +kernel⟩ | exact ⟨by decide, _, gw_772, by decide +kernel⟩) rfl (by decide) gw_773 (by decide +kernel) g1 g2 g3 (tgt := 21) rfl ?_
      refine ql_astore (lv' := [(4, va_rf (some q9)), (0, va_rf rp0), (1, .int xp1), (2, .int xp2), (3, va_rf rp3)]) C dL_cite_21 hl (by decide) (by generalize rp3 = z9; cases z9 <;> rfl) (fun ls hl => ?_)
      refine lv_iconst (v := (3 : Int32)) C.1.1 C.1.2.1 dL_cite_23 (by decide) ?_
      exact ql_iret C S hr hlocks dL_cite_24 ⟨Nat.le_of_ble_eq_true rfl, Nat.le_of_ble_eq_true rfl⟩ w
    replace w := ql_ifn w c9
    clear c9
    exact w.elim
  refine W.cs (cells' := 1) (slots' := 6) rfl rfl ?_
  refine lv_i2l C.1.1 C.1.2.1 dL_cite_8 rfl ?_
  refine ql_last C S dL_cite_9 w (fun h H locs S w => ?_)
  refine lv_goto (tgt := 25) C.1.1 C.1.2.1 dL_cite_10 (by decide) ?_
  refine lv_iconst (v := (0 : Int32)) C.1.1 C.1.2.1 dL_cite_25 (by decide) ?_
  exact ql_iret C S hr hlocks dL_cite_26 ⟨Nat.le_of_ble_eq_true rfl, Nat.le_of_ble_eq_true rfl⟩ w
def qw_L_uncite (rp0 : Option Nat) (xp1 : Int32) (xp2 : Int32) (rp3 : Option Nat) (h : ql_H) (Q : Int32 → ql_H → Prop) : Prop :=
ql_rv h rp0 12 fun b1 => qw_X11_uncite b1 xp1 xp2 h (fun x1 h =>
ql_sJ h rp3 (0 : Int32) x1.toInt64 fun h =>
Q (0 : Int32) h) (fun E h => if E = "java/util/NoSuchElementException" then (Q (1 : Int32) h) else False)
set_option maxHeartbeats 4000000 in
set_option maxRecDepth 100000 in
theorem qm_L_uncite (l : Launch) (hl9 : l.stackTraces = false) (D : ql_D) (h0 : ql_H) (rp0 : Option Nat) (xp1 : Int32) (xp2 : Int32) (rp3 : Option Nat) (Q : Int32 → ql_H → Prop) (X : String → ql_H → Prop) (w : qw_L_uncite rp0 xp1 xp2 rp3 h0 Q) : ql_MH D l yL_uncite cL_uncite 5 (some .int) [(0, 10, 13, 23)] ({ frames := 14, cells := 1, slots := 6, locals := 200 } : Room) h0 [va_rf rp0, .int xp1, .int xp2, va_rf rp3] (ql_rI Q) X 1 6 := by
  refine ql_ofWH (by decide) (by cases rp0 <;> cases rp3 <;> exact Nat.le_of_ble_eq_true rfl) ?_
  intro p e s m below meth c ls C hr hlocks hnm htab9 S hl
  rw [show lv_args 0 [va_rf rp0, .int xp1, .int xp2, va_rf rp3] = [(0, va_rf rp0), (1, .int xp1), (2, .int xp2), (3, va_rf rp3)] from by cases rp0 <;> cases rp3 <;> rfl] at hl
  unfold qw_L_uncite at w
  refine ql_aload_n (r := rp3) C dL_uncite_0 rfl (lv_at hl 3 rfl) ?_
  refine lv_iconst (v := (0 : Int32)) C.1.1 C.1.2.1 dL_uncite_1 (by decide) ?_
  refine ql_aload_n (r := rp0) C dL_uncite_2 rfl (lv_at hl 0 rfl) ?_
  refine lv_iload_n C.1.1 C.1.2.1 dL_uncite_3 rfl (lv_at hl 1 rfl) ?_
  refine lv_iload_n C.1.1 C.1.2.1 dL_uncite_4 rfl (lv_at hl 2 rfl) ?_
  refine ql_HVI (As := [.int xp1, .int xp2]) (rest := [.int (0 : Int32), va_rf rp3]) C S hl qy_X11_uncite qi_X11_uncite qs_X11_uncite gw_934 (ci := 12) rfl w (fun b w => qm_X11_uncite l hl9 D _ b xp1 xp2 _ _ w) rfl ⟨Nat.le_of_ble_eq_true rfl, Nat.le_of_ble_eq_true rfl⟩ ⟨rfl, rfl⟩ (by generalize rp3 = z0; cases z0 <;> exact Nat.le_of_ble_eq_true rfl) (fun b e9 => by cases e9; rfl) dL_uncite_5 ⟨Nat.le_of_ble_eq_true rfl, Nat.le_of_ble_eq_true rfl⟩ (fun E ce q9 h H locs w S g1 g2 g3 => ?_) (fun x1 h H locs S w => ?_)
  · by_cases c9 : E = "java/util/NoSuchElementException"
    · replace w := ql_if w c9
      subst c9
      refine ql_catch C htab9 [] (0, 10, 13, 23) [] rfl (fun z hz => nomatch hz) rfl (by decide) gw_804 (by decide +kernel) g1 g2 g3 (tgt := 13) rfl ?_
      refine ql_astore (lv' := [(4, va_rf (some q9)), (0, va_rf rp0), (1, .int xp1), (2, .int xp2), (3, va_rf rp3)]) C dL_uncite_13 hl (by decide) (by generalize rp3 = z9; cases z9 <;> rfl) (fun ls hl => ?_)
      refine lv_iconst (v := (1 : Int32)) C.1.1 C.1.2.1 dL_uncite_15 (by decide) ?_
      exact ql_iret C S hr hlocks dL_uncite_16 ⟨Nat.le_of_ble_eq_true rfl, Nat.le_of_ble_eq_true rfl⟩ w
    replace w := ql_ifn w c9
    clear c9
    exact w.elim
  refine W.cs (cells' := 1) (slots' := 6) rfl rfl ?_
  refine lv_i2l C.1.1 C.1.2.1 dL_uncite_8 rfl ?_
  refine ql_last C S dL_uncite_9 w (fun h H locs S w => ?_)
  refine lv_goto (tgt := 17) C.1.1 C.1.2.1 dL_uncite_10 (by decide) ?_
  refine lv_iconst (v := (0 : Int32)) C.1.1 C.1.2.1 dL_uncite_17 (by decide) ?_
  exact ql_iret C S hr hlocks dL_uncite_18 ⟨Nat.le_of_ble_eq_true rfl, Nat.le_of_ble_eq_true rfl⟩ w
def qw_L_repeal (rp0 : Option Nat) (xp1 : Int32) (rp2 : Option Nat) (h : ql_H) (Q : Int32 → ql_H → Prop) : Prop :=
ql_rv h rp0 12 fun b1 => qw_X11_repeal b1 xp1 h (fun x1 h =>
ql_sJ h rp2 (0 : Int32) x1.toInt64 fun h =>
Q (0 : Int32) h) (fun E h => if E = "java/util/NoSuchElementException" then (Q (1 : Int32) h) else False)
set_option maxHeartbeats 4000000 in
set_option maxRecDepth 100000 in
theorem qm_L_repeal (l : Launch) (hl9 : l.stackTraces = false) (D : ql_D) (h0 : ql_H) (rp0 : Option Nat) (xp1 : Int32) (rp2 : Option Nat) (Q : Int32 → ql_H → Prop) (X : String → ql_H → Prop) (w : qw_L_repeal rp0 xp1 rp2 h0 Q) : ql_MH D l yL_repeal cL_repeal 4 (some .int) [(0, 9, 12, 23)] ({ frames := 14, cells := 1, slots := 6, locals := 187 } : Room) h0 [va_rf rp0, .int xp1, va_rf rp2] (ql_rI Q) X 1 6 := by
  refine ql_ofWH (by decide) (by cases rp0 <;> cases rp2 <;> exact Nat.le_of_ble_eq_true rfl) ?_
  intro p e s m below meth c ls C hr hlocks hnm htab9 S hl
  rw [show lv_args 0 [va_rf rp0, .int xp1, va_rf rp2] = [(0, va_rf rp0), (1, .int xp1), (2, va_rf rp2)] from by cases rp0 <;> cases rp2 <;> rfl] at hl
  unfold qw_L_repeal at w
  refine ql_aload_n (r := rp2) C dL_repeal_0 rfl (lv_at hl 2 rfl) ?_
  refine lv_iconst (v := (0 : Int32)) C.1.1 C.1.2.1 dL_repeal_1 (by decide) ?_
  refine ql_aload_n (r := rp0) C dL_repeal_2 rfl (lv_at hl 0 rfl) ?_
  refine lv_iload_n C.1.1 C.1.2.1 dL_repeal_3 rfl (lv_at hl 1 rfl) ?_
  refine ql_HVI (As := [.int xp1]) (rest := [.int (0 : Int32), va_rf rp2]) C S hl qy_X11_repeal qi_X11_repeal qs_X11_repeal gw_945 (ci := 12) rfl w (fun b w => qm_X11_repeal l hl9 D _ b xp1 _ _ w) rfl ⟨Nat.le_of_ble_eq_true rfl, Nat.le_of_ble_eq_true rfl⟩ ⟨rfl, rfl⟩ (by generalize rp2 = z0; cases z0 <;> exact Nat.le_of_ble_eq_true rfl) (fun b e9 => by cases e9; rfl) dL_repeal_4 ⟨Nat.le_of_ble_eq_true rfl, Nat.le_of_ble_eq_true rfl⟩ (fun E ce q9 h H locs w S g1 g2 g3 => ?_) (fun x1 h H locs S w => ?_)
  · by_cases c9 : E = "java/util/NoSuchElementException"
    · replace w := ql_if w c9
      subst c9
      refine ql_catch C htab9 [] (0, 9, 12, 23) [] rfl (fun z hz => nomatch hz) rfl (by decide) gw_804 (by decide +kernel) g1 g2 g3 (tgt := 12) rfl ?_
      refine ql_astore_n (lv' := [(3, va_rf (some q9)), (0, va_rf rp0), (1, .int xp1), (2, va_rf rp2)]) C dL_repeal_12 rfl hl (by decide) (by generalize rp2 = z9; cases z9 <;> rfl) (fun ls hl => ?_)
      refine lv_iconst (v := (1 : Int32)) C.1.1 C.1.2.1 dL_repeal_13 (by decide) ?_
      exact ql_iret C S hr hlocks dL_repeal_14 ⟨Nat.le_of_ble_eq_true rfl, Nat.le_of_ble_eq_true rfl⟩ w
    replace w := ql_ifn w c9
    clear c9
    exact w.elim
  refine W.cs (cells' := 1) (slots' := 6) rfl rfl ?_
  refine lv_i2l C.1.1 C.1.2.1 dL_repeal_7 rfl ?_
  refine ql_last C S dL_repeal_8 w (fun h H locs S w => ?_)
  refine lv_goto (tgt := 15) C.1.1 C.1.2.1 dL_repeal_9 (by decide) ?_
  refine lv_iconst (v := (0 : Int32)) C.1.1 C.1.2.1 dL_repeal_15 (by decide) ?_
  exact ql_iret C S hr hlocks dL_repeal_16 ⟨Nat.le_of_ble_eq_true rfl, Nat.le_of_ble_eq_true rfl⟩ w
def qw_L_advance (rp0 : Option Nat) (xp1 : Int32) (rp2 : Option Nat) (h : ql_H) (Q : Int32 → ql_H → Prop) : Prop :=
ql_rv h rp0 12 fun b1 => qw_X11_advance b1 xp1 h (fun x1 h =>
ql_sJ h rp2 (0 : Int32) x1.toInt64 fun h =>
Q (0 : Int32) h) (fun E h => if E = "java/lang/IllegalArgumentException" then (Q (1 : Int32) h) else False)
set_option maxHeartbeats 4000000 in
set_option maxRecDepth 100000 in
theorem qm_L_advance (l : Launch) (hl9 : l.stackTraces = false) (D : ql_D) (h0 : ql_H) (rp0 : Option Nat) (xp1 : Int32) (rp2 : Option Nat) (Q : Int32 → ql_H → Prop) (X : String → ql_H → Prop) (w : qw_L_advance rp0 xp1 rp2 h0 Q) : ql_MH D l yL_advance cL_advance 4 (some .int) [(0, 9, 12, 13)] ({ frames := 14, cells := 1, slots := 6, locals := 197 } : Room) h0 [va_rf rp0, .int xp1, va_rf rp2] (ql_rI Q) X 1 6 := by
  refine ql_ofWH (by decide) (by cases rp0 <;> cases rp2 <;> exact Nat.le_of_ble_eq_true rfl) ?_
  intro p e s m below meth c ls C hr hlocks hnm htab9 S hl
  rw [show lv_args 0 [va_rf rp0, .int xp1, va_rf rp2] = [(0, va_rf rp0), (1, .int xp1), (2, va_rf rp2)] from by cases rp0 <;> cases rp2 <;> rfl] at hl
  unfold qw_L_advance at w
  refine ql_aload_n (r := rp2) C dL_advance_0 rfl (lv_at hl 2 rfl) ?_
  refine lv_iconst (v := (0 : Int32)) C.1.1 C.1.2.1 dL_advance_1 (by decide) ?_
  refine ql_aload_n (r := rp0) C dL_advance_2 rfl (lv_at hl 0 rfl) ?_
  refine lv_iload_n C.1.1 C.1.2.1 dL_advance_3 rfl (lv_at hl 1 rfl) ?_
  refine ql_HVI (As := [.int xp1]) (rest := [.int (0 : Int32), va_rf rp2]) C S hl qy_X11_advance qi_X11_advance qs_X11_advance gw_957 (ci := 12) rfl w (fun b w => qm_X11_advance l hl9 D _ b xp1 _ _ w) rfl ⟨Nat.le_of_ble_eq_true rfl, Nat.le_of_ble_eq_true rfl⟩ ⟨rfl, rfl⟩ (by generalize rp2 = z0; cases z0 <;> exact Nat.le_of_ble_eq_true rfl) (fun b e9 => by cases e9; rfl) dL_advance_4 ⟨Nat.le_of_ble_eq_true rfl, Nat.le_of_ble_eq_true rfl⟩ (fun E ce q9 h H locs w S g1 g2 g3 => ?_) (fun x1 h H locs S w => ?_)
  · by_cases c9 : E = "java/lang/IllegalArgumentException"
    · replace w := ql_if w c9
      subst c9
      refine ql_catch C htab9 [] (0, 9, 12, 13) [] rfl (fun z hz => nomatch hz) rfl (by decide) gw_772 (by decide +kernel) g1 g2 g3 (tgt := 12) rfl ?_
      refine ql_astore_n (lv' := [(3, va_rf (some q9)), (0, va_rf rp0), (1, .int xp1), (2, va_rf rp2)]) C dL_advance_12 rfl hl (by decide) (by generalize rp2 = z9; cases z9 <;> rfl) (fun ls hl => ?_)
      refine lv_iconst (v := (1 : Int32)) C.1.1 C.1.2.1 dL_advance_13 (by decide) ?_
      exact ql_iret C S hr hlocks dL_advance_14 ⟨Nat.le_of_ble_eq_true rfl, Nat.le_of_ble_eq_true rfl⟩ w
    replace w := ql_ifn w c9
    clear c9
    exact w.elim
  refine W.cs (cells' := 1) (slots' := 6) rfl rfl ?_
  refine lv_i2l C.1.1 C.1.2.1 dL_advance_7 rfl ?_
  refine ql_last C S dL_advance_8 w (fun h H locs S w => ?_)
  refine lv_goto (tgt := 15) C.1.1 C.1.2.1 dL_advance_9 (by decide) ?_
  refine lv_iconst (v := (0 : Int32)) C.1.1 C.1.2.1 dL_advance_15 (by decide) ?_
  exact ql_iret C S hr hlocks dL_advance_16 ⟨Nat.le_of_ble_eq_true rfl, Nat.le_of_ble_eq_true rfl⟩ w
def qw_L_clauseAt (rp0 : Option Nat) (xp1 : Int32) (rp2 : Option Nat) (h : ql_H) (Q : Int32 → ql_H → Prop) : Prop :=
ql_rv h rp0 12 fun b1 => qw_X11_clauseAt b1 xp1 h (fun x1 h =>
ql_sJ h rp2 (0 : Int32) x1.toInt64 fun h =>
Q (0 : Int32) h) (fun E h => if E = "java/util/NoSuchElementException" then (Q (1 : Int32) h) else False)
set_option maxHeartbeats 4000000 in
set_option maxRecDepth 100000 in
theorem qm_L_clauseAt (l : Launch) (hl9 : l.stackTraces = false) (D : ql_D) (h0 : ql_H) (rp0 : Option Nat) (xp1 : Int32) (rp2 : Option Nat) (Q : Int32 → ql_H → Prop) (X : String → ql_H → Prop) (w : qw_L_clauseAt rp0 xp1 rp2 h0 Q) : ql_MH D l yL_clauseAt cL_clauseAt 4 (some .int) [(0, 9, 12, 23)] ({ frames := 12, cells := 1, slots := 6, locals := 158 } : Room) h0 [va_rf rp0, .int xp1, va_rf rp2] (ql_rI Q) X 1 6 := by
  refine ql_ofWH (by decide) (by cases rp0 <;> cases rp2 <;> exact Nat.le_of_ble_eq_true rfl) ?_
  intro p e s m below meth c ls C hr hlocks hnm htab9 S hl
  rw [show lv_args 0 [va_rf rp0, .int xp1, va_rf rp2] = [(0, va_rf rp0), (1, .int xp1), (2, va_rf rp2)] from by cases rp0 <;> cases rp2 <;> rfl] at hl
  unfold qw_L_clauseAt at w
  refine ql_aload_n (r := rp2) C dL_clauseAt_0 rfl (lv_at hl 2 rfl) ?_
  refine lv_iconst (v := (0 : Int32)) C.1.1 C.1.2.1 dL_clauseAt_1 (by decide) ?_
  refine ql_aload_n (r := rp0) C dL_clauseAt_2 rfl (lv_at hl 0 rfl) ?_
  refine lv_iload_n C.1.1 C.1.2.1 dL_clauseAt_3 rfl (lv_at hl 1 rfl) ?_
  refine ql_HVI (As := [.int xp1]) (rest := [.int (0 : Int32), va_rf rp2]) C S hl qy_X11_clauseAt qi_X11_clauseAt qs_X11_clauseAt gw_972 (ci := 12) rfl w (fun b w => qm_X11_clauseAt l hl9 D _ b xp1 _ _ w) rfl ⟨Nat.le_of_ble_eq_true rfl, Nat.le_of_ble_eq_true rfl⟩ ⟨rfl, rfl⟩ (by generalize rp2 = z0; cases z0 <;> exact Nat.le_of_ble_eq_true rfl) (fun b e9 => by cases e9; rfl) dL_clauseAt_4 ⟨Nat.le_of_ble_eq_true rfl, Nat.le_of_ble_eq_true rfl⟩ (fun E ce q9 h H locs w S g1 g2 g3 => ?_) (fun x1 h H locs S w => ?_)
  · by_cases c9 : E = "java/util/NoSuchElementException"
    · replace w := ql_if w c9
      subst c9
      refine ql_catch C htab9 [] (0, 9, 12, 23) [] rfl (fun z hz => nomatch hz) rfl (by decide) gw_804 (by decide +kernel) g1 g2 g3 (tgt := 12) rfl ?_
      refine ql_astore_n (lv' := [(3, va_rf (some q9)), (0, va_rf rp0), (1, .int xp1), (2, va_rf rp2)]) C dL_clauseAt_12 rfl hl (by decide) (by generalize rp2 = z9; cases z9 <;> rfl) (fun ls hl => ?_)
      refine lv_iconst (v := (1 : Int32)) C.1.1 C.1.2.1 dL_clauseAt_13 (by decide) ?_
      exact ql_iret C S hr hlocks dL_clauseAt_14 ⟨Nat.le_of_ble_eq_true rfl, Nat.le_of_ble_eq_true rfl⟩ w
    replace w := ql_ifn w c9
    clear c9
    exact w.elim
  refine W.cs (cells' := 1) (slots' := 6) rfl rfl ?_
  refine lv_i2l C.1.1 C.1.2.1 dL_clauseAt_7 rfl ?_
  refine ql_last C S dL_clauseAt_8 w (fun h H locs S w => ?_)
  refine lv_goto (tgt := 15) C.1.1 C.1.2.1 dL_clauseAt_9 (by decide) ?_
  refine lv_iconst (v := (0 : Int32)) C.1.1 C.1.2.1 dL_clauseAt_15 (by decide) ?_
  exact ql_iret C S hr hlocks dL_clauseAt_16 ⟨Nat.le_of_ble_eq_true rfl, Nat.le_of_ble_eq_true rfl⟩ w
def qw_L_clauseOfSection (rp0 : Option Nat) (xp1 : Int32) (rp2 : Option Nat) (h : ql_H) (Q : Int32 → ql_H → Prop) : Prop :=
ql_rv h rp0 12 fun b1 => qw_X11_clauseOfSection b1 xp1 h (fun x1 h =>
ql_sJ h rp2 (0 : Int32) x1.toInt64 fun h =>
Q (0 : Int32) h) (fun E h => if E = "java/util/NoSuchElementException" then (Q (1 : Int32) h) else False)
set_option maxHeartbeats 4000000 in
set_option maxRecDepth 100000 in
theorem qm_L_clauseOfSection (l : Launch) (hl9 : l.stackTraces = false) (D : ql_D) (h0 : ql_H) (rp0 : Option Nat) (xp1 : Int32) (rp2 : Option Nat) (Q : Int32 → ql_H → Prop) (X : String → ql_H → Prop) (w : qw_L_clauseOfSection rp0 xp1 rp2 h0 Q) : ql_MH D l yL_clauseOfSection cL_clauseOfSection 4 (some .int) [(0, 9, 12, 23)] ({ frames := 12, cells := 1, slots := 6, locals := 158 } : Room) h0 [va_rf rp0, .int xp1, va_rf rp2] (ql_rI Q) X 1 6 := by
  refine ql_ofWH (by decide) (by cases rp0 <;> cases rp2 <;> exact Nat.le_of_ble_eq_true rfl) ?_
  intro p e s m below meth c ls C hr hlocks hnm htab9 S hl
  rw [show lv_args 0 [va_rf rp0, .int xp1, va_rf rp2] = [(0, va_rf rp0), (1, .int xp1), (2, va_rf rp2)] from by cases rp0 <;> cases rp2 <;> rfl] at hl
  unfold qw_L_clauseOfSection at w
  refine ql_aload_n (r := rp2) C dL_clauseOfSection_0 rfl (lv_at hl 2 rfl) ?_
  refine lv_iconst (v := (0 : Int32)) C.1.1 C.1.2.1 dL_clauseOfSection_1 (by decide) ?_
  refine ql_aload_n (r := rp0) C dL_clauseOfSection_2 rfl (lv_at hl 0 rfl) ?_
  refine lv_iload_n C.1.1 C.1.2.1 dL_clauseOfSection_3 rfl (lv_at hl 1 rfl) ?_
  refine ql_HVI (As := [.int xp1]) (rest := [.int (0 : Int32), va_rf rp2]) C S hl qy_X11_clauseOfSection qi_X11_clauseOfSection qs_X11_clauseOfSection gw_983 (ci := 12) rfl w (fun b w => qm_X11_clauseOfSection l hl9 D _ b xp1 _ _ w) rfl ⟨Nat.le_of_ble_eq_true rfl, Nat.le_of_ble_eq_true rfl⟩ ⟨rfl, rfl⟩ (by generalize rp2 = z0; cases z0 <;> exact Nat.le_of_ble_eq_true rfl) (fun b e9 => by cases e9; rfl) dL_clauseOfSection_4 ⟨Nat.le_of_ble_eq_true rfl, Nat.le_of_ble_eq_true rfl⟩ (fun E ce q9 h H locs w S g1 g2 g3 => ?_) (fun x1 h H locs S w => ?_)
  · by_cases c9 : E = "java/util/NoSuchElementException"
    · replace w := ql_if w c9
      subst c9
      refine ql_catch C htab9 [] (0, 9, 12, 23) [] rfl (fun z hz => nomatch hz) rfl (by decide) gw_804 (by decide +kernel) g1 g2 g3 (tgt := 12) rfl ?_
      refine ql_astore_n (lv' := [(3, va_rf (some q9)), (0, va_rf rp0), (1, .int xp1), (2, va_rf rp2)]) C dL_clauseOfSection_12 rfl hl (by decide) (by generalize rp2 = z9; cases z9 <;> rfl) (fun ls hl => ?_)
      refine lv_iconst (v := (1 : Int32)) C.1.1 C.1.2.1 dL_clauseOfSection_13 (by decide) ?_
      exact ql_iret C S hr hlocks dL_clauseOfSection_14 ⟨Nat.le_of_ble_eq_true rfl, Nat.le_of_ble_eq_true rfl⟩ w
    replace w := ql_ifn w c9
    clear c9
    exact w.elim
  refine W.cs (cells' := 1) (slots' := 6) rfl rfl ?_
  refine lv_i2l C.1.1 C.1.2.1 dL_clauseOfSection_7 rfl ?_
  refine ql_last C S dL_clauseOfSection_8 w (fun h H locs S w => ?_)
  refine lv_goto (tgt := 15) C.1.1 C.1.2.1 dL_clauseOfSection_9 (by decide) ?_
  refine lv_iconst (v := (0 : Int32)) C.1.1 C.1.2.1 dL_clauseOfSection_15 (by decide) ?_
  exact ql_iret C S hr hlocks dL_clauseOfSection_16 ⟨Nat.le_of_ble_eq_true rfl, Nat.le_of_ble_eq_true rfl⟩ w
def qw_L_section (rp0 : Option Nat) (xp1 : Int32) (rp2 : Option Nat) (h : ql_H) (Q : Int32 → ql_H → Prop) : Prop :=
ql_rv h rp0 12 fun b1 => qw_X11_section b1 xp1 h (fun x1 h =>
ql_sJ h rp2 (0 : Int32) x1.toInt64 fun h =>
Q (0 : Int32) h) (fun E h => if E = "java/util/NoSuchElementException" then (Q (1 : Int32) h) else False)
set_option maxHeartbeats 4000000 in
set_option maxRecDepth 100000 in
theorem qm_L_section (l : Launch) (hl9 : l.stackTraces = false) (D : ql_D) (h0 : ql_H) (rp0 : Option Nat) (xp1 : Int32) (rp2 : Option Nat) (Q : Int32 → ql_H → Prop) (X : String → ql_H → Prop) (w : qw_L_section rp0 xp1 rp2 h0 Q) : ql_MH D l yL_section cL_section 4 (some .int) [(0, 9, 12, 23)] ({ frames := 14, cells := 1, slots := 6, locals := 187 } : Room) h0 [va_rf rp0, .int xp1, va_rf rp2] (ql_rI Q) X 1 6 := by
  refine ql_ofWH (by decide) (by cases rp0 <;> cases rp2 <;> exact Nat.le_of_ble_eq_true rfl) ?_
  intro p e s m below meth c ls C hr hlocks hnm htab9 S hl
  rw [show lv_args 0 [va_rf rp0, .int xp1, va_rf rp2] = [(0, va_rf rp0), (1, .int xp1), (2, va_rf rp2)] from by cases rp0 <;> cases rp2 <;> rfl] at hl
  unfold qw_L_section at w
  refine ql_aload_n (r := rp2) C dL_section_0 rfl (lv_at hl 2 rfl) ?_
  refine lv_iconst (v := (0 : Int32)) C.1.1 C.1.2.1 dL_section_1 (by decide) ?_
  refine ql_aload_n (r := rp0) C dL_section_2 rfl (lv_at hl 0 rfl) ?_
  refine lv_iload_n C.1.1 C.1.2.1 dL_section_3 rfl (lv_at hl 1 rfl) ?_
  refine ql_HVI (As := [.int xp1]) (rest := [.int (0 : Int32), va_rf rp2]) C S hl qy_X11_section qi_X11_section qs_X11_section gw_991 (ci := 12) rfl w (fun b w => qm_X11_section l hl9 D _ b xp1 _ _ w) rfl ⟨Nat.le_of_ble_eq_true rfl, Nat.le_of_ble_eq_true rfl⟩ ⟨rfl, rfl⟩ (by generalize rp2 = z0; cases z0 <;> exact Nat.le_of_ble_eq_true rfl) (fun b e9 => by cases e9; rfl) dL_section_4 ⟨Nat.le_of_ble_eq_true rfl, Nat.le_of_ble_eq_true rfl⟩ (fun E ce q9 h H locs w S g1 g2 g3 => ?_) (fun x1 h H locs S w => ?_)
  · by_cases c9 : E = "java/util/NoSuchElementException"
    · replace w := ql_if w c9
      subst c9
      refine ql_catch C htab9 [] (0, 9, 12, 23) [] rfl (fun z hz => nomatch hz) rfl (by decide) gw_804 (by decide +kernel) g1 g2 g3 (tgt := 12) rfl ?_
      refine ql_astore_n (lv' := [(3, va_rf (some q9)), (0, va_rf rp0), (1, .int xp1), (2, va_rf rp2)]) C dL_section_12 rfl hl (by decide) (by generalize rp2 = z9; cases z9 <;> rfl) (fun ls hl => ?_)
      refine lv_iconst (v := (1 : Int32)) C.1.1 C.1.2.1 dL_section_13 (by decide) ?_
      exact ql_iret C S hr hlocks dL_section_14 ⟨Nat.le_of_ble_eq_true rfl, Nat.le_of_ble_eq_true rfl⟩ w
    replace w := ql_ifn w c9
    clear c9
    exact w.elim
  refine W.cs (cells' := 1) (slots' := 6) rfl rfl ?_
  refine lv_i2l C.1.1 C.1.2.1 dL_section_7 rfl ?_
  refine ql_last C S dL_section_8 w (fun h H locs S w => ?_)
  refine lv_goto (tgt := 15) C.1.1 C.1.2.1 dL_section_9 (by decide) ?_
  refine lv_iconst (v := (0 : Int32)) C.1.1 C.1.2.1 dL_section_15 (by decide) ?_
  exact ql_iret C S hr hlocks dL_section_16 ⟨Nat.le_of_ble_eq_true rfl, Nat.le_of_ble_eq_true rfl⟩ w
def qw_L_enactedOn (rp0 : Option Nat) (xp1 : Int32) (rp2 : Option Nat) (h : ql_H) (Q : Int32 → ql_H → Prop) : Prop :=
ql_rv h rp0 12 fun b1 => qw_X11_enactedOn b1 xp1 h (fun x1 h =>
ql_sJ h rp2 (0 : Int32) x1.toInt64 fun h =>
Q (0 : Int32) h) (fun E h => if E = "java/util/NoSuchElementException" then (Q (1 : Int32) h) else False)
set_option maxHeartbeats 4000000 in
set_option maxRecDepth 100000 in
theorem qm_L_enactedOn (l : Launch) (hl9 : l.stackTraces = false) (D : ql_D) (h0 : ql_H) (rp0 : Option Nat) (xp1 : Int32) (rp2 : Option Nat) (Q : Int32 → ql_H → Prop) (X : String → ql_H → Prop) (w : qw_L_enactedOn rp0 xp1 rp2 h0 Q) : ql_MH D l yL_enactedOn cL_enactedOn 4 (some .int) [(0, 9, 12, 23)] ({ frames := 14, cells := 1, slots := 6, locals := 187 } : Room) h0 [va_rf rp0, .int xp1, va_rf rp2] (ql_rI Q) X 1 6 := by
  refine ql_ofWH (by decide) (by cases rp0 <;> cases rp2 <;> exact Nat.le_of_ble_eq_true rfl) ?_
  intro p e s m below meth c ls C hr hlocks hnm htab9 S hl
  rw [show lv_args 0 [va_rf rp0, .int xp1, va_rf rp2] = [(0, va_rf rp0), (1, .int xp1), (2, va_rf rp2)] from by cases rp0 <;> cases rp2 <;> rfl] at hl
  unfold qw_L_enactedOn at w
  refine ql_aload_n (r := rp2) C dL_enactedOn_0 rfl (lv_at hl 2 rfl) ?_
  refine lv_iconst (v := (0 : Int32)) C.1.1 C.1.2.1 dL_enactedOn_1 (by decide) ?_
  refine ql_aload_n (r := rp0) C dL_enactedOn_2 rfl (lv_at hl 0 rfl) ?_
  refine lv_iload_n C.1.1 C.1.2.1 dL_enactedOn_3 rfl (lv_at hl 1 rfl) ?_
  refine ql_HVI (As := [.int xp1]) (rest := [.int (0 : Int32), va_rf rp2]) C S hl qy_X11_enactedOn qi_X11_enactedOn qs_X11_enactedOn gw_1003 (ci := 12) rfl w (fun b w => qm_X11_enactedOn l hl9 D _ b xp1 _ _ w) rfl ⟨Nat.le_of_ble_eq_true rfl, Nat.le_of_ble_eq_true rfl⟩ ⟨rfl, rfl⟩ (by generalize rp2 = z0; cases z0 <;> exact Nat.le_of_ble_eq_true rfl) (fun b e9 => by cases e9; rfl) dL_enactedOn_4 ⟨Nat.le_of_ble_eq_true rfl, Nat.le_of_ble_eq_true rfl⟩ (fun E ce q9 h H locs w S g1 g2 g3 => ?_) (fun x1 h H locs S w => ?_)
  · by_cases c9 : E = "java/util/NoSuchElementException"
    · replace w := ql_if w c9
      subst c9
      refine ql_catch C htab9 [] (0, 9, 12, 23) [] rfl (fun z hz => nomatch hz) rfl (by decide) gw_804 (by decide +kernel) g1 g2 g3 (tgt := 12) rfl ?_
      refine ql_astore_n (lv' := [(3, va_rf (some q9)), (0, va_rf rp0), (1, .int xp1), (2, va_rf rp2)]) C dL_enactedOn_12 rfl hl (by decide) (by generalize rp2 = z9; cases z9 <;> rfl) (fun ls hl => ?_)
      refine lv_iconst (v := (1 : Int32)) C.1.1 C.1.2.1 dL_enactedOn_13 (by decide) ?_
      exact ql_iret C S hr hlocks dL_enactedOn_14 ⟨Nat.le_of_ble_eq_true rfl, Nat.le_of_ble_eq_true rfl⟩ w
    replace w := ql_ifn w c9
    clear c9
    exact w.elim
  refine W.cs (cells' := 1) (slots' := 6) rfl rfl ?_
  refine lv_i2l C.1.1 C.1.2.1 dL_enactedOn_7 rfl ?_
  refine ql_last C S dL_enactedOn_8 w (fun h H locs S w => ?_)
  refine lv_goto (tgt := 15) C.1.1 C.1.2.1 dL_enactedOn_9 (by decide) ?_
  refine lv_iconst (v := (0 : Int32)) C.1.1 C.1.2.1 dL_enactedOn_15 (by decide) ?_
  exact ql_iret C S hr hlocks dL_enactedOn_16 ⟨Nat.le_of_ble_eq_true rfl, Nat.le_of_ble_eq_true rfl⟩ w
def qw_L_sunset (rp0 : Option Nat) (xp1 : Int32) (rp2 : Option Nat) (h : ql_H) (Q : Int32 → ql_H → Prop) : Prop :=
ql_rv h rp0 12 fun b1 => qw_X11_sunset b1 xp1 h (fun x1 h =>
ql_sJ h rp2 (0 : Int32) x1.toInt64 fun h =>
Q (0 : Int32) h) (fun E h => if E = "java/util/NoSuchElementException" then (Q (1 : Int32) h) else False)
set_option maxHeartbeats 4000000 in
set_option maxRecDepth 100000 in
theorem qm_L_sunset (l : Launch) (hl9 : l.stackTraces = false) (D : ql_D) (h0 : ql_H) (rp0 : Option Nat) (xp1 : Int32) (rp2 : Option Nat) (Q : Int32 → ql_H → Prop) (X : String → ql_H → Prop) (w : qw_L_sunset rp0 xp1 rp2 h0 Q) : ql_MH D l yL_sunset cL_sunset 4 (some .int) [(0, 9, 12, 23)] ({ frames := 16, cells := 2, slots := 12, locals := 217 } : Room) h0 [va_rf rp0, .int xp1, va_rf rp2] (ql_rI Q) X 2 12 := by
  refine ql_ofWH (by decide) (by cases rp0 <;> cases rp2 <;> exact Nat.le_of_ble_eq_true rfl) ?_
  intro p e s m below meth c ls C hr hlocks hnm htab9 S hl
  rw [show lv_args 0 [va_rf rp0, .int xp1, va_rf rp2] = [(0, va_rf rp0), (1, .int xp1), (2, va_rf rp2)] from by cases rp0 <;> cases rp2 <;> rfl] at hl
  unfold qw_L_sunset at w
  refine ql_aload_n (r := rp2) C dL_sunset_0 rfl (lv_at hl 2 rfl) ?_
  refine lv_iconst (v := (0 : Int32)) C.1.1 C.1.2.1 dL_sunset_1 (by decide) ?_
  refine ql_aload_n (r := rp0) C dL_sunset_2 rfl (lv_at hl 0 rfl) ?_
  refine lv_iload_n C.1.1 C.1.2.1 dL_sunset_3 rfl (lv_at hl 1 rfl) ?_
  refine ql_HVI (As := [.int xp1]) (rest := [.int (0 : Int32), va_rf rp2]) C S hl qy_X11_sunset qi_X11_sunset qs_X11_sunset gw_1010 (ci := 12) rfl w (fun b w => qm_X11_sunset l hl9 D _ b xp1 _ _ w) rfl ⟨Nat.le_of_ble_eq_true rfl, Nat.le_of_ble_eq_true rfl⟩ ⟨rfl, rfl⟩ (by generalize rp2 = z0; cases z0 <;> exact Nat.le_of_ble_eq_true rfl) (fun b e9 => by cases e9; rfl) dL_sunset_4 ⟨Nat.le_of_ble_eq_true rfl, Nat.le_of_ble_eq_true rfl⟩ (fun E ce q9 h H locs w S g1 g2 g3 => ?_) (fun x1 h H locs S w => ?_)
  · by_cases c9 : E = "java/util/NoSuchElementException"
    · replace w := ql_if w c9
      subst c9
      refine ql_catch C htab9 [] (0, 9, 12, 23) [] rfl (fun z hz => nomatch hz) rfl (by decide) gw_804 (by decide +kernel) g1 g2 g3 (tgt := 12) rfl ?_
      refine ql_astore_n (lv' := [(3, va_rf (some q9)), (0, va_rf rp0), (1, .int xp1), (2, va_rf rp2)]) C dL_sunset_12 rfl hl (by decide) (by generalize rp2 = z9; cases z9 <;> rfl) (fun ls hl => ?_)
      refine lv_iconst (v := (1 : Int32)) C.1.1 C.1.2.1 dL_sunset_13 (by decide) ?_
      exact ql_iret C S hr hlocks dL_sunset_14 ⟨Nat.le_of_ble_eq_true rfl, Nat.le_of_ble_eq_true rfl⟩ w
    replace w := ql_ifn w c9
    clear c9
    exact w.elim
  refine W.cs (cells' := 2) (slots' := 12) rfl rfl ?_
  refine lv_i2l C.1.1 C.1.2.1 dL_sunset_7 rfl ?_
  refine ql_last C S dL_sunset_8 w (fun h H locs S w => ?_)
  refine lv_goto (tgt := 15) C.1.1 C.1.2.1 dL_sunset_9 (by decide) ?_
  refine lv_iconst (v := (0 : Int32)) C.1.1 C.1.2.1 dL_sunset_15 (by decide) ?_
  exact ql_iret C S hr hlocks dL_sunset_16 ⟨Nat.le_of_ble_eq_true rfl, Nat.le_of_ble_eq_true rfl⟩ w
def qw_L_isInForce_16 (Q : Int32 → ql_H → Prop) (rs0 : Option Nat) (xs1 : Int32) (js2 : Int64) (h : ql_H) : Prop :=
ql_sJ h rs0 xs1 js2 fun h =>
Q (0 : Int32) h
def qw_L_isInForce (rp0 : Option Nat) (xp1 : Int32) (xp2 : Int32) (rp3 : Option Nat) (h : ql_H) (Q : Int32 → ql_H → Prop) : Prop :=
ql_rv h rp0 12 fun b1 => qw_X11_isInForce b1 xp1 xp2 h (fun x1 h =>
if x1 = 0 then (qw_L_isInForce_16 Q rp3 (0 : Int32) (0 : Int64) h) else (qw_L_isInForce_16 Q rp3 (0 : Int32) (1 : Int64) h)) (fun E h => if E = "java/util/NoSuchElementException" then (Q (1 : Int32) h) else False)
set_option maxHeartbeats 4000000 in
set_option maxRecDepth 100000 in
theorem qm_L_isInForce (l : Launch) (hl9 : l.stackTraces = false) (D : ql_D) (h0 : ql_H) (rp0 : Option Nat) (xp1 : Int32) (xp2 : Int32) (rp3 : Option Nat) (Q : Int32 → ql_H → Prop) (X : String → ql_H → Prop) (w : qw_L_isInForce rp0 xp1 xp2 rp3 h0 Q) : ql_MH D l yL_isInForce cL_isInForce 5 (some .int) [(0, 17, 20, 23)] ({ frames := 14, cells := 1, slots := 6, locals := 188 } : Room) h0 [va_rf rp0, .int xp1, .int xp2, va_rf rp3] (ql_rI Q) X 1 6 := by
  refine ql_ofWH (by decide) (by cases rp0 <;> cases rp3 <;> exact Nat.le_of_ble_eq_true rfl) ?_
  intro p e s m below meth c ls C hr hlocks hnm htab9 S hl
  rw [show lv_args 0 [va_rf rp0, .int xp1, .int xp2, va_rf rp3] = [(0, va_rf rp0), (1, .int xp1), (2, .int xp2), (3, va_rf rp3)] from by cases rp0 <;> cases rp3 <;> rfl] at hl
  have hB16 : ∀ (rs0 : Option Nat) (xs1 : Int32) (js2 : Int64) (h : ql_H) (H : Heap) (locs : List Loc) (ls : Array Slot), ql_S D h0 s H locs h → lv_has ls 5 [] → qw_L_isInForce_16 Q rs0 xs1 js2 h → W p l e ({ frames := 14, cells := 1, slots := 6, locals := 188 } : Room) s m ([va_rf rp0, .int xp1, .int xp2, va_rf rp3] : List Value).toArray below meth c H locs 1 6 (vx_MQ below (ql_Q D h0 (ql_rI Q)) (ql_X D h0 X) ([va_rf rp0, .int xp1, .int xp2, va_rf rp3] : List Value).toArray s 1 6 (ql_A h0)) (F0 m 16 ls [.long js2, .int xs1, va_rf rs0]) := by
    intro rs0 xs1 js2 h H locs ls S hl w
    unfold qw_L_isInForce_16 at w
    refine ql_last C S dL_isInForce_16 w (fun h H locs S w => ?_)
    refine lv_goto (tgt := 24) C.1.1 C.1.2.1 dL_isInForce_17 (by decide) ?_
    refine lv_iconst (v := (0 : Int32)) C.1.1 C.1.2.1 dL_isInForce_24 (by decide) ?_
    exact ql_iret C S hr hlocks dL_isInForce_25 ⟨Nat.le_of_ble_eq_true rfl, Nat.le_of_ble_eq_true rfl⟩ w
  unfold qw_L_isInForce at w
  refine ql_aload_n (r := rp3) C dL_isInForce_0 rfl (lv_at hl 3 rfl) ?_
  refine lv_iconst (v := (0 : Int32)) C.1.1 C.1.2.1 dL_isInForce_1 (by decide) ?_
  refine ql_aload_n (r := rp0) C dL_isInForce_2 rfl (lv_at hl 0 rfl) ?_
  refine lv_iload_n C.1.1 C.1.2.1 dL_isInForce_3 rfl (lv_at hl 1 rfl) ?_
  refine lv_iload_n C.1.1 C.1.2.1 dL_isInForce_4 rfl (lv_at hl 2 rfl) ?_
  refine ql_HVI (As := [.int xp1, .int xp2]) (rest := [.int (0 : Int32), va_rf rp3]) C S hl qy_X11_isInForce qi_X11_isInForce qs_X11_isInForce gw_1022 (ci := 12) rfl w (fun b w => qm_X11_isInForce l hl9 D _ b xp1 xp2 _ _ w) rfl ⟨Nat.le_of_ble_eq_true rfl, Nat.le_of_ble_eq_true rfl⟩ ⟨rfl, rfl⟩ (by generalize rp3 = z0; cases z0 <;> exact Nat.le_of_ble_eq_true rfl) (fun b e9 => by cases e9; rfl) dL_isInForce_5 ⟨Nat.le_of_ble_eq_true rfl, Nat.le_of_ble_eq_true rfl⟩ (fun E ce q9 h H locs w S g1 g2 g3 => ?_) (fun x1 h H locs S w => ?_)
  · by_cases c9 : E = "java/util/NoSuchElementException"
    · replace w := ql_if w c9
      subst c9
      refine ql_catch C htab9 [] (0, 17, 20, 23) [] rfl (fun z hz => nomatch hz) rfl (by decide) gw_804 (by decide +kernel) g1 g2 g3 (tgt := 20) rfl ?_
      refine ql_astore (lv' := [(4, va_rf (some q9)), (0, va_rf rp0), (1, .int xp1), (2, .int xp2), (3, va_rf rp3)]) C dL_isInForce_20 hl (by decide) (by generalize rp3 = z9; cases z9 <;> rfl) (fun ls hl => ?_)
      refine lv_iconst (v := (1 : Int32)) C.1.1 C.1.2.1 dL_isInForce_22 (by decide) ?_
      exact ql_iret C S hr hlocks dL_isInForce_23 ⟨Nat.le_of_ble_eq_true rfl, Nat.le_of_ble_eq_true rfl⟩ w
    replace w := ql_ifn w c9
    clear c9
    exact w.elim
  refine W.cs (cells' := 1) (slots' := 6) rfl rfl ?_
  refine lv_if_eq (tgt := 15) C.1.1 C.1.2.1 dL_isInForce_8 (by decide) (fun c9 => ?_) (fun c9 => ?_)
  · replace w := ql_if w c9
    refine lv_lconst (v := (0 : Int64)) C.1.1 C.1.2.1 dL_isInForce_15 (by decide) ?_
    exact hB16 rp3 (0 : Int32) (0 : Int64) _ _ _ _ S (lv_sub hl [] rfl) w
  · replace w := ql_ifn w c9
    refine lv_lconst (v := (1 : Int64)) C.1.1 C.1.2.1 dL_isInForce_11 (by decide) ?_
    refine lv_goto (tgt := 16) C.1.1 C.1.2.1 dL_isInForce_12 (by decide) ?_
    exact hB16 rp3 (0 : Int32) (1 : Int64) _ _ _ _ S (lv_sub hl [] rfl) w
def qw_L_hasLapsed_15 (Q : Int32 → ql_H → Prop) (rs0 : Option Nat) (xs1 : Int32) (js2 : Int64) (h : ql_H) : Prop :=
ql_sJ h rs0 xs1 js2 fun h =>
Q (0 : Int32) h
def qw_L_hasLapsed (rp0 : Option Nat) (xp1 : Int32) (rp2 : Option Nat) (h : ql_H) (Q : Int32 → ql_H → Prop) : Prop :=
ql_rv h rp0 12 fun b1 => qw_X11_hasLapsed b1 xp1 h (fun x1 h =>
if x1 = 0 then (qw_L_hasLapsed_15 Q rp2 (0 : Int32) (0 : Int64) h) else (qw_L_hasLapsed_15 Q rp2 (0 : Int32) (1 : Int64) h)) (fun E h => if E = "java/util/NoSuchElementException" then (Q (1 : Int32) h) else False)
set_option maxHeartbeats 4000000 in
set_option maxRecDepth 100000 in
theorem qm_L_hasLapsed (l : Launch) (hl9 : l.stackTraces = false) (D : ql_D) (h0 : ql_H) (rp0 : Option Nat) (xp1 : Int32) (rp2 : Option Nat) (Q : Int32 → ql_H → Prop) (X : String → ql_H → Prop) (w : qw_L_hasLapsed rp0 xp1 rp2 h0 Q) : ql_MH D l yL_hasLapsed cL_hasLapsed 4 (some .int) [(0, 16, 19, 23)] ({ frames := 14, cells := 1, slots := 6, locals := 187 } : Room) h0 [va_rf rp0, .int xp1, va_rf rp2] (ql_rI Q) X 1 6 := by
  refine ql_ofWH (by decide) (by cases rp0 <;> cases rp2 <;> exact Nat.le_of_ble_eq_true rfl) ?_
  intro p e s m below meth c ls C hr hlocks hnm htab9 S hl
  rw [show lv_args 0 [va_rf rp0, .int xp1, va_rf rp2] = [(0, va_rf rp0), (1, .int xp1), (2, va_rf rp2)] from by cases rp0 <;> cases rp2 <;> rfl] at hl
  have hB15 : ∀ (rs0 : Option Nat) (xs1 : Int32) (js2 : Int64) (h : ql_H) (H : Heap) (locs : List Loc) (ls : Array Slot), ql_S D h0 s H locs h → lv_has ls 4 [] → qw_L_hasLapsed_15 Q rs0 xs1 js2 h → W p l e ({ frames := 14, cells := 1, slots := 6, locals := 187 } : Room) s m ([va_rf rp0, .int xp1, va_rf rp2] : List Value).toArray below meth c H locs 1 6 (vx_MQ below (ql_Q D h0 (ql_rI Q)) (ql_X D h0 X) ([va_rf rp0, .int xp1, va_rf rp2] : List Value).toArray s 1 6 (ql_A h0)) (F0 m 15 ls [.long js2, .int xs1, va_rf rs0]) := by
    intro rs0 xs1 js2 h H locs ls S hl w
    unfold qw_L_hasLapsed_15 at w
    refine ql_last C S dL_hasLapsed_15 w (fun h H locs S w => ?_)
    refine lv_goto (tgt := 22) C.1.1 C.1.2.1 dL_hasLapsed_16 (by decide) ?_
    refine lv_iconst (v := (0 : Int32)) C.1.1 C.1.2.1 dL_hasLapsed_22 (by decide) ?_
    exact ql_iret C S hr hlocks dL_hasLapsed_23 ⟨Nat.le_of_ble_eq_true rfl, Nat.le_of_ble_eq_true rfl⟩ w
  unfold qw_L_hasLapsed at w
  refine ql_aload_n (r := rp2) C dL_hasLapsed_0 rfl (lv_at hl 2 rfl) ?_
  refine lv_iconst (v := (0 : Int32)) C.1.1 C.1.2.1 dL_hasLapsed_1 (by decide) ?_
  refine ql_aload_n (r := rp0) C dL_hasLapsed_2 rfl (lv_at hl 0 rfl) ?_
  refine lv_iload_n C.1.1 C.1.2.1 dL_hasLapsed_3 rfl (lv_at hl 1 rfl) ?_
  refine ql_HVI (As := [.int xp1]) (rest := [.int (0 : Int32), va_rf rp2]) C S hl qy_X11_hasLapsed qi_X11_hasLapsed qs_X11_hasLapsed gw_1030 (ci := 12) rfl w (fun b w => qm_X11_hasLapsed l hl9 D _ b xp1 _ _ w) rfl ⟨Nat.le_of_ble_eq_true rfl, Nat.le_of_ble_eq_true rfl⟩ ⟨rfl, rfl⟩ (by generalize rp2 = z0; cases z0 <;> exact Nat.le_of_ble_eq_true rfl) (fun b e9 => by cases e9; rfl) dL_hasLapsed_4 ⟨Nat.le_of_ble_eq_true rfl, Nat.le_of_ble_eq_true rfl⟩ (fun E ce q9 h H locs w S g1 g2 g3 => ?_) (fun x1 h H locs S w => ?_)
  · by_cases c9 : E = "java/util/NoSuchElementException"
    · replace w := ql_if w c9
      subst c9
      refine ql_catch C htab9 [] (0, 16, 19, 23) [] rfl (fun z hz => nomatch hz) rfl (by decide) gw_804 (by decide +kernel) g1 g2 g3 (tgt := 19) rfl ?_
      refine ql_astore_n (lv' := [(3, va_rf (some q9)), (0, va_rf rp0), (1, .int xp1), (2, va_rf rp2)]) C dL_hasLapsed_19 rfl hl (by decide) (by generalize rp2 = z9; cases z9 <;> rfl) (fun ls hl => ?_)
      refine lv_iconst (v := (1 : Int32)) C.1.1 C.1.2.1 dL_hasLapsed_20 (by decide) ?_
      exact ql_iret C S hr hlocks dL_hasLapsed_21 ⟨Nat.le_of_ble_eq_true rfl, Nat.le_of_ble_eq_true rfl⟩ w
    replace w := ql_ifn w c9
    clear c9
    exact w.elim
  refine W.cs (cells' := 1) (slots' := 6) rfl rfl ?_
  refine lv_if_eq (tgt := 14) C.1.1 C.1.2.1 dL_hasLapsed_7 (by decide) (fun c9 => ?_) (fun c9 => ?_)
  · replace w := ql_if w c9
    refine lv_lconst (v := (0 : Int64)) C.1.1 C.1.2.1 dL_hasLapsed_14 (by decide) ?_
    exact hB15 rp2 (0 : Int32) (0 : Int64) _ _ _ _ S (lv_sub hl [] rfl) w
  · replace w := ql_ifn w c9
    refine lv_lconst (v := (1 : Int64)) C.1.1 C.1.2.1 dL_hasLapsed_10 (by decide) ?_
    refine lv_goto (tgt := 15) C.1.1 C.1.2.1 dL_hasLapsed_11 (by decide) ?_
    exact hB15 rp2 (0 : Int32) (1 : Int64) _ _ _ _ S (lv_sub hl [] rfl) w
def qw_L_daysUntilLapsed (rp0 : Option Nat) (xp1 : Int32) (rp2 : Option Nat) (h : ql_H) (Q : Int32 → ql_H → Prop) : Prop :=
ql_rv h rp0 12 fun b1 => qw_X11_daysUntilLapsed b1 xp1 h (fun x1 h =>
ql_sJ h rp2 (0 : Int32) x1.toInt64 fun h =>
Q (0 : Int32) h) (fun E h => if E = "java/util/NoSuchElementException" then (Q (1 : Int32) h) else False)
set_option maxHeartbeats 4000000 in
set_option maxRecDepth 100000 in
theorem qm_L_daysUntilLapsed (l : Launch) (hl9 : l.stackTraces = false) (D : ql_D) (h0 : ql_H) (rp0 : Option Nat) (xp1 : Int32) (rp2 : Option Nat) (Q : Int32 → ql_H → Prop) (X : String → ql_H → Prop) (w : qw_L_daysUntilLapsed rp0 xp1 rp2 h0 Q) : ql_MH D l yL_daysUntilLapsed cL_daysUntilLapsed 4 (some .int) [(0, 9, 12, 23)] ({ frames := 16, cells := 2, slots := 12, locals := 218 } : Room) h0 [va_rf rp0, .int xp1, va_rf rp2] (ql_rI Q) X 2 12 := by
  refine ql_ofWH (by decide) (by cases rp0 <;> cases rp2 <;> exact Nat.le_of_ble_eq_true rfl) ?_
  intro p e s m below meth c ls C hr hlocks hnm htab9 S hl
  rw [show lv_args 0 [va_rf rp0, .int xp1, va_rf rp2] = [(0, va_rf rp0), (1, .int xp1), (2, va_rf rp2)] from by cases rp0 <;> cases rp2 <;> rfl] at hl
  unfold qw_L_daysUntilLapsed at w
  refine ql_aload_n (r := rp2) C dL_daysUntilLapsed_0 rfl (lv_at hl 2 rfl) ?_
  refine lv_iconst (v := (0 : Int32)) C.1.1 C.1.2.1 dL_daysUntilLapsed_1 (by decide) ?_
  refine ql_aload_n (r := rp0) C dL_daysUntilLapsed_2 rfl (lv_at hl 0 rfl) ?_
  refine lv_iload_n C.1.1 C.1.2.1 dL_daysUntilLapsed_3 rfl (lv_at hl 1 rfl) ?_
  refine ql_HVI (As := [.int xp1]) (rest := [.int (0 : Int32), va_rf rp2]) C S hl qy_X11_daysUntilLapsed qi_X11_daysUntilLapsed qs_X11_daysUntilLapsed gw_1038 (ci := 12) rfl w (fun b w => qm_X11_daysUntilLapsed l hl9 D _ b xp1 _ _ w) rfl ⟨Nat.le_of_ble_eq_true rfl, Nat.le_of_ble_eq_true rfl⟩ ⟨rfl, rfl⟩ (by generalize rp2 = z0; cases z0 <;> exact Nat.le_of_ble_eq_true rfl) (fun b e9 => by cases e9; rfl) dL_daysUntilLapsed_4 ⟨Nat.le_of_ble_eq_true rfl, Nat.le_of_ble_eq_true rfl⟩ (fun E ce q9 h H locs w S g1 g2 g3 => ?_) (fun x1 h H locs S w => ?_)
  · by_cases c9 : E = "java/util/NoSuchElementException"
    · replace w := ql_if w c9
      subst c9
      refine ql_catch C htab9 [] (0, 9, 12, 23) [] rfl (fun z hz => nomatch hz) rfl (by decide) gw_804 (by decide +kernel) g1 g2 g3 (tgt := 12) rfl ?_
      refine ql_astore_n (lv' := [(3, va_rf (some q9)), (0, va_rf rp0), (1, .int xp1), (2, va_rf rp2)]) C dL_daysUntilLapsed_12 rfl hl (by decide) (by generalize rp2 = z9; cases z9 <;> rfl) (fun ls hl => ?_)
      refine lv_iconst (v := (1 : Int32)) C.1.1 C.1.2.1 dL_daysUntilLapsed_13 (by decide) ?_
      exact ql_iret C S hr hlocks dL_daysUntilLapsed_14 ⟨Nat.le_of_ble_eq_true rfl, Nat.le_of_ble_eq_true rfl⟩ w
    replace w := ql_ifn w c9
    clear c9
    exact w.elim
  refine W.cs (cells' := 2) (slots' := 12) rfl rfl ?_
  refine lv_i2l C.1.1 C.1.2.1 dL_daysUntilLapsed_7 rfl ?_
  refine ql_last C S dL_daysUntilLapsed_8 w (fun h H locs S w => ?_)
  refine lv_goto (tgt := 15) C.1.1 C.1.2.1 dL_daysUntilLapsed_9 (by decide) ?_
  refine lv_iconst (v := (0 : Int32)) C.1.1 C.1.2.1 dL_daysUntilLapsed_15 (by decide) ?_
  exact ql_iret C S hr hlocks dL_daysUntilLapsed_16 ⟨Nat.le_of_ble_eq_true rfl, Nat.le_of_ble_eq_true rfl⟩ w
def qw_L_length (rp0 : Option Nat) (xp1 : Int32) (rp2 : Option Nat) (h : ql_H) (Q : Int32 → ql_H → Prop) : Prop :=
ql_rv h rp0 12 fun b1 => qw_X11_length b1 xp1 h (fun x1 h =>
ql_sJ h rp2 (0 : Int32) x1.toInt64 fun h =>
Q (0 : Int32) h) (fun E h => if E = "java/util/NoSuchElementException" then (Q (1 : Int32) h) else False)
set_option maxHeartbeats 4000000 in
set_option maxRecDepth 100000 in
theorem qm_L_length (l : Launch) (hl9 : l.stackTraces = false) (D : ql_D) (h0 : ql_H) (rp0 : Option Nat) (xp1 : Int32) (rp2 : Option Nat) (Q : Int32 → ql_H → Prop) (X : String → ql_H → Prop) (w : qw_L_length rp0 xp1 rp2 h0 Q) : ql_MH D l yL_length cL_length 4 (some .int) [(0, 9, 12, 23)] ({ frames := 14, cells := 1, slots := 6, locals := 187 } : Room) h0 [va_rf rp0, .int xp1, va_rf rp2] (ql_rI Q) X 1 6 := by
  refine ql_ofWH (by decide) (by cases rp0 <;> cases rp2 <;> exact Nat.le_of_ble_eq_true rfl) ?_
  intro p e s m below meth c ls C hr hlocks hnm htab9 S hl
  rw [show lv_args 0 [va_rf rp0, .int xp1, va_rf rp2] = [(0, va_rf rp0), (1, .int xp1), (2, va_rf rp2)] from by cases rp0 <;> cases rp2 <;> rfl] at hl
  unfold qw_L_length at w
  refine ql_aload_n (r := rp2) C dL_length_0 rfl (lv_at hl 2 rfl) ?_
  refine lv_iconst (v := (0 : Int32)) C.1.1 C.1.2.1 dL_length_1 (by decide) ?_
  refine ql_aload_n (r := rp0) C dL_length_2 rfl (lv_at hl 0 rfl) ?_
  refine lv_iload_n C.1.1 C.1.2.1 dL_length_3 rfl (lv_at hl 1 rfl) ?_
  refine ql_HVI (As := [.int xp1]) (rest := [.int (0 : Int32), va_rf rp2]) C S hl qy_X11_length qi_X11_length qs_X11_length gw_1045 (ci := 12) rfl w (fun b w => qm_X11_length l hl9 D _ b xp1 _ _ w) rfl ⟨Nat.le_of_ble_eq_true rfl, Nat.le_of_ble_eq_true rfl⟩ ⟨rfl, rfl⟩ (by generalize rp2 = z0; cases z0 <;> exact Nat.le_of_ble_eq_true rfl) (fun b e9 => by cases e9; rfl) dL_length_4 ⟨Nat.le_of_ble_eq_true rfl, Nat.le_of_ble_eq_true rfl⟩ (fun E ce q9 h H locs w S g1 g2 g3 => ?_) (fun x1 h H locs S w => ?_)
  · by_cases c9 : E = "java/util/NoSuchElementException"
    · replace w := ql_if w c9
      subst c9
      refine ql_catch C htab9 [] (0, 9, 12, 23) [] rfl (fun z hz => nomatch hz) rfl (by decide) gw_804 (by decide +kernel) g1 g2 g3 (tgt := 12) rfl ?_
      refine ql_astore_n (lv' := [(3, va_rf (some q9)), (0, va_rf rp0), (1, .int xp1), (2, va_rf rp2)]) C dL_length_12 rfl hl (by decide) (by generalize rp2 = z9; cases z9 <;> rfl) (fun ls hl => ?_)
      refine lv_iconst (v := (1 : Int32)) C.1.1 C.1.2.1 dL_length_13 (by decide) ?_
      exact ql_iret C S hr hlocks dL_length_14 ⟨Nat.le_of_ble_eq_true rfl, Nat.le_of_ble_eq_true rfl⟩ w
    replace w := ql_ifn w c9
    clear c9
    exact w.elim
  refine W.cs (cells' := 1) (slots' := 6) rfl rfl ?_
  refine lv_i2l C.1.1 C.1.2.1 dL_length_7 rfl ?_
  refine ql_last C S dL_length_8 w (fun h H locs S w => ?_)
  refine lv_goto (tgt := 15) C.1.1 C.1.2.1 dL_length_9 (by decide) ?_
  refine lv_iconst (v := (0 : Int32)) C.1.1 C.1.2.1 dL_length_15 (by decide) ?_
  exact ql_iret C S hr hlocks dL_length_16 ⟨Nat.le_of_ble_eq_true rfl, Nat.le_of_ble_eq_true rfl⟩ w
def qw_L_noteAt (rp0 : Option Nat) (xp1 : Int32) (xp2 : Int32) (rp3 : Option Nat) (h : ql_H) (Q : Int32 → ql_H → Prop) : Prop :=
ql_rv h rp0 12 fun b1 => qw_X11_noteAt b1 xp1 xp2 h (fun x1 h =>
ql_sJ h rp3 (0 : Int32) x1.toInt64 fun h =>
Q (0 : Int32) h) (fun E h => if E = "java/util/NoSuchElementException" then (Q (1 : Int32) h) else if E = "java/lang/IndexOutOfBoundsException" then (Q (2 : Int32) h) else False)
set_option maxHeartbeats 4000000 in
set_option maxRecDepth 100000 in
theorem qm_L_noteAt (l : Launch) (hl9 : l.stackTraces = false) (D : ql_D) (h0 : ql_H) (rp0 : Option Nat) (xp1 : Int32) (xp2 : Int32) (rp3 : Option Nat) (Q : Int32 → ql_H → Prop) (X : String → ql_H → Prop) (w : qw_L_noteAt rp0 xp1 xp2 rp3 h0 Q) : ql_MH D l yL_noteAt cL_noteAt 5 (some .int) [(0, 10, 13, 23), (0, 10, 17, 25)] ({ frames := 14, cells := 2, slots := 12, locals := 188 } : Room) h0 [va_rf rp0, .int xp1, .int xp2, va_rf rp3] (ql_rI Q) X 2 12 := by
  refine ql_ofWH (by decide) (by cases rp0 <;> cases rp3 <;> exact Nat.le_of_ble_eq_true rfl) ?_
  intro p e s m below meth c ls C hr hlocks hnm htab9 S hl
  rw [show lv_args 0 [va_rf rp0, .int xp1, .int xp2, va_rf rp3] = [(0, va_rf rp0), (1, .int xp1), (2, .int xp2), (3, va_rf rp3)] from by cases rp0 <;> cases rp3 <;> rfl] at hl
  unfold qw_L_noteAt at w
  refine ql_aload_n (r := rp3) C dL_noteAt_0 rfl (lv_at hl 3 rfl) ?_
  refine lv_iconst (v := (0 : Int32)) C.1.1 C.1.2.1 dL_noteAt_1 (by decide) ?_
  refine ql_aload_n (r := rp0) C dL_noteAt_2 rfl (lv_at hl 0 rfl) ?_
  refine lv_iload_n C.1.1 C.1.2.1 dL_noteAt_3 rfl (lv_at hl 1 rfl) ?_
  refine lv_iload_n C.1.1 C.1.2.1 dL_noteAt_4 rfl (lv_at hl 2 rfl) ?_
  refine ql_HVI (As := [.int xp1, .int xp2]) (rest := [.int (0 : Int32), va_rf rp3]) C S hl qy_X11_noteAt qi_X11_noteAt qs_X11_noteAt gw_1053 (ci := 12) rfl w (fun b w => qm_X11_noteAt l hl9 D _ b xp1 xp2 _ _ w) rfl ⟨Nat.le_of_ble_eq_true rfl, Nat.le_of_ble_eq_true rfl⟩ ⟨rfl, rfl⟩ (by generalize rp3 = z0; cases z0 <;> exact Nat.le_of_ble_eq_true rfl) (fun b e9 => by cases e9; rfl) dL_noteAt_5 ⟨Nat.le_of_ble_eq_true rfl, Nat.le_of_ble_eq_true rfl⟩ (fun E ce q9 h H locs w S g1 g2 g3 => ?_) (fun x1 h H locs S w => ?_)
  · by_cases c9 : E = "java/util/NoSuchElementException"
    · replace w := ql_if w c9
      subst c9
      refine ql_catch C htab9 [] (0, 10, 13, 23) [(0, 10, 17, 25)] rfl (fun z hz => nomatch hz) rfl (by decide) gw_804 (by decide +kernel) g1 g2 g3 (tgt := 13) rfl ?_
      refine ql_astore (lv' := [(4, va_rf (some q9)), (0, va_rf rp0), (1, .int xp1), (2, .int xp2), (3, va_rf rp3)]) C dL_noteAt_13 hl (by decide) (by generalize rp3 = z9; cases z9 <;> rfl) (fun ls hl => ?_)
      refine lv_iconst (v := (1 : Int32)) C.1.1 C.1.2.1 dL_noteAt_15 (by decide) ?_
      exact ql_iret C S hr hlocks dL_noteAt_16 ⟨Nat.le_of_ble_eq_true rfl, Nat.le_of_ble_eq_true rfl⟩ w
    replace w := ql_ifn w c9
    clear c9
    by_cases c9 : E = "java/lang/IndexOutOfBoundsException"
    · replace w := ql_if w c9
      subst c9
      refine ql_catch C htab9 [(0, 10, 13, 23)] (0, 10, 17, 25) [] rfl (fun z hz => by rcases (show z = (0, 10, 13, 23) by simpa using hz) with rfl <;> first | exact ⟨by decide, _, gw_804, by decide +kernel⟩) rfl (by decide) gw_805 (by decide +kernel) g1 g2 g3 (tgt := 17) rfl ?_
      refine ql_astore (lv' := [(4, va_rf (some q9)), (0, va_rf rp0), (1, .int xp1), (2, .int xp2), (3, va_rf rp3)]) C dL_noteAt_17 hl (by decide) (by generalize rp3 = z9; cases z9 <;> rfl) (fun ls hl => ?_)
      refine lv_iconst (v := (2 : Int32)) C.1.1 C.1.2.1 dL_noteAt_19 (by decide) ?_
      exact ql_iret C S hr hlocks dL_noteAt_20 ⟨Nat.le_of_ble_eq_true rfl, Nat.le_of_ble_eq_true rfl⟩ w
    replace w := ql_ifn w c9
    clear c9
    exact w.elim
  refine W.cs (cells' := 2) (slots' := 12) rfl rfl ?_
  refine lv_i2l C.1.1 C.1.2.1 dL_noteAt_8 rfl ?_
  refine ql_last C S dL_noteAt_9 w (fun h H locs S w => ?_)
  refine lv_goto (tgt := 21) C.1.1 C.1.2.1 dL_noteAt_10 (by decide) ?_
  refine lv_iconst (v := (0 : Int32)) C.1.1 C.1.2.1 dL_noteAt_21 (by decide) ?_
  exact ql_iret C S hr hlocks dL_noteAt_22 ⟨Nat.le_of_ble_eq_true rfl, Nat.le_of_ble_eq_true rfl⟩ w
def qw_L_versionCount (rp0 : Option Nat) (xp1 : Int32) (rp2 : Option Nat) (h : ql_H) (Q : Int32 → ql_H → Prop) : Prop :=
ql_rv h rp0 12 fun b1 => qw_X11_versionCount b1 xp1 h (fun x1 h =>
ql_sJ h rp2 (0 : Int32) x1.toInt64 fun h =>
Q (0 : Int32) h) (fun E h => if E = "java/util/NoSuchElementException" then (Q (1 : Int32) h) else False)
set_option maxHeartbeats 4000000 in
set_option maxRecDepth 100000 in
theorem qm_L_versionCount (l : Launch) (hl9 : l.stackTraces = false) (D : ql_D) (h0 : ql_H) (rp0 : Option Nat) (xp1 : Int32) (rp2 : Option Nat) (Q : Int32 → ql_H → Prop) (X : String → ql_H → Prop) (w : qw_L_versionCount rp0 xp1 rp2 h0 Q) : ql_MH D l yL_versionCount cL_versionCount 4 (some .int) [(0, 9, 12, 23)] ({ frames := 14, cells := 1, slots := 6, locals := 187 } : Room) h0 [va_rf rp0, .int xp1, va_rf rp2] (ql_rI Q) X 1 6 := by
  refine ql_ofWH (by decide) (by cases rp0 <;> cases rp2 <;> exact Nat.le_of_ble_eq_true rfl) ?_
  intro p e s m below meth c ls C hr hlocks hnm htab9 S hl
  rw [show lv_args 0 [va_rf rp0, .int xp1, va_rf rp2] = [(0, va_rf rp0), (1, .int xp1), (2, va_rf rp2)] from by cases rp0 <;> cases rp2 <;> rfl] at hl
  unfold qw_L_versionCount at w
  refine ql_aload_n (r := rp2) C dL_versionCount_0 rfl (lv_at hl 2 rfl) ?_
  refine lv_iconst (v := (0 : Int32)) C.1.1 C.1.2.1 dL_versionCount_1 (by decide) ?_
  refine ql_aload_n (r := rp0) C dL_versionCount_2 rfl (lv_at hl 0 rfl) ?_
  refine lv_iload_n C.1.1 C.1.2.1 dL_versionCount_3 rfl (lv_at hl 1 rfl) ?_
  refine ql_HVI (As := [.int xp1]) (rest := [.int (0 : Int32), va_rf rp2]) C S hl qy_X11_versionCount qi_X11_versionCount qs_X11_versionCount gw_1064 (ci := 12) rfl w (fun b w => qm_X11_versionCount l hl9 D _ b xp1 _ _ w) rfl ⟨Nat.le_of_ble_eq_true rfl, Nat.le_of_ble_eq_true rfl⟩ ⟨rfl, rfl⟩ (by generalize rp2 = z0; cases z0 <;> exact Nat.le_of_ble_eq_true rfl) (fun b e9 => by cases e9; rfl) dL_versionCount_4 ⟨Nat.le_of_ble_eq_true rfl, Nat.le_of_ble_eq_true rfl⟩ (fun E ce q9 h H locs w S g1 g2 g3 => ?_) (fun x1 h H locs S w => ?_)
  · by_cases c9 : E = "java/util/NoSuchElementException"
    · replace w := ql_if w c9
      subst c9
      refine ql_catch C htab9 [] (0, 9, 12, 23) [] rfl (fun z hz => nomatch hz) rfl (by decide) gw_804 (by decide +kernel) g1 g2 g3 (tgt := 12) rfl ?_
      refine ql_astore_n (lv' := [(3, va_rf (some q9)), (0, va_rf rp0), (1, .int xp1), (2, va_rf rp2)]) C dL_versionCount_12 rfl hl (by decide) (by generalize rp2 = z9; cases z9 <;> rfl) (fun ls hl => ?_)
      refine lv_iconst (v := (1 : Int32)) C.1.1 C.1.2.1 dL_versionCount_13 (by decide) ?_
      exact ql_iret C S hr hlocks dL_versionCount_14 ⟨Nat.le_of_ble_eq_true rfl, Nat.le_of_ble_eq_true rfl⟩ w
    replace w := ql_ifn w c9
    clear c9
    exact w.elim
  refine W.cs (cells' := 1) (slots' := 6) rfl rfl ?_
  refine lv_i2l C.1.1 C.1.2.1 dL_versionCount_7 rfl ?_
  refine ql_last C S dL_versionCount_8 w (fun h H locs S w => ?_)
  refine lv_goto (tgt := 15) C.1.1 C.1.2.1 dL_versionCount_9 (by decide) ?_
  refine lv_iconst (v := (0 : Int32)) C.1.1 C.1.2.1 dL_versionCount_15 (by decide) ?_
  exact ql_iret C S hr hlocks dL_versionCount_16 ⟨Nat.le_of_ble_eq_true rfl, Nat.le_of_ble_eq_true rfl⟩ w
def qw_L_lengthOn (rp0 : Option Nat) (xp1 : Int32) (xp2 : Int32) (rp3 : Option Nat) (h : ql_H) (Q : Int32 → ql_H → Prop) : Prop :=
ql_rv h rp0 12 fun b1 => qw_X11_lengthOn b1 xp1 xp2 h (fun x1 h =>
ql_sJ h rp3 (0 : Int32) x1.toInt64 fun h =>
Q (0 : Int32) h) (fun E h => if E = "java/util/NoSuchElementException" then (Q (1 : Int32) h) else False)
set_option maxHeartbeats 4000000 in
set_option maxRecDepth 100000 in
theorem qm_L_lengthOn (l : Launch) (hl9 : l.stackTraces = false) (D : ql_D) (h0 : ql_H) (rp0 : Option Nat) (xp1 : Int32) (xp2 : Int32) (rp3 : Option Nat) (Q : Int32 → ql_H → Prop) (X : String → ql_H → Prop) (w : qw_L_lengthOn rp0 xp1 xp2 rp3 h0 Q) : ql_MH D l yL_lengthOn cL_lengthOn 5 (some .int) [(0, 10, 13, 23)] ({ frames := 14, cells := 2, slots := 12, locals := 188 } : Room) h0 [va_rf rp0, .int xp1, .int xp2, va_rf rp3] (ql_rI Q) X 2 12 := by
  refine ql_ofWH (by decide) (by cases rp0 <;> cases rp3 <;> exact Nat.le_of_ble_eq_true rfl) ?_
  intro p e s m below meth c ls C hr hlocks hnm htab9 S hl
  rw [show lv_args 0 [va_rf rp0, .int xp1, .int xp2, va_rf rp3] = [(0, va_rf rp0), (1, .int xp1), (2, .int xp2), (3, va_rf rp3)] from by cases rp0 <;> cases rp3 <;> rfl] at hl
  unfold qw_L_lengthOn at w
  refine ql_aload_n (r := rp3) C dL_lengthOn_0 rfl (lv_at hl 3 rfl) ?_
  refine lv_iconst (v := (0 : Int32)) C.1.1 C.1.2.1 dL_lengthOn_1 (by decide) ?_
  refine ql_aload_n (r := rp0) C dL_lengthOn_2 rfl (lv_at hl 0 rfl) ?_
  refine lv_iload_n C.1.1 C.1.2.1 dL_lengthOn_3 rfl (lv_at hl 1 rfl) ?_
  refine lv_iload_n C.1.1 C.1.2.1 dL_lengthOn_4 rfl (lv_at hl 2 rfl) ?_
  refine ql_HVI (As := [.int xp1, .int xp2]) (rest := [.int (0 : Int32), va_rf rp3]) C S hl qy_X11_lengthOn qi_X11_lengthOn qs_X11_lengthOn gw_1072 (ci := 12) rfl w (fun b w => qm_X11_lengthOn l hl9 D _ b xp1 xp2 _ _ w) rfl ⟨Nat.le_of_ble_eq_true rfl, Nat.le_of_ble_eq_true rfl⟩ ⟨rfl, rfl⟩ (by generalize rp3 = z0; cases z0 <;> exact Nat.le_of_ble_eq_true rfl) (fun b e9 => by cases e9; rfl) dL_lengthOn_5 ⟨Nat.le_of_ble_eq_true rfl, Nat.le_of_ble_eq_true rfl⟩ (fun E ce q9 h H locs w S g1 g2 g3 => ?_) (fun x1 h H locs S w => ?_)
  · by_cases c9 : E = "java/util/NoSuchElementException"
    · replace w := ql_if w c9
      subst c9
      refine ql_catch C htab9 [] (0, 10, 13, 23) [] rfl (fun z hz => nomatch hz) rfl (by decide) gw_804 (by decide +kernel) g1 g2 g3 (tgt := 13) rfl ?_
      refine ql_astore (lv' := [(4, va_rf (some q9)), (0, va_rf rp0), (1, .int xp1), (2, .int xp2), (3, va_rf rp3)]) C dL_lengthOn_13 hl (by decide) (by generalize rp3 = z9; cases z9 <;> rfl) (fun ls hl => ?_)
      refine lv_iconst (v := (1 : Int32)) C.1.1 C.1.2.1 dL_lengthOn_15 (by decide) ?_
      exact ql_iret C S hr hlocks dL_lengthOn_16 ⟨Nat.le_of_ble_eq_true rfl, Nat.le_of_ble_eq_true rfl⟩ w
    replace w := ql_ifn w c9
    clear c9
    exact w.elim
  refine W.cs (cells' := 2) (slots' := 12) rfl rfl ?_
  refine lv_i2l C.1.1 C.1.2.1 dL_lengthOn_8 rfl ?_
  refine ql_last C S dL_lengthOn_9 w (fun h H locs S w => ?_)
  refine lv_goto (tgt := 17) C.1.1 C.1.2.1 dL_lengthOn_10 (by decide) ?_
  refine lv_iconst (v := (0 : Int32)) C.1.1 C.1.2.1 dL_lengthOn_17 (by decide) ?_
  exact ql_iret C S hr hlocks dL_lengthOn_18 ⟨Nat.le_of_ble_eq_true rfl, Nat.le_of_ble_eq_true rfl⟩ w
def qw_L_noteOn (rp0 : Option Nat) (xp1 : Int32) (xp2 : Int32) (xp3 : Int32) (rp4 : Option Nat) (h : ql_H) (Q : Int32 → ql_H → Prop) : Prop :=
ql_rv h rp0 12 fun b1 => qw_X11_noteOn b1 xp1 xp2 xp3 h (fun x1 h =>
ql_sJ h rp4 (0 : Int32) x1.toInt64 fun h =>
Q (0 : Int32) h) (fun E h => if E = "java/util/NoSuchElementException" then (Q (1 : Int32) h) else if E = "java/lang/IndexOutOfBoundsException" then (Q (2 : Int32) h) else False)
set_option maxHeartbeats 4000000 in
set_option maxRecDepth 100000 in
theorem qm_L_noteOn (l : Launch) (hl9 : l.stackTraces = false) (D : ql_D) (h0 : ql_H) (rp0 : Option Nat) (xp1 : Int32) (xp2 : Int32) (xp3 : Int32) (rp4 : Option Nat) (Q : Int32 → ql_H → Prop) (X : String → ql_H → Prop) (w : qw_L_noteOn rp0 xp1 xp2 xp3 rp4 h0 Q) : ql_MH D l yL_noteOn cL_noteOn 6 (some .int) [(0, 12, 15, 23), (0, 12, 19, 25)] ({ frames := 14, cells := 3, slots := 18, locals := 189 } : Room) h0 [va_rf rp0, .int xp1, .int xp2, .int xp3, va_rf rp4] (ql_rI Q) X 3 18 := by
  refine ql_ofWH (by decide) (by cases rp0 <;> cases rp4 <;> exact Nat.le_of_ble_eq_true rfl) ?_
  intro p e s m below meth c ls C hr hlocks hnm htab9 S hl
  rw [show lv_args 0 [va_rf rp0, .int xp1, .int xp2, .int xp3, va_rf rp4] = [(0, va_rf rp0), (1, .int xp1), (2, .int xp2), (3, .int xp3), (4, va_rf rp4)] from by cases rp0 <;> cases rp4 <;> rfl] at hl
  unfold qw_L_noteOn at w
  refine ql_aload (r := rp4) C dL_noteOn_0 (lv_at hl 4 rfl) ?_
  refine lv_iconst (v := (0 : Int32)) C.1.1 C.1.2.1 dL_noteOn_2 (by decide) ?_
  refine ql_aload_n (r := rp0) C dL_noteOn_3 rfl (lv_at hl 0 rfl) ?_
  refine lv_iload_n C.1.1 C.1.2.1 dL_noteOn_4 rfl (lv_at hl 1 rfl) ?_
  refine lv_iload_n C.1.1 C.1.2.1 dL_noteOn_5 rfl (lv_at hl 2 rfl) ?_
  refine lv_iload_n C.1.1 C.1.2.1 dL_noteOn_6 rfl (lv_at hl 3 rfl) ?_
  refine ql_HVI (As := [.int xp1, .int xp2, .int xp3]) (rest := [.int (0 : Int32), va_rf rp4]) C S hl qy_X11_noteOn qi_X11_noteOn qs_X11_noteOn gw_1082 (ci := 12) rfl w (fun b w => qm_X11_noteOn l hl9 D _ b xp1 xp2 xp3 _ _ w) rfl ⟨Nat.le_of_ble_eq_true rfl, Nat.le_of_ble_eq_true rfl⟩ ⟨rfl, rfl⟩ (by generalize rp4 = z0; cases z0 <;> exact Nat.le_of_ble_eq_true rfl) (fun b e9 => by cases e9; rfl) dL_noteOn_7 ⟨Nat.le_of_ble_eq_true rfl, Nat.le_of_ble_eq_true rfl⟩ (fun E ce q9 h H locs w S g1 g2 g3 => ?_) (fun x1 h H locs S w => ?_)
  · by_cases c9 : E = "java/util/NoSuchElementException"
    · replace w := ql_if w c9
      subst c9
      refine ql_catch C htab9 [] (0, 12, 15, 23) [(0, 12, 19, 25)] rfl (fun z hz => nomatch hz) rfl (by decide) gw_804 (by decide +kernel) g1 g2 g3 (tgt := 15) rfl ?_
      refine ql_astore (lv' := [(5, va_rf (some q9)), (0, va_rf rp0), (1, .int xp1), (2, .int xp2), (3, .int xp3), (4, va_rf rp4)]) C dL_noteOn_15 hl (by decide) (by generalize rp4 = z9; cases z9 <;> rfl) (fun ls hl => ?_)
      refine lv_iconst (v := (1 : Int32)) C.1.1 C.1.2.1 dL_noteOn_17 (by decide) ?_
      exact ql_iret C S hr hlocks dL_noteOn_18 ⟨Nat.le_of_ble_eq_true rfl, Nat.le_of_ble_eq_true rfl⟩ w
    replace w := ql_ifn w c9
    clear c9
    by_cases c9 : E = "java/lang/IndexOutOfBoundsException"
    · replace w := ql_if w c9
      subst c9
      refine ql_catch C htab9 [(0, 12, 15, 23)] (0, 12, 19, 25) [] rfl (fun z hz => by rcases (show z = (0, 12, 15, 23) by simpa using hz) with rfl <;> first | exact ⟨by decide, _, gw_804, by decide +kernel⟩) rfl (by decide) gw_805 (by decide +kernel) g1 g2 g3 (tgt := 19) rfl ?_
      refine ql_astore (lv' := [(5, va_rf (some q9)), (0, va_rf rp0), (1, .int xp1), (2, .int xp2), (3, .int xp3), (4, va_rf rp4)]) C dL_noteOn_19 hl (by decide) (by generalize rp4 = z9; cases z9 <;> rfl) (fun ls hl => ?_)
      refine lv_iconst (v := (2 : Int32)) C.1.1 C.1.2.1 dL_noteOn_21 (by decide) ?_
      exact ql_iret C S hr hlocks dL_noteOn_22 ⟨Nat.le_of_ble_eq_true rfl, Nat.le_of_ble_eq_true rfl⟩ w
    replace w := ql_ifn w c9
    clear c9
    exact w.elim
  refine W.cs (cells' := 3) (slots' := 18) rfl rfl ?_
  refine lv_i2l C.1.1 C.1.2.1 dL_noteOn_10 rfl ?_
  refine ql_last C S dL_noteOn_11 w (fun h H locs S w => ?_)
  refine lv_goto (tgt := 23) C.1.1 C.1.2.1 dL_noteOn_12 (by decide) ?_
  refine lv_iconst (v := (0 : Int32)) C.1.1 C.1.2.1 dL_noteOn_23 (by decide) ?_
  exact ql_iret C S hr hlocks dL_noteOn_24 ⟨Nat.le_of_ble_eq_true rfl, Nat.le_of_ble_eq_true rfl⟩ w
def qw_L_difference (rp0 : Option Nat) (xp1 : Int32) (xp2 : Int32) (xp3 : Int32) (rp4 : Option Nat) (h : ql_H) (Q : Int32 → ql_H → Prop) : Prop :=
ql_rv h rp0 12 fun b1 => qw_X11_difference b1 xp1 xp2 xp3 h (fun x1 h =>
ql_sJ h rp4 (0 : Int32) x1.toInt64 fun h =>
Q (0 : Int32) h) (fun E h => if E = "java/util/NoSuchElementException" then (Q (1 : Int32) h) else False)
set_option maxHeartbeats 4000000 in
set_option maxRecDepth 100000 in
theorem qm_L_difference (l : Launch) (hl9 : l.stackTraces = false) (D : ql_D) (h0 : ql_H) (rp0 : Option Nat) (xp1 : Int32) (xp2 : Int32) (xp3 : Int32) (rp4 : Option Nat) (Q : Int32 → ql_H → Prop) (X : String → ql_H → Prop) (w : qw_L_difference rp0 xp1 xp2 xp3 rp4 h0 Q) : ql_MH D l yL_difference cL_difference 6 (some .int) [(0, 12, 15, 23)] ({ frames := 14, cells := 3, slots := 18, locals := 190 } : Room) h0 [va_rf rp0, .int xp1, .int xp2, .int xp3, va_rf rp4] (ql_rI Q) X 3 18 := by
  refine ql_ofWH (by decide) (by cases rp0 <;> cases rp4 <;> exact Nat.le_of_ble_eq_true rfl) ?_
  intro p e s m below meth c ls C hr hlocks hnm htab9 S hl
  rw [show lv_args 0 [va_rf rp0, .int xp1, .int xp2, .int xp3, va_rf rp4] = [(0, va_rf rp0), (1, .int xp1), (2, .int xp2), (3, .int xp3), (4, va_rf rp4)] from by cases rp0 <;> cases rp4 <;> rfl] at hl
  unfold qw_L_difference at w
  refine ql_aload (r := rp4) C dL_difference_0 (lv_at hl 4 rfl) ?_
  refine lv_iconst (v := (0 : Int32)) C.1.1 C.1.2.1 dL_difference_2 (by decide) ?_
  refine ql_aload_n (r := rp0) C dL_difference_3 rfl (lv_at hl 0 rfl) ?_
  refine lv_iload_n C.1.1 C.1.2.1 dL_difference_4 rfl (lv_at hl 1 rfl) ?_
  refine lv_iload_n C.1.1 C.1.2.1 dL_difference_5 rfl (lv_at hl 2 rfl) ?_
  refine lv_iload_n C.1.1 C.1.2.1 dL_difference_6 rfl (lv_at hl 3 rfl) ?_
  refine ql_HVI (As := [.int xp1, .int xp2, .int xp3]) (rest := [.int (0 : Int32), va_rf rp4]) C S hl qy_X11_difference qi_X11_difference qs_X11_difference gw_1089 (ci := 12) rfl w (fun b w => qm_X11_difference l hl9 D _ b xp1 xp2 xp3 _ _ w) rfl ⟨Nat.le_of_ble_eq_true rfl, Nat.le_of_ble_eq_true rfl⟩ ⟨rfl, rfl⟩ (by generalize rp4 = z0; cases z0 <;> exact Nat.le_of_ble_eq_true rfl) (fun b e9 => by cases e9; rfl) dL_difference_7 ⟨Nat.le_of_ble_eq_true rfl, Nat.le_of_ble_eq_true rfl⟩ (fun E ce q9 h H locs w S g1 g2 g3 => ?_) (fun x1 h H locs S w => ?_)
  · by_cases c9 : E = "java/util/NoSuchElementException"
    · replace w := ql_if w c9
      subst c9
      refine ql_catch C htab9 [] (0, 12, 15, 23) [] rfl (fun z hz => nomatch hz) rfl (by decide) gw_804 (by decide +kernel) g1 g2 g3 (tgt := 15) rfl ?_
      refine ql_astore (lv' := [(5, va_rf (some q9)), (0, va_rf rp0), (1, .int xp1), (2, .int xp2), (3, .int xp3), (4, va_rf rp4)]) C dL_difference_15 hl (by decide) (by generalize rp4 = z9; cases z9 <;> rfl) (fun ls hl => ?_)
      refine lv_iconst (v := (1 : Int32)) C.1.1 C.1.2.1 dL_difference_17 (by decide) ?_
      exact ql_iret C S hr hlocks dL_difference_18 ⟨Nat.le_of_ble_eq_true rfl, Nat.le_of_ble_eq_true rfl⟩ w
    replace w := ql_ifn w c9
    clear c9
    exact w.elim
  refine W.cs (cells' := 3) (slots' := 18) rfl rfl ?_
  refine lv_i2l C.1.1 C.1.2.1 dL_difference_10 rfl ?_
  refine ql_last C S dL_difference_11 w (fun h H locs S w => ?_)
  refine lv_goto (tgt := 19) C.1.1 C.1.2.1 dL_difference_12 (by decide) ?_
  refine lv_iconst (v := (0 : Int32)) C.1.1 C.1.2.1 dL_difference_19 (by decide) ?_
  exact ql_iret C S hr hlocks dL_difference_20 ⟨Nat.le_of_ble_eq_true rfl, Nat.le_of_ble_eq_true rfl⟩ w
def qw_L_differenceByEnds (rp0 : Option Nat) (xp1 : Int32) (xp2 : Int32) (xp3 : Int32) (rp4 : Option Nat) (h : ql_H) (Q : Int32 → ql_H → Prop) : Prop :=
ql_rv h rp0 12 fun b1 => qw_X11_differenceByEnds b1 xp1 xp2 xp3 h (fun x1 h =>
ql_sJ h rp4 (0 : Int32) x1.toInt64 fun h =>
Q (0 : Int32) h) (fun E h => if E = "java/util/NoSuchElementException" then (Q (1 : Int32) h) else False)
set_option maxHeartbeats 4000000 in
set_option maxRecDepth 100000 in
theorem qm_L_differenceByEnds (l : Launch) (hl9 : l.stackTraces = false) (D : ql_D) (h0 : ql_H) (rp0 : Option Nat) (xp1 : Int32) (xp2 : Int32) (xp3 : Int32) (rp4 : Option Nat) (Q : Int32 → ql_H → Prop) (X : String → ql_H → Prop) (w : qw_L_differenceByEnds rp0 xp1 xp2 xp3 rp4 h0 Q) : ql_MH D l yL_differenceByEnds cL_differenceByEnds 6 (some .int) [(0, 12, 15, 23)] ({ frames := 14, cells := 3, slots := 18, locals := 190 } : Room) h0 [va_rf rp0, .int xp1, .int xp2, .int xp3, va_rf rp4] (ql_rI Q) X 3 18 := by
  refine ql_ofWH (by decide) (by cases rp0 <;> cases rp4 <;> exact Nat.le_of_ble_eq_true rfl) ?_
  intro p e s m below meth c ls C hr hlocks hnm htab9 S hl
  rw [show lv_args 0 [va_rf rp0, .int xp1, .int xp2, .int xp3, va_rf rp4] = [(0, va_rf rp0), (1, .int xp1), (2, .int xp2), (3, .int xp3), (4, va_rf rp4)] from by cases rp0 <;> cases rp4 <;> rfl] at hl
  unfold qw_L_differenceByEnds at w
  refine ql_aload (r := rp4) C dL_differenceByEnds_0 (lv_at hl 4 rfl) ?_
  refine lv_iconst (v := (0 : Int32)) C.1.1 C.1.2.1 dL_differenceByEnds_2 (by decide) ?_
  refine ql_aload_n (r := rp0) C dL_differenceByEnds_3 rfl (lv_at hl 0 rfl) ?_
  refine lv_iload_n C.1.1 C.1.2.1 dL_differenceByEnds_4 rfl (lv_at hl 1 rfl) ?_
  refine lv_iload_n C.1.1 C.1.2.1 dL_differenceByEnds_5 rfl (lv_at hl 2 rfl) ?_
  refine lv_iload_n C.1.1 C.1.2.1 dL_differenceByEnds_6 rfl (lv_at hl 3 rfl) ?_
  refine ql_HVI (As := [.int xp1, .int xp2, .int xp3]) (rest := [.int (0 : Int32), va_rf rp4]) C S hl qy_X11_differenceByEnds qi_X11_differenceByEnds qs_X11_differenceByEnds gw_1096 (ci := 12) rfl w (fun b w => qm_X11_differenceByEnds l hl9 D _ b xp1 xp2 xp3 _ _ w) rfl ⟨Nat.le_of_ble_eq_true rfl, Nat.le_of_ble_eq_true rfl⟩ ⟨rfl, rfl⟩ (by generalize rp4 = z0; cases z0 <;> exact Nat.le_of_ble_eq_true rfl) (fun b e9 => by cases e9; rfl) dL_differenceByEnds_7 ⟨Nat.le_of_ble_eq_true rfl, Nat.le_of_ble_eq_true rfl⟩ (fun E ce q9 h H locs w S g1 g2 g3 => ?_) (fun x1 h H locs S w => ?_)
  · by_cases c9 : E = "java/util/NoSuchElementException"
    · replace w := ql_if w c9
      subst c9
      refine ql_catch C htab9 [] (0, 12, 15, 23) [] rfl (fun z hz => nomatch hz) rfl (by decide) gw_804 (by decide +kernel) g1 g2 g3 (tgt := 15) rfl ?_
      refine ql_astore (lv' := [(5, va_rf (some q9)), (0, va_rf rp0), (1, .int xp1), (2, .int xp2), (3, .int xp3), (4, va_rf rp4)]) C dL_differenceByEnds_15 hl (by decide) (by generalize rp4 = z9; cases z9 <;> rfl) (fun ls hl => ?_)
      refine lv_iconst (v := (1 : Int32)) C.1.1 C.1.2.1 dL_differenceByEnds_17 (by decide) ?_
      exact ql_iret C S hr hlocks dL_differenceByEnds_18 ⟨Nat.le_of_ble_eq_true rfl, Nat.le_of_ble_eq_true rfl⟩ w
    replace w := ql_ifn w c9
    clear c9
    exact w.elim
  refine W.cs (cells' := 3) (slots' := 18) rfl rfl ?_
  refine lv_i2l C.1.1 C.1.2.1 dL_differenceByEnds_10 rfl ?_
  refine ql_last C S dL_differenceByEnds_11 w (fun h H locs S w => ?_)
  refine lv_goto (tgt := 19) C.1.1 C.1.2.1 dL_differenceByEnds_12 (by decide) ?_
  refine lv_iconst (v := (0 : Int32)) C.1.1 C.1.2.1 dL_differenceByEnds_19 (by decide) ?_
  exact ql_iret C S hr hlocks dL_differenceByEnds_20 ⟨Nat.le_of_ble_eq_true rfl, Nat.le_of_ble_eq_true rfl⟩ w
def qw_L_citeCount (rp0 : Option Nat) (xp1 : Int32) (rp2 : Option Nat) (h : ql_H) (Q : Int32 → ql_H → Prop) : Prop :=
ql_rv h rp0 12 fun b1 => qw_X11_citeCount b1 xp1 h (fun x1 h =>
ql_sJ h rp2 (0 : Int32) x1.toInt64 fun h =>
Q (0 : Int32) h) (fun E h => if E = "java/util/NoSuchElementException" then (Q (1 : Int32) h) else False)
set_option maxHeartbeats 4000000 in
set_option maxRecDepth 100000 in
theorem qm_L_citeCount (l : Launch) (hl9 : l.stackTraces = false) (D : ql_D) (h0 : ql_H) (rp0 : Option Nat) (xp1 : Int32) (rp2 : Option Nat) (Q : Int32 → ql_H → Prop) (X : String → ql_H → Prop) (w : qw_L_citeCount rp0 xp1 rp2 h0 Q) : ql_MH D l yL_citeCount cL_citeCount 4 (some .int) [(0, 9, 12, 23)] ({ frames := 14, cells := 1, slots := 6, locals := 187 } : Room) h0 [va_rf rp0, .int xp1, va_rf rp2] (ql_rI Q) X 1 6 := by
  refine ql_ofWH (by decide) (by cases rp0 <;> cases rp2 <;> exact Nat.le_of_ble_eq_true rfl) ?_
  intro p e s m below meth c ls C hr hlocks hnm htab9 S hl
  rw [show lv_args 0 [va_rf rp0, .int xp1, va_rf rp2] = [(0, va_rf rp0), (1, .int xp1), (2, va_rf rp2)] from by cases rp0 <;> cases rp2 <;> rfl] at hl
  unfold qw_L_citeCount at w
  refine ql_aload_n (r := rp2) C dL_citeCount_0 rfl (lv_at hl 2 rfl) ?_
  refine lv_iconst (v := (0 : Int32)) C.1.1 C.1.2.1 dL_citeCount_1 (by decide) ?_
  refine ql_aload_n (r := rp0) C dL_citeCount_2 rfl (lv_at hl 0 rfl) ?_
  refine lv_iload_n C.1.1 C.1.2.1 dL_citeCount_3 rfl (lv_at hl 1 rfl) ?_
  refine ql_HVI (As := [.int xp1]) (rest := [.int (0 : Int32), va_rf rp2]) C S hl qy_X11_citeCount qi_X11_citeCount qs_X11_citeCount gw_1103 (ci := 12) rfl w (fun b w => qm_X11_citeCount l hl9 D _ b xp1 _ _ w) rfl ⟨Nat.le_of_ble_eq_true rfl, Nat.le_of_ble_eq_true rfl⟩ ⟨rfl, rfl⟩ (by generalize rp2 = z0; cases z0 <;> exact Nat.le_of_ble_eq_true rfl) (fun b e9 => by cases e9; rfl) dL_citeCount_4 ⟨Nat.le_of_ble_eq_true rfl, Nat.le_of_ble_eq_true rfl⟩ (fun E ce q9 h H locs w S g1 g2 g3 => ?_) (fun x1 h H locs S w => ?_)
  · by_cases c9 : E = "java/util/NoSuchElementException"
    · replace w := ql_if w c9
      subst c9
      refine ql_catch C htab9 [] (0, 9, 12, 23) [] rfl (fun z hz => nomatch hz) rfl (by decide) gw_804 (by decide +kernel) g1 g2 g3 (tgt := 12) rfl ?_
      refine ql_astore_n (lv' := [(3, va_rf (some q9)), (0, va_rf rp0), (1, .int xp1), (2, va_rf rp2)]) C dL_citeCount_12 rfl hl (by decide) (by generalize rp2 = z9; cases z9 <;> rfl) (fun ls hl => ?_)
      refine lv_iconst (v := (1 : Int32)) C.1.1 C.1.2.1 dL_citeCount_13 (by decide) ?_
      exact ql_iret C S hr hlocks dL_citeCount_14 ⟨Nat.le_of_ble_eq_true rfl, Nat.le_of_ble_eq_true rfl⟩ w
    replace w := ql_ifn w c9
    clear c9
    exact w.elim
  refine W.cs (cells' := 1) (slots' := 6) rfl rfl ?_
  refine lv_i2l C.1.1 C.1.2.1 dL_citeCount_7 rfl ?_
  refine ql_last C S dL_citeCount_8 w (fun h H locs S w => ?_)
  refine lv_goto (tgt := 15) C.1.1 C.1.2.1 dL_citeCount_9 (by decide) ?_
  refine lv_iconst (v := (0 : Int32)) C.1.1 C.1.2.1 dL_citeCount_15 (by decide) ?_
  exact ql_iret C S hr hlocks dL_citeCount_16 ⟨Nat.le_of_ble_eq_true rfl, Nat.le_of_ble_eq_true rfl⟩ w
def qw_L_citeAt (rp0 : Option Nat) (xp1 : Int32) (xp2 : Int32) (rp3 : Option Nat) (h : ql_H) (Q : Int32 → ql_H → Prop) : Prop :=
ql_rv h rp0 12 fun b1 => qw_X11_citeAt b1 xp1 xp2 h (fun x1 h =>
ql_sJ h rp3 (0 : Int32) x1.toInt64 fun h =>
Q (0 : Int32) h) (fun E h => if E = "java/util/NoSuchElementException" then (Q (1 : Int32) h) else if E = "java/lang/IndexOutOfBoundsException" then (Q (2 : Int32) h) else False)
set_option maxHeartbeats 4000000 in
set_option maxRecDepth 100000 in
theorem qm_L_citeAt (l : Launch) (hl9 : l.stackTraces = false) (D : ql_D) (h0 : ql_H) (rp0 : Option Nat) (xp1 : Int32) (xp2 : Int32) (rp3 : Option Nat) (Q : Int32 → ql_H → Prop) (X : String → ql_H → Prop) (w : qw_L_citeAt rp0 xp1 xp2 rp3 h0 Q) : ql_MH D l yL_citeAt cL_citeAt 5 (some .int) [(0, 10, 13, 23), (0, 10, 17, 25)] ({ frames := 14, cells := 2, slots := 12, locals := 189 } : Room) h0 [va_rf rp0, .int xp1, .int xp2, va_rf rp3] (ql_rI Q) X 2 12 := by
  refine ql_ofWH (by decide) (by cases rp0 <;> cases rp3 <;> exact Nat.le_of_ble_eq_true rfl) ?_
  intro p e s m below meth c ls C hr hlocks hnm htab9 S hl
  rw [show lv_args 0 [va_rf rp0, .int xp1, .int xp2, va_rf rp3] = [(0, va_rf rp0), (1, .int xp1), (2, .int xp2), (3, va_rf rp3)] from by cases rp0 <;> cases rp3 <;> rfl] at hl
  unfold qw_L_citeAt at w
  refine ql_aload_n (r := rp3) C dL_citeAt_0 rfl (lv_at hl 3 rfl) ?_
  refine lv_iconst (v := (0 : Int32)) C.1.1 C.1.2.1 dL_citeAt_1 (by decide) ?_
  refine ql_aload_n (r := rp0) C dL_citeAt_2 rfl (lv_at hl 0 rfl) ?_
  refine lv_iload_n C.1.1 C.1.2.1 dL_citeAt_3 rfl (lv_at hl 1 rfl) ?_
  refine lv_iload_n C.1.1 C.1.2.1 dL_citeAt_4 rfl (lv_at hl 2 rfl) ?_
  refine ql_HVI (As := [.int xp1, .int xp2]) (rest := [.int (0 : Int32), va_rf rp3]) C S hl qy_X11_citeAt qi_X11_citeAt qs_X11_citeAt gw_1111 (ci := 12) rfl w (fun b w => qm_X11_citeAt l hl9 D _ b xp1 xp2 _ _ w) rfl ⟨Nat.le_of_ble_eq_true rfl, Nat.le_of_ble_eq_true rfl⟩ ⟨rfl, rfl⟩ (by generalize rp3 = z0; cases z0 <;> exact Nat.le_of_ble_eq_true rfl) (fun b e9 => by cases e9; rfl) dL_citeAt_5 ⟨Nat.le_of_ble_eq_true rfl, Nat.le_of_ble_eq_true rfl⟩ (fun E ce q9 h H locs w S g1 g2 g3 => ?_) (fun x1 h H locs S w => ?_)
  · by_cases c9 : E = "java/util/NoSuchElementException"
    · replace w := ql_if w c9
      subst c9
      refine ql_catch C htab9 [] (0, 10, 13, 23) [(0, 10, 17, 25)] rfl (fun z hz => nomatch hz) rfl (by decide) gw_804 (by decide +kernel) g1 g2 g3 (tgt := 13) rfl ?_
      refine ql_astore (lv' := [(4, va_rf (some q9)), (0, va_rf rp0), (1, .int xp1), (2, .int xp2), (3, va_rf rp3)]) C dL_citeAt_13 hl (by decide) (by generalize rp3 = z9; cases z9 <;> rfl) (fun ls hl => ?_)
      refine lv_iconst (v := (1 : Int32)) C.1.1 C.1.2.1 dL_citeAt_15 (by decide) ?_
      exact ql_iret C S hr hlocks dL_citeAt_16 ⟨Nat.le_of_ble_eq_true rfl, Nat.le_of_ble_eq_true rfl⟩ w
    replace w := ql_ifn w c9
    clear c9
    by_cases c9 : E = "java/lang/IndexOutOfBoundsException"
    · replace w := ql_if w c9
      subst c9
      refine ql_catch C htab9 [(0, 10, 13, 23)] (0, 10, 17, 25) [] rfl (fun z hz => by rcases (show z = (0, 10, 13, 23) by simpa using hz) with rfl <;> first | exact ⟨by decide, _, gw_804, by decide +kernel⟩) rfl (by decide) gw_805 (by decide +kernel) g1 g2 g3 (tgt := 17) rfl ?_
      refine ql_astore (lv' := [(4, va_rf (some q9)), (0, va_rf rp0), (1, .int xp1), (2, .int xp2), (3, va_rf rp3)]) C dL_citeAt_17 hl (by decide) (by generalize rp3 = z9; cases z9 <;> rfl) (fun ls hl => ?_)
      refine lv_iconst (v := (2 : Int32)) C.1.1 C.1.2.1 dL_citeAt_19 (by decide) ?_
      exact ql_iret C S hr hlocks dL_citeAt_20 ⟨Nat.le_of_ble_eq_true rfl, Nat.le_of_ble_eq_true rfl⟩ w
    replace w := ql_ifn w c9
    clear c9
    exact w.elim
  refine W.cs (cells' := 2) (slots' := 12) rfl rfl ?_
  refine lv_i2l C.1.1 C.1.2.1 dL_citeAt_8 rfl ?_
  refine ql_last C S dL_citeAt_9 w (fun h H locs S w => ?_)
  refine lv_goto (tgt := 21) C.1.1 C.1.2.1 dL_citeAt_10 (by decide) ?_
  refine lv_iconst (v := (0 : Int32)) C.1.1 C.1.2.1 dL_citeAt_21 (by decide) ?_
  exact ql_iret C S hr hlocks dL_citeAt_22 ⟨Nat.le_of_ble_eq_true rfl, Nat.le_of_ble_eq_true rfl⟩ w
def qw_L_citesIndirectly_16 (Q : Int32 → ql_H → Prop) (rs0 : Option Nat) (xs1 : Int32) (js2 : Int64) (h : ql_H) : Prop :=
ql_sJ h rs0 xs1 js2 fun h =>
Q (0 : Int32) h
def qw_L_citesIndirectly (rp0 : Option Nat) (xp1 : Int32) (xp2 : Int32) (rp3 : Option Nat) (h : ql_H) (Q : Int32 → ql_H → Prop) : Prop :=
ql_rv h rp0 12 fun b1 => qw_X11_citesIndirectly b1 xp1 xp2 h (fun x1 h =>
if x1 = 0 then (qw_L_citesIndirectly_16 Q rp3 (0 : Int32) (0 : Int64) h) else (qw_L_citesIndirectly_16 Q rp3 (0 : Int32) (1 : Int64) h)) (fun E h => if E = "java/util/NoSuchElementException" then (Q (1 : Int32) h) else False)
set_option maxHeartbeats 4000000 in
set_option maxRecDepth 100000 in
theorem qm_L_citesIndirectly (l : Launch) (hl9 : l.stackTraces = false) (D : ql_D) (h0 : ql_H) (rp0 : Option Nat) (xp1 : Int32) (xp2 : Int32) (rp3 : Option Nat) (Q : Int32 → ql_H → Prop) (X : String → ql_H → Prop) (w : qw_L_citesIndirectly rp0 xp1 xp2 rp3 h0 Q) : ql_MH D l yL_citesIndirectly cL_citesIndirectly 5 (some .int) [(0, 17, 20, 23)] ({ frames := 12, cells := 2, slots := 12, locals := 174 } : Room) h0 [va_rf rp0, .int xp1, .int xp2, va_rf rp3] (ql_rI Q) X 2 12 := by
  refine ql_ofWH (by decide) (by cases rp0 <;> cases rp3 <;> exact Nat.le_of_ble_eq_true rfl) ?_
  intro p e s m below meth c ls C hr hlocks hnm htab9 S hl
  rw [show lv_args 0 [va_rf rp0, .int xp1, .int xp2, va_rf rp3] = [(0, va_rf rp0), (1, .int xp1), (2, .int xp2), (3, va_rf rp3)] from by cases rp0 <;> cases rp3 <;> rfl] at hl
  have hB16 : ∀ (rs0 : Option Nat) (xs1 : Int32) (js2 : Int64) (h : ql_H) (H : Heap) (locs : List Loc) (ls : Array Slot), ql_S D h0 s H locs h → lv_has ls 5 [] → qw_L_citesIndirectly_16 Q rs0 xs1 js2 h → W p l e ({ frames := 12, cells := 2, slots := 12, locals := 174 } : Room) s m ([va_rf rp0, .int xp1, .int xp2, va_rf rp3] : List Value).toArray below meth c H locs 2 12 (vx_MQ below (ql_Q D h0 (ql_rI Q)) (ql_X D h0 X) ([va_rf rp0, .int xp1, .int xp2, va_rf rp3] : List Value).toArray s 2 12 (ql_A h0)) (F0 m 16 ls [.long js2, .int xs1, va_rf rs0]) := by
    intro rs0 xs1 js2 h H locs ls S hl w
    unfold qw_L_citesIndirectly_16 at w
    refine ql_last C S dL_citesIndirectly_16 w (fun h H locs S w => ?_)
    refine lv_goto (tgt := 24) C.1.1 C.1.2.1 dL_citesIndirectly_17 (by decide) ?_
    refine lv_iconst (v := (0 : Int32)) C.1.1 C.1.2.1 dL_citesIndirectly_24 (by decide) ?_
    exact ql_iret C S hr hlocks dL_citesIndirectly_25 ⟨Nat.le_of_ble_eq_true rfl, Nat.le_of_ble_eq_true rfl⟩ w
  unfold qw_L_citesIndirectly at w
  refine ql_aload_n (r := rp3) C dL_citesIndirectly_0 rfl (lv_at hl 3 rfl) ?_
  refine lv_iconst (v := (0 : Int32)) C.1.1 C.1.2.1 dL_citesIndirectly_1 (by decide) ?_
  refine ql_aload_n (r := rp0) C dL_citesIndirectly_2 rfl (lv_at hl 0 rfl) ?_
  refine lv_iload_n C.1.1 C.1.2.1 dL_citesIndirectly_3 rfl (lv_at hl 1 rfl) ?_
  refine lv_iload_n C.1.1 C.1.2.1 dL_citesIndirectly_4 rfl (lv_at hl 2 rfl) ?_
  refine ql_HVI (As := [.int xp1, .int xp2]) (rest := [.int (0 : Int32), va_rf rp3]) C S hl qy_X11_citesIndirectly qi_X11_citesIndirectly qs_X11_citesIndirectly gw_1119 (ci := 12) rfl w (fun b w => qm_X11_citesIndirectly l hl9 D _ b xp1 xp2 _ _ w) rfl ⟨Nat.le_of_ble_eq_true rfl, Nat.le_of_ble_eq_true rfl⟩ ⟨rfl, rfl⟩ (by generalize rp3 = z0; cases z0 <;> exact Nat.le_of_ble_eq_true rfl) (fun b e9 => by cases e9; rfl) dL_citesIndirectly_5 ⟨Nat.le_of_ble_eq_true rfl, Nat.le_of_ble_eq_true rfl⟩ (fun E ce q9 h H locs w S g1 g2 g3 => ?_) (fun x1 h H locs S w => ?_)
  · by_cases c9 : E = "java/util/NoSuchElementException"
    · replace w := ql_if w c9
      subst c9
      refine ql_catch C htab9 [] (0, 17, 20, 23) [] rfl (fun z hz => nomatch hz) rfl (by decide) gw_804 (by decide +kernel) g1 g2 g3 (tgt := 20) rfl ?_
      refine ql_astore (lv' := [(4, va_rf (some q9)), (0, va_rf rp0), (1, .int xp1), (2, .int xp2), (3, va_rf rp3)]) C dL_citesIndirectly_20 hl (by decide) (by generalize rp3 = z9; cases z9 <;> rfl) (fun ls hl => ?_)
      refine lv_iconst (v := (1 : Int32)) C.1.1 C.1.2.1 dL_citesIndirectly_22 (by decide) ?_
      exact ql_iret C S hr hlocks dL_citesIndirectly_23 ⟨Nat.le_of_ble_eq_true rfl, Nat.le_of_ble_eq_true rfl⟩ w
    replace w := ql_ifn w c9
    clear c9
    exact w.elim
  refine W.cs (cells' := 2) (slots' := 12) rfl rfl ?_
  refine lv_if_eq (tgt := 15) C.1.1 C.1.2.1 dL_citesIndirectly_8 (by decide) (fun c9 => ?_) (fun c9 => ?_)
  · replace w := ql_if w c9
    refine lv_lconst (v := (0 : Int64)) C.1.1 C.1.2.1 dL_citesIndirectly_15 (by decide) ?_
    exact hB16 rp3 (0 : Int32) (0 : Int64) _ _ _ _ S (lv_sub hl [] rfl) w
  · replace w := ql_ifn w c9
    refine lv_lconst (v := (1 : Int64)) C.1.1 C.1.2.1 dL_citesIndirectly_11 (by decide) ?_
    refine lv_goto (tgt := 16) C.1.1 C.1.2.1 dL_citesIndirectly_12 (by decide) ?_
    exact hB16 rp3 (0 : Int32) (1 : Int64) _ _ _ _ S (lv_sub hl [] rfl) w
def qw_L_citesByClosure_16 (Q : Int32 → ql_H → Prop) (rs0 : Option Nat) (xs1 : Int32) (js2 : Int64) (h : ql_H) : Prop :=
ql_sJ h rs0 xs1 js2 fun h =>
Q (0 : Int32) h
def qw_L_citesByClosure (rp0 : Option Nat) (xp1 : Int32) (xp2 : Int32) (rp3 : Option Nat) (h : ql_H) (Q : Int32 → ql_H → Prop) : Prop :=
ql_rv h rp0 12 fun b1 => qw_X11_citesByClosure b1 xp1 xp2 h (fun x1 h =>
if x1 = 0 then (qw_L_citesByClosure_16 Q rp3 (0 : Int32) (0 : Int64) h) else (qw_L_citesByClosure_16 Q rp3 (0 : Int32) (1 : Int64) h)) (fun E h => if E = "java/util/NoSuchElementException" then (Q (1 : Int32) h) else False)
set_option maxHeartbeats 4000000 in
set_option maxRecDepth 100000 in
theorem qm_L_citesByClosure (l : Launch) (hl9 : l.stackTraces = false) (D : ql_D) (h0 : ql_H) (rp0 : Option Nat) (xp1 : Int32) (xp2 : Int32) (rp3 : Option Nat) (Q : Int32 → ql_H → Prop) (X : String → ql_H → Prop) (w : qw_L_citesByClosure rp0 xp1 xp2 rp3 h0 Q) : ql_MH D l yL_citesByClosure cL_citesByClosure 5 (some .int) [(0, 17, 20, 23)] ({ frames := 12, cells := 2, slots := 12, locals := 174 } : Room) h0 [va_rf rp0, .int xp1, .int xp2, va_rf rp3] (ql_rI Q) X 2 12 := by
  refine ql_ofWH (by decide) (by cases rp0 <;> cases rp3 <;> exact Nat.le_of_ble_eq_true rfl) ?_
  intro p e s m below meth c ls C hr hlocks hnm htab9 S hl
  rw [show lv_args 0 [va_rf rp0, .int xp1, .int xp2, va_rf rp3] = [(0, va_rf rp0), (1, .int xp1), (2, .int xp2), (3, va_rf rp3)] from by cases rp0 <;> cases rp3 <;> rfl] at hl
  have hB16 : ∀ (rs0 : Option Nat) (xs1 : Int32) (js2 : Int64) (h : ql_H) (H : Heap) (locs : List Loc) (ls : Array Slot), ql_S D h0 s H locs h → lv_has ls 5 [] → qw_L_citesByClosure_16 Q rs0 xs1 js2 h → W p l e ({ frames := 12, cells := 2, slots := 12, locals := 174 } : Room) s m ([va_rf rp0, .int xp1, .int xp2, va_rf rp3] : List Value).toArray below meth c H locs 2 12 (vx_MQ below (ql_Q D h0 (ql_rI Q)) (ql_X D h0 X) ([va_rf rp0, .int xp1, .int xp2, va_rf rp3] : List Value).toArray s 2 12 (ql_A h0)) (F0 m 16 ls [.long js2, .int xs1, va_rf rs0]) := by
    intro rs0 xs1 js2 h H locs ls S hl w
    unfold qw_L_citesByClosure_16 at w
    refine ql_last C S dL_citesByClosure_16 w (fun h H locs S w => ?_)
    refine lv_goto (tgt := 24) C.1.1 C.1.2.1 dL_citesByClosure_17 (by decide) ?_
    refine lv_iconst (v := (0 : Int32)) C.1.1 C.1.2.1 dL_citesByClosure_24 (by decide) ?_
    exact ql_iret C S hr hlocks dL_citesByClosure_25 ⟨Nat.le_of_ble_eq_true rfl, Nat.le_of_ble_eq_true rfl⟩ w
  unfold qw_L_citesByClosure at w
  refine ql_aload_n (r := rp3) C dL_citesByClosure_0 rfl (lv_at hl 3 rfl) ?_
  refine lv_iconst (v := (0 : Int32)) C.1.1 C.1.2.1 dL_citesByClosure_1 (by decide) ?_
  refine ql_aload_n (r := rp0) C dL_citesByClosure_2 rfl (lv_at hl 0 rfl) ?_
  refine lv_iload_n C.1.1 C.1.2.1 dL_citesByClosure_3 rfl (lv_at hl 1 rfl) ?_
  refine lv_iload_n C.1.1 C.1.2.1 dL_citesByClosure_4 rfl (lv_at hl 2 rfl) ?_
  refine ql_HVI (As := [.int xp1, .int xp2]) (rest := [.int (0 : Int32), va_rf rp3]) C S hl qy_X11_citesByClosure qi_X11_citesByClosure qs_X11_citesByClosure gw_1132 (ci := 12) rfl w (fun b w => qm_X11_citesByClosure l hl9 D _ b xp1 xp2 _ _ w) rfl ⟨Nat.le_of_ble_eq_true rfl, Nat.le_of_ble_eq_true rfl⟩ ⟨rfl, rfl⟩ (by generalize rp3 = z0; cases z0 <;> exact Nat.le_of_ble_eq_true rfl) (fun b e9 => by cases e9; rfl) dL_citesByClosure_5 ⟨Nat.le_of_ble_eq_true rfl, Nat.le_of_ble_eq_true rfl⟩ (fun E ce q9 h H locs w S g1 g2 g3 => ?_) (fun x1 h H locs S w => ?_)
  · by_cases c9 : E = "java/util/NoSuchElementException"
    · replace w := ql_if w c9
      subst c9
      refine ql_catch C htab9 [] (0, 17, 20, 23) [] rfl (fun z hz => nomatch hz) rfl (by decide) gw_804 (by decide +kernel) g1 g2 g3 (tgt := 20) rfl ?_
      refine ql_astore (lv' := [(4, va_rf (some q9)), (0, va_rf rp0), (1, .int xp1), (2, .int xp2), (3, va_rf rp3)]) C dL_citesByClosure_20 hl (by decide) (by generalize rp3 = z9; cases z9 <;> rfl) (fun ls hl => ?_)
      refine lv_iconst (v := (1 : Int32)) C.1.1 C.1.2.1 dL_citesByClosure_22 (by decide) ?_
      exact ql_iret C S hr hlocks dL_citesByClosure_23 ⟨Nat.le_of_ble_eq_true rfl, Nat.le_of_ble_eq_true rfl⟩ w
    replace w := ql_ifn w c9
    clear c9
    exact w.elim
  refine W.cs (cells' := 2) (slots' := 12) rfl rfl ?_
  refine lv_if_eq (tgt := 15) C.1.1 C.1.2.1 dL_citesByClosure_8 (by decide) (fun c9 => ?_) (fun c9 => ?_)
  · replace w := ql_if w c9
    refine lv_lconst (v := (0 : Int64)) C.1.1 C.1.2.1 dL_citesByClosure_15 (by decide) ?_
    exact hB16 rp3 (0 : Int32) (0 : Int64) _ _ _ _ S (lv_sub hl [] rfl) w
  · replace w := ql_ifn w c9
    refine lv_lconst (v := (1 : Int64)) C.1.1 C.1.2.1 dL_citesByClosure_11 (by decide) ?_
    refine lv_goto (tgt := 16) C.1.1 C.1.2.1 dL_citesByClosure_12 (by decide) ?_
    exact hB16 rp3 (0 : Int32) (1 : Int64) _ _ _ _ S (lv_sub hl [] rfl) w
def qw_L_clauseByCites (rp0 : Option Nat) (xp1 : Int32) (rp2 : Option Nat) (h : ql_H) (Q : Int32 → ql_H → Prop) : Prop :=
ql_rv h rp0 12 fun b1 => qw_X11_clauseByCites b1 xp1 h (fun x1 h =>
ql_sJ h rp2 (0 : Int32) x1.toInt64 fun h =>
Q (0 : Int32) h) (fun E h => if E = "java/util/NoSuchElementException" then (Q (1 : Int32) h) else False)
set_option maxHeartbeats 4000000 in
set_option maxRecDepth 100000 in
theorem qm_L_clauseByCites (l : Launch) (hl9 : l.stackTraces = false) (D : ql_D) (h0 : ql_H) (rp0 : Option Nat) (xp1 : Int32) (rp2 : Option Nat) (Q : Int32 → ql_H → Prop) (X : String → ql_H → Prop) (w : qw_L_clauseByCites rp0 xp1 rp2 h0 Q) : ql_MH D l yL_clauseByCites cL_clauseByCites 4 (some .int) [(0, 9, 12, 23)] ({ frames := 10, cells := 1, slots := 6, locals := 176 } : Room) h0 [va_rf rp0, .int xp1, va_rf rp2] (ql_rI Q) X 1 6 := by
  refine ql_ofWH (by decide) (by cases rp0 <;> cases rp2 <;> exact Nat.le_of_ble_eq_true rfl) ?_
  intro p e s m below meth c ls C hr hlocks hnm htab9 S hl
  rw [show lv_args 0 [va_rf rp0, .int xp1, va_rf rp2] = [(0, va_rf rp0), (1, .int xp1), (2, va_rf rp2)] from by cases rp0 <;> cases rp2 <;> rfl] at hl
  unfold qw_L_clauseByCites at w
  refine ql_aload_n (r := rp2) C dL_clauseByCites_0 rfl (lv_at hl 2 rfl) ?_
  refine lv_iconst (v := (0 : Int32)) C.1.1 C.1.2.1 dL_clauseByCites_1 (by decide) ?_
  refine ql_aload_n (r := rp0) C dL_clauseByCites_2 rfl (lv_at hl 0 rfl) ?_
  refine lv_iload_n C.1.1 C.1.2.1 dL_clauseByCites_3 rfl (lv_at hl 1 rfl) ?_
  refine ql_HVI (As := [.int xp1]) (rest := [.int (0 : Int32), va_rf rp2]) C S hl qy_X11_clauseByCites qi_X11_clauseByCites qs_X11_clauseByCites gw_1139 (ci := 12) rfl w (fun b w => qm_X11_clauseByCites l hl9 D _ b xp1 _ _ w) rfl ⟨Nat.le_of_ble_eq_true rfl, Nat.le_of_ble_eq_true rfl⟩ ⟨rfl, rfl⟩ (by generalize rp2 = z0; cases z0 <;> exact Nat.le_of_ble_eq_true rfl) (fun b e9 => by cases e9; rfl) dL_clauseByCites_4 ⟨Nat.le_of_ble_eq_true rfl, Nat.le_of_ble_eq_true rfl⟩ (fun E ce q9 h H locs w S g1 g2 g3 => ?_) (fun x1 h H locs S w => ?_)
  · by_cases c9 : E = "java/util/NoSuchElementException"
    · replace w := ql_if w c9
      subst c9
      refine ql_catch C htab9 [] (0, 9, 12, 23) [] rfl (fun z hz => nomatch hz) rfl (by decide) gw_804 (by decide +kernel) g1 g2 g3 (tgt := 12) rfl ?_
      refine ql_astore_n (lv' := [(3, va_rf (some q9)), (0, va_rf rp0), (1, .int xp1), (2, va_rf rp2)]) C dL_clauseByCites_12 rfl hl (by decide) (by generalize rp2 = z9; cases z9 <;> rfl) (fun ls hl => ?_)
      refine lv_iconst (v := (1 : Int32)) C.1.1 C.1.2.1 dL_clauseByCites_13 (by decide) ?_
      exact ql_iret C S hr hlocks dL_clauseByCites_14 ⟨Nat.le_of_ble_eq_true rfl, Nat.le_of_ble_eq_true rfl⟩ w
    replace w := ql_ifn w c9
    clear c9
    exact w.elim
  refine W.cs (cells' := 1) (slots' := 6) rfl rfl ?_
  refine lv_i2l C.1.1 C.1.2.1 dL_clauseByCites_7 rfl ?_
  refine ql_last C S dL_clauseByCites_8 w (fun h H locs S w => ?_)
  refine lv_goto (tgt := 15) C.1.1 C.1.2.1 dL_clauseByCites_9 (by decide) ?_
  refine lv_iconst (v := (0 : Int32)) C.1.1 C.1.2.1 dL_clauseByCites_15 (by decide) ?_
  exact ql_iret C S hr hlocks dL_clauseByCites_16 ⟨Nat.le_of_ble_eq_true rfl, Nat.le_of_ble_eq_true rfl⟩ w
def qw_L_editionDay (rp0 : Option Nat) (xp1 : Int32) (rp2 : Option Nat) (h : ql_H) (Q : Int32 → ql_H → Prop) : Prop :=
ql_rv h rp0 12 fun b1 => qw_X11_editionDay b1 xp1 h (fun x1 h =>
ql_sJ h rp2 (0 : Int32) x1.toInt64 fun h =>
Q (0 : Int32) h) (fun E h => if E = "java/util/NoSuchElementException" then (Q (1 : Int32) h) else False)
set_option maxHeartbeats 4000000 in
set_option maxRecDepth 100000 in
theorem qm_L_editionDay (l : Launch) (hl9 : l.stackTraces = false) (D : ql_D) (h0 : ql_H) (rp0 : Option Nat) (xp1 : Int32) (rp2 : Option Nat) (Q : Int32 → ql_H → Prop) (X : String → ql_H → Prop) (w : qw_L_editionDay rp0 xp1 rp2 h0 Q) : ql_MH D l yL_editionDay cL_editionDay 4 (some .int) [(0, 9, 12, 23)] ({ frames := 10, cells := 1, slots := 6, locals := 164 } : Room) h0 [va_rf rp0, .int xp1, va_rf rp2] (ql_rI Q) X 1 6 := by
  refine ql_ofWH (by decide) (by cases rp0 <;> cases rp2 <;> exact Nat.le_of_ble_eq_true rfl) ?_
  intro p e s m below meth c ls C hr hlocks hnm htab9 S hl
  rw [show lv_args 0 [va_rf rp0, .int xp1, va_rf rp2] = [(0, va_rf rp0), (1, .int xp1), (2, va_rf rp2)] from by cases rp0 <;> cases rp2 <;> rfl] at hl
  unfold qw_L_editionDay at w
  refine ql_aload_n (r := rp2) C dL_editionDay_0 rfl (lv_at hl 2 rfl) ?_
  refine lv_iconst (v := (0 : Int32)) C.1.1 C.1.2.1 dL_editionDay_1 (by decide) ?_
  refine ql_aload_n (r := rp0) C dL_editionDay_2 rfl (lv_at hl 0 rfl) ?_
  refine lv_iload_n C.1.1 C.1.2.1 dL_editionDay_3 rfl (lv_at hl 1 rfl) ?_
  refine ql_HVI (As := [.int xp1]) (rest := [.int (0 : Int32), va_rf rp2]) C S hl qy_X11_editionDay qi_X11_editionDay qs_X11_editionDay gw_1154 (ci := 12) rfl w (fun b w => qm_X11_editionDay l hl9 D _ b xp1 _ _ w) rfl ⟨Nat.le_of_ble_eq_true rfl, Nat.le_of_ble_eq_true rfl⟩ ⟨rfl, rfl⟩ (by generalize rp2 = z0; cases z0 <;> exact Nat.le_of_ble_eq_true rfl) (fun b e9 => by cases e9; rfl) dL_editionDay_4 ⟨Nat.le_of_ble_eq_true rfl, Nat.le_of_ble_eq_true rfl⟩ (fun E ce q9 h H locs w S g1 g2 g3 => ?_) (fun x1 h H locs S w => ?_)
  · by_cases c9 : E = "java/util/NoSuchElementException"
    · replace w := ql_if w c9
      subst c9
      refine ql_catch C htab9 [] (0, 9, 12, 23) [] rfl (fun z hz => nomatch hz) rfl (by decide) gw_804 (by decide +kernel) g1 g2 g3 (tgt := 12) rfl ?_
      refine ql_astore_n (lv' := [(3, va_rf (some q9)), (0, va_rf rp0), (1, .int xp1), (2, va_rf rp2)]) C dL_editionDay_12 rfl hl (by decide) (by generalize rp2 = z9; cases z9 <;> rfl) (fun ls hl => ?_)
      refine lv_iconst (v := (1 : Int32)) C.1.1 C.1.2.1 dL_editionDay_13 (by decide) ?_
      exact ql_iret C S hr hlocks dL_editionDay_14 ⟨Nat.le_of_ble_eq_true rfl, Nat.le_of_ble_eq_true rfl⟩ w
    replace w := ql_ifn w c9
    clear c9
    exact w.elim
  refine W.cs (cells' := 1) (slots' := 6) rfl rfl ?_
  refine lv_i2l C.1.1 C.1.2.1 dL_editionDay_7 rfl ?_
  refine ql_last C S dL_editionDay_8 w (fun h H locs S w => ?_)
  refine lv_goto (tgt := 15) C.1.1 C.1.2.1 dL_editionDay_9 (by decide) ?_
  refine lv_iconst (v := (0 : Int32)) C.1.1 C.1.2.1 dL_editionDay_15 (by decide) ?_
  exact ql_iret C S hr hlocks dL_editionDay_16 ⟨Nat.le_of_ble_eq_true rfl, Nat.le_of_ble_eq_true rfl⟩ w
def qw_L_meanLength (rp0 : Option Nat) (rp1 : Option Nat) (h : ql_H) (Q : Int32 → ql_H → Prop) : Prop :=
ql_rv h rp0 12 fun b1 => qw_X11_meanLength b1  h (fun d1 h =>
ql_sD h rp1 (0 : Int32) d1 fun h =>
Q (0 : Int32) h) (fun E h => if E = "java/lang/ArithmeticException" then (Q (1 : Int32) h) else False)
set_option maxHeartbeats 4000000 in
set_option maxRecDepth 100000 in
theorem qm_L_meanLength (l : Launch) (hl9 : l.stackTraces = false) (D : ql_D) (h0 : ql_H) (rp0 : Option Nat) (rp1 : Option Nat) (Q : Int32 → ql_H → Prop) (X : String → ql_H → Prop) (w : qw_L_meanLength rp0 rp1 h0 Q) : ql_MH D l yL_meanLength cL_meanLength 3 (some .int) [(0, 7, 10, 122)] ({ frames := 10, cells := 1, slots := 6, locals := 170 } : Room) h0 [va_rf rp0, va_rf rp1] (ql_rI Q) X 1 6 := by
  refine ql_ofWH (by decide) (by cases rp0 <;> cases rp1 <;> exact Nat.le_of_ble_eq_true rfl) ?_
  intro p e s m below meth c ls C hr hlocks hnm htab9 S hl
  rw [show lv_args 0 [va_rf rp0, va_rf rp1] = [(0, va_rf rp0), (1, va_rf rp1)] from by cases rp0 <;> cases rp1 <;> rfl] at hl
  unfold qw_L_meanLength at w
  refine ql_aload_n (r := rp1) C dL_meanLength_0 rfl (lv_at hl 1 rfl) ?_
  refine lv_iconst (v := (0 : Int32)) C.1.1 C.1.2.1 dL_meanLength_1 (by decide) ?_
  refine ql_aload_n (r := rp0) C dL_meanLength_2 rfl (lv_at hl 0 rfl) ?_
  refine ql_HVD (As := []) (rest := [.int (0 : Int32), va_rf rp1]) C S hl qy_X11_meanLength qi_X11_meanLength qs_X11_meanLength gw_1179 (ci := 12) rfl w (fun b w => qm_X11_meanLength l hl9 D _ b _ _ w) rfl ⟨Nat.le_of_ble_eq_true rfl, Nat.le_of_ble_eq_true rfl⟩ ⟨rfl, rfl⟩ (by generalize rp1 = z0; cases z0 <;> exact Nat.le_of_ble_eq_true rfl) (fun b e9 => by cases e9; rfl) dL_meanLength_3 ⟨Nat.le_of_ble_eq_true rfl, Nat.le_of_ble_eq_true rfl⟩ (fun E ce q9 h H locs w S g1 g2 g3 => ?_) (fun d1 h H locs S w => ?_)
  · by_cases c9 : E = "java/lang/ArithmeticException"
    · replace w := ql_if w c9
      subst c9
      refine ql_catch C htab9 [] (0, 7, 10, 122) [] rfl (fun z hz => nomatch hz) rfl (by decide) gw_1165 (by decide +kernel) g1 g2 g3 (tgt := 10) rfl ?_
      refine ql_astore_n (lv' := [(2, va_rf (some q9)), (0, va_rf rp0), (1, va_rf rp1)]) C dL_meanLength_10 rfl hl (by decide) (by generalize rp1 = z9; cases z9 <;> rfl) (fun ls hl => ?_)
      refine lv_iconst (v := (1 : Int32)) C.1.1 C.1.2.1 dL_meanLength_11 (by decide) ?_
      exact ql_iret C S hr hlocks dL_meanLength_12 ⟨Nat.le_of_ble_eq_true rfl, Nat.le_of_ble_eq_true rfl⟩ w
    replace w := ql_ifn w c9
    clear c9
    exact w.elim
  refine W.cs (cells' := 1) (slots' := 6) rfl rfl ?_
  refine ql_dast C S dL_meanLength_6 w (fun h H locs S w => ?_)
  refine lv_goto (tgt := 13) C.1.1 C.1.2.1 dL_meanLength_7 (by decide) ?_
  refine lv_iconst (v := (0 : Int32)) C.1.1 C.1.2.1 dL_meanLength_13 (by decide) ?_
  exact ql_iret C S hr hlocks dL_meanLength_14 ⟨Nat.le_of_ble_eq_true rfl, Nat.le_of_ble_eq_true rfl⟩ w
def qw_L_inForceShare (rp0 : Option Nat) (rp1 : Option Nat) (h : ql_H) (Q : Int32 → ql_H → Prop) : Prop :=
ql_rv h rp0 12 fun b1 => qw_X11_inForceShare b1  h (fun f1 h =>
vf_n64 (FP.f2d f1) ∧
ql_sD h rp1 (0 : Int32) (FP.f2d f1) fun h =>
Q (0 : Int32) h) (fun E h => if E = "java/lang/ArithmeticException" then (Q (1 : Int32) h) else False)
set_option maxHeartbeats 4000000 in
set_option maxRecDepth 100000 in
theorem qm_L_inForceShare (l : Launch) (hl9 : l.stackTraces = false) (D : ql_D) (h0 : ql_H) (rp0 : Option Nat) (rp1 : Option Nat) (Q : Int32 → ql_H → Prop) (X : String → ql_H → Prop) (w : qw_L_inForceShare rp0 rp1 h0 Q) : ql_MH D l yL_inForceShare cL_inForceShare 3 (some .int) [(0, 8, 11, 122)] ({ frames := 10, cells := 1, slots := 6, locals := 168 } : Room) h0 [va_rf rp0, va_rf rp1] (ql_rI Q) X 1 6 := by
  refine ql_ofWH (by decide) (by cases rp0 <;> cases rp1 <;> exact Nat.le_of_ble_eq_true rfl) ?_
  intro p e s m below meth c ls C hr hlocks hnm htab9 S hl
  rw [show lv_args 0 [va_rf rp0, va_rf rp1] = [(0, va_rf rp0), (1, va_rf rp1)] from by cases rp0 <;> cases rp1 <;> rfl] at hl
  unfold qw_L_inForceShare at w
  refine ql_aload_n (r := rp1) C dL_inForceShare_0 rfl (lv_at hl 1 rfl) ?_
  refine lv_iconst (v := (0 : Int32)) C.1.1 C.1.2.1 dL_inForceShare_1 (by decide) ?_
  refine ql_aload_n (r := rp0) C dL_inForceShare_2 rfl (lv_at hl 0 rfl) ?_
  refine ql_HVF (As := []) (rest := [.int (0 : Int32), va_rf rp1]) C S hl qy_X11_inForceShare qi_X11_inForceShare qs_X11_inForceShare gw_1195 (ci := 12) rfl w (fun b w => qm_X11_inForceShare l hl9 D _ b _ _ w) rfl ⟨Nat.le_of_ble_eq_true rfl, Nat.le_of_ble_eq_true rfl⟩ ⟨rfl, rfl⟩ (by generalize rp1 = z0; cases z0 <;> exact Nat.le_of_ble_eq_true rfl) (fun b e9 => by cases e9; rfl) dL_inForceShare_3 ⟨Nat.le_of_ble_eq_true rfl, Nat.le_of_ble_eq_true rfl⟩ (fun E ce q9 h H locs w S g1 g2 g3 => ?_) (fun f1 h H locs S w => ?_)
  · by_cases c9 : E = "java/lang/ArithmeticException"
    · replace w := ql_if w c9
      subst c9
      refine ql_catch C htab9 [] (0, 8, 11, 122) [] rfl (fun z hz => nomatch hz) rfl (by decide) gw_1165 (by decide +kernel) g1 g2 g3 (tgt := 11) rfl ?_
      refine ql_astore_n (lv' := [(2, va_rf (some q9)), (0, va_rf rp0), (1, va_rf rp1)]) C dL_inForceShare_11 rfl hl (by decide) (by generalize rp1 = z9; cases z9 <;> rfl) (fun ls hl => ?_)
      refine lv_iconst (v := (1 : Int32)) C.1.1 C.1.2.1 dL_inForceShare_12 (by decide) ?_
      exact ql_iret C S hr hlocks dL_inForceShare_13 ⟨Nat.le_of_ble_eq_true rfl, Nat.le_of_ble_eq_true rfl⟩ w
    replace w := ql_ifn w c9
    clear c9
    exact w.elim
  refine W.cs (cells' := 1) (slots' := 6) rfl rfl ?_
  refine lv_f2d C.1.1 C.1.2.1 dL_inForceShare_6 w.1 ?_
  replace w := w.2
  refine ql_dast C S dL_inForceShare_7 w (fun h H locs S w => ?_)
  refine lv_goto (tgt := 14) C.1.1 C.1.2.1 dL_inForceShare_8 (by decide) ?_
  refine lv_iconst (v := (0 : Int32)) C.1.1 C.1.2.1 dL_inForceShare_14 (by decide) ?_
  exact ql_iret C S hr hlocks dL_inForceShare_15 ⟨Nat.le_of_ble_eq_true rfl, Nat.le_of_ble_eq_true rfl⟩ w
def qw_L_renderClause (σ : Nat → Nat) (rp0 : Option Nat) (xp1 : Int32) (rp2 : Option Nat) (h : ql_H) (Q : Int32 → ql_H → Prop) : Prop :=
ql_rv h rp0 12 fun b1 => qw_X11_renderClause σ b1 xp1 h (fun x1 h =>
ql_sJ h rp2 (0 : Int32) x1.toInt64 fun h =>
Q (0 : Int32) h) (fun E h => if E = "java/util/NoSuchElementException" then (Q (1 : Int32) h) else False)
set_option maxHeartbeats 4000000 in
set_option maxRecDepth 100000 in
theorem qm_L_renderClause (l : Launch) (hl9 : l.stackTraces = false) (D : ql_D) (h0 : ql_H) (rp0 : Option Nat) (xp1 : Int32) (rp2 : Option Nat) (Q : Int32 → ql_H → Prop) (X : String → ql_H → Prop) (w : qw_L_renderClause D.2 rp0 xp1 rp2 h0 Q) : ql_MH D l yL_renderClause cL_renderClause 4 (some .int) [(0, 9, 12, 23)] ({ frames := 18, cells := 21, slots := 5126, locals := 291 } : Room) h0 [va_rf rp0, .int xp1, va_rf rp2] (ql_rI Q) X 21 5126 := by
  refine ql_ofWH (by decide) (by cases rp0 <;> cases rp2 <;> exact Nat.le_of_ble_eq_true rfl) ?_
  intro p e s m below meth c ls C hr hlocks hnm htab9 S hl
  rw [show lv_args 0 [va_rf rp0, .int xp1, va_rf rp2] = [(0, va_rf rp0), (1, .int xp1), (2, va_rf rp2)] from by cases rp0 <;> cases rp2 <;> rfl] at hl
  unfold qw_L_renderClause at w
  refine ql_aload_n (r := rp2) C dL_renderClause_0 rfl (lv_at hl 2 rfl) ?_
  refine lv_iconst (v := (0 : Int32)) C.1.1 C.1.2.1 dL_renderClause_1 (by decide) ?_
  refine ql_aload_n (r := rp0) C dL_renderClause_2 rfl (lv_at hl 0 rfl) ?_
  refine lv_iload_n C.1.1 C.1.2.1 dL_renderClause_3 rfl (lv_at hl 1 rfl) ?_
  refine ql_HVI (As := [.int xp1]) (rest := [.int (0 : Int32), va_rf rp2]) C S hl qy_X11_renderClause qi_X11_renderClause qs_X11_renderClause gw_1202 (ci := 12) rfl w (fun b w => qm_X11_renderClause l hl9 D _ b xp1 _ _ w) rfl ⟨Nat.le_of_ble_eq_true rfl, Nat.le_of_ble_eq_true rfl⟩ ⟨rfl, rfl⟩ (by generalize rp2 = z0; cases z0 <;> exact Nat.le_of_ble_eq_true rfl) (fun b e9 => by cases e9; rfl) dL_renderClause_4 ⟨Nat.le_of_ble_eq_true rfl, Nat.le_of_ble_eq_true rfl⟩ (fun E ce q9 h H locs w S g1 g2 g3 => ?_) (fun x1 h H locs S w => ?_)
  · by_cases c9 : E = "java/util/NoSuchElementException"
    · replace w := ql_if w c9
      subst c9
      refine ql_catch C htab9 [] (0, 9, 12, 23) [] rfl (fun z hz => nomatch hz) rfl (by decide) gw_804 (by decide +kernel) g1 g2 g3 (tgt := 12) rfl ?_
      refine ql_astore_n (lv' := [(3, va_rf (some q9)), (0, va_rf rp0), (1, .int xp1), (2, va_rf rp2)]) C dL_renderClause_12 rfl hl (by decide) (by generalize rp2 = z9; cases z9 <;> rfl) (fun ls hl => ?_)
      refine lv_iconst (v := (1 : Int32)) C.1.1 C.1.2.1 dL_renderClause_13 (by decide) ?_
      exact ql_iret C S hr hlocks dL_renderClause_14 ⟨Nat.le_of_ble_eq_true rfl, Nat.le_of_ble_eq_true rfl⟩ w
    replace w := ql_ifn w c9
    clear c9
    exact w.elim
  refine W.cs (cells' := 21) (slots' := 5126) rfl rfl ?_
  refine lv_i2l C.1.1 C.1.2.1 dL_renderClause_7 rfl ?_
  refine ql_last C S dL_renderClause_8 w (fun h H locs S w => ?_)
  refine lv_goto (tgt := 15) C.1.1 C.1.2.1 dL_renderClause_9 (by decide) ?_
  refine lv_iconst (v := (0 : Int32)) C.1.1 C.1.2.1 dL_renderClause_15 (by decide) ?_
  exact ql_iret C S hr hlocks dL_renderClause_16 ⟨Nat.le_of_ble_eq_true rfl, Nat.le_of_ble_eq_true rfl⟩ w
def qw_L_outputAt (rp0 : Option Nat) (xp1 : Int32) (rp2 : Option Nat) (h : ql_H) (Q : Int32 → ql_H → Prop) : Prop :=
ql_rv h rp0 12 fun b1 => qw_X11_outputAt b1 xp1 h (fun x1 h =>
ql_sJ h rp2 (0 : Int32) x1.toInt64 fun h =>
Q (0 : Int32) h) (fun E h => if E = "java/lang/IndexOutOfBoundsException" then (Q (1 : Int32) h) else False)
set_option maxHeartbeats 4000000 in
set_option maxRecDepth 100000 in
theorem qm_L_outputAt (l : Launch) (hl9 : l.stackTraces = false) (D : ql_D) (h0 : ql_H) (rp0 : Option Nat) (xp1 : Int32) (rp2 : Option Nat) (Q : Int32 → ql_H → Prop) (X : String → ql_H → Prop) (w : qw_L_outputAt rp0 xp1 rp2 h0 Q) : ql_MH D l yL_outputAt cL_outputAt 4 (some .int) [(0, 9, 12, 25)] ({ frames := 12, cells := 1, slots := 6, locals := 197 } : Room) h0 [va_rf rp0, .int xp1, va_rf rp2] (ql_rI Q) X 1 6 := by
  refine ql_ofWH (by decide) (by cases rp0 <;> cases rp2 <;> exact Nat.le_of_ble_eq_true rfl) ?_
  intro p e s m below meth c ls C hr hlocks hnm htab9 S hl
  rw [show lv_args 0 [va_rf rp0, .int xp1, va_rf rp2] = [(0, va_rf rp0), (1, .int xp1), (2, va_rf rp2)] from by cases rp0 <;> cases rp2 <;> rfl] at hl
  unfold qw_L_outputAt at w
  refine ql_aload_n (r := rp2) C dL_outputAt_0 rfl (lv_at hl 2 rfl) ?_
  refine lv_iconst (v := (0 : Int32)) C.1.1 C.1.2.1 dL_outputAt_1 (by decide) ?_
  refine ql_aload_n (r := rp0) C dL_outputAt_2 rfl (lv_at hl 0 rfl) ?_
  refine lv_iload_n C.1.1 C.1.2.1 dL_outputAt_3 rfl (lv_at hl 1 rfl) ?_
  refine ql_HVI (As := [.int xp1]) (rest := [.int (0 : Int32), va_rf rp2]) C S hl qy_X11_outputAt qi_X11_outputAt qs_X11_outputAt gw_1493 (ci := 12) rfl w (fun b w => qm_X11_outputAt l hl9 D _ b xp1 _ _ w) rfl ⟨Nat.le_of_ble_eq_true rfl, Nat.le_of_ble_eq_true rfl⟩ ⟨rfl, rfl⟩ (by generalize rp2 = z0; cases z0 <;> exact Nat.le_of_ble_eq_true rfl) (fun b e9 => by cases e9; rfl) dL_outputAt_4 ⟨Nat.le_of_ble_eq_true rfl, Nat.le_of_ble_eq_true rfl⟩ (fun E ce q9 h H locs w S g1 g2 g3 => ?_) (fun x1 h H locs S w => ?_)
  · by_cases c9 : E = "java/lang/IndexOutOfBoundsException"
    · replace w := ql_if w c9
      subst c9
      refine ql_catch C htab9 [] (0, 9, 12, 25) [] rfl (fun z hz => nomatch hz) rfl (by decide) gw_805 (by decide +kernel) g1 g2 g3 (tgt := 12) rfl ?_
      refine ql_astore_n (lv' := [(3, va_rf (some q9)), (0, va_rf rp0), (1, .int xp1), (2, va_rf rp2)]) C dL_outputAt_12 rfl hl (by decide) (by generalize rp2 = z9; cases z9 <;> rfl) (fun ls hl => ?_)
      refine lv_iconst (v := (1 : Int32)) C.1.1 C.1.2.1 dL_outputAt_13 (by decide) ?_
      exact ql_iret C S hr hlocks dL_outputAt_14 ⟨Nat.le_of_ble_eq_true rfl, Nat.le_of_ble_eq_true rfl⟩ w
    replace w := ql_ifn w c9
    clear c9
    exact w.elim
  refine W.cs (cells' := 1) (slots' := 6) rfl rfl ?_
  refine lv_i2l C.1.1 C.1.2.1 dL_outputAt_7 rfl ?_
  refine ql_last C S dL_outputAt_8 w (fun h H locs S w => ?_)
  refine lv_goto (tgt := 15) C.1.1 C.1.2.1 dL_outputAt_9 (by decide) ?_
  refine lv_iconst (v := (0 : Int32)) C.1.1 C.1.2.1 dL_outputAt_15 (by decide) ?_
  exact ql_iret C S hr hlocks dL_outputAt_16 ⟨Nat.le_of_ble_eq_true rfl, Nat.le_of_ble_eq_true rfl⟩ w
def qw_L_type (rp0 : Option Nat) (xp1 : Int32) (rp2 : Option Nat) (h : ql_H) (Q : Int32 → ql_H → Prop) : Prop :=
ql_rv h rp0 12 fun b1 => qw_X11_type b1 xp1 h (fun x1 h =>
ql_sJ h rp2 (0 : Int32) x1.toInt64 fun h =>
Q (0 : Int32) h) (fun E h => if E = "java/lang/IllegalArgumentException" then (Q (1 : Int32) h) else if E = "java/lang/IllegalStateException" then (Q (2 : Int32) h) else False)
set_option maxHeartbeats 4000000 in
set_option maxRecDepth 100000 in
theorem qm_L_type (l : Launch) (hl9 : l.stackTraces = false) (D : ql_D) (h0 : ql_H) (rp0 : Option Nat) (xp1 : Int32) (rp2 : Option Nat) (Q : Int32 → ql_H → Prop) (X : String → ql_H → Prop) (w : qw_L_type rp0 xp1 rp2 h0 Q) : ql_MH D l yL_type cL_type 4 (some .int) [(0, 9, 12, 13), (0, 9, 15, 15)] ({ frames := 18, cells := 1, slots := 256, locals := 287 } : Room) h0 [va_rf rp0, .int xp1, va_rf rp2] (ql_rI Q) X 1 256 := by
  refine ql_ofWH (by decide) (by cases rp0 <;> cases rp2 <;> exact Nat.le_of_ble_eq_true rfl) ?_
  intro p e s m below meth c ls C hr hlocks hnm htab9 S hl
  rw [show lv_args 0 [va_rf rp0, .int xp1, va_rf rp2] = [(0, va_rf rp0), (1, .int xp1), (2, va_rf rp2)] from by cases rp0 <;> cases rp2 <;> rfl] at hl
  unfold qw_L_type at w
  refine ql_aload_n (r := rp2) C dL_type_0 rfl (lv_at hl 2 rfl) ?_
  refine lv_iconst (v := (0 : Int32)) C.1.1 C.1.2.1 dL_type_1 (by decide) ?_
  refine ql_aload_n (r := rp0) C dL_type_2 rfl (lv_at hl 0 rfl) ?_
  refine lv_iload_n C.1.1 C.1.2.1 dL_type_3 rfl (lv_at hl 1 rfl) ?_
  refine ql_HVI (As := [.int xp1]) (rest := [.int (0 : Int32), va_rf rp2]) C S hl qy_X11_type qi_X11_type qs_X11_type gw_1510 (ci := 12) rfl w (fun b w => qm_X11_type l hl9 D _ b xp1 _ _ w) rfl ⟨Nat.le_of_ble_eq_true rfl, Nat.le_of_ble_eq_true rfl⟩ ⟨rfl, rfl⟩ (by generalize rp2 = z0; cases z0 <;> exact Nat.le_of_ble_eq_true rfl) (fun b e9 => by cases e9; rfl) dL_type_4 ⟨Nat.le_of_ble_eq_true rfl, Nat.le_of_ble_eq_true rfl⟩ (fun E ce q9 h H locs w S g1 g2 g3 => ?_) (fun x1 h H locs S w => ?_)
  · by_cases c9 : E = "java/lang/IllegalArgumentException"
    · replace w := ql_if w c9
      subst c9
      refine ql_catch C htab9 [] (0, 9, 12, 13) [(0, 9, 15, 15)] rfl (fun z hz => nomatch hz) rfl (by decide) gw_772 (by decide +kernel) g1 g2 g3 (tgt := 12) rfl ?_
      refine ql_astore_n (lv' := [(3, va_rf (some q9)), (0, va_rf rp0), (1, .int xp1), (2, va_rf rp2)]) C dL_type_12 rfl hl (by decide) (by generalize rp2 = z9; cases z9 <;> rfl) (fun ls hl => ?_)
      refine lv_iconst (v := (1 : Int32)) C.1.1 C.1.2.1 dL_type_13 (by decide) ?_
      exact ql_iret C S hr hlocks dL_type_14 ⟨Nat.le_of_ble_eq_true rfl, Nat.le_of_ble_eq_true rfl⟩ w
    replace w := ql_ifn w c9
    clear c9
    by_cases c9 : E = "java/lang/IllegalStateException"
    · replace w := ql_if w c9
      subst c9
      refine ql_catch C htab9 [(0, 9, 12, 13)] (0, 9, 15, 15) [] rfl (fun z hz => by rcases (show z = (0, 9, 12, 13) by simpa using hz) with rfl <;> first | exact ⟨by decide, _, gw_772, by decide +kernel⟩) rfl (by decide) gw_773 (by decide +kernel) g1 g2 g3 (tgt := 15) rfl ?_
      refine ql_astore_n (lv' := [(3, va_rf (some q9)), (0, va_rf rp0), (1, .int xp1), (2, va_rf rp2)]) C dL_type_15 rfl hl (by decide) (by generalize rp2 = z9; cases z9 <;> rfl) (fun ls hl => ?_)
      refine lv_iconst (v := (2 : Int32)) C.1.1 C.1.2.1 dL_type_16 (by decide) ?_
      exact ql_iret C S hr hlocks dL_type_17 ⟨Nat.le_of_ble_eq_true rfl, Nat.le_of_ble_eq_true rfl⟩ w
    replace w := ql_ifn w c9
    clear c9
    exact w.elim
  refine W.cs (cells' := 1) (slots' := 256) rfl rfl ?_
  refine lv_i2l C.1.1 C.1.2.1 dL_type_7 rfl ?_
  refine ql_last C S dL_type_8 w (fun h H locs S w => ?_)
  refine lv_goto (tgt := 18) C.1.1 C.1.2.1 dL_type_9 (by decide) ?_
  refine lv_iconst (v := (0 : Int32)) C.1.1 C.1.2.1 dL_type_18 (by decide) ?_
  exact ql_iret C S hr hlocks dL_type_19 ⟨Nat.le_of_ble_eq_true rfl, Nat.le_of_ble_eq_true rfl⟩ w
def qw_L_runScript (σ : Nat → Nat) (rp0 : Option Nat) (rp1 : Option Nat) (h : ql_H) (Q : Int32 → ql_H → Prop) : Prop :=
ql_rv h rp0 12 fun b1 => qw_X11_runScript σ b1  h (fun x1 h =>
ql_sJ h rp1 (0 : Int32) x1.toInt64 fun h =>
Q (0 : Int32) h) (fun E h => if E = "java/lang/IllegalArgumentException" then (Q (1 : Int32) h) else if E = "java/lang/IllegalStateException" then (Q (2 : Int32) h) else False)
set_option maxHeartbeats 4000000 in
set_option maxRecDepth 100000 in
theorem qm_L_runScript (l : Launch) (hl9 : l.stackTraces = false) (D : ql_D) (h0 : ql_H) (rp0 : Option Nat) (rp1 : Option Nat) (Q : Int32 → ql_H → Prop) (X : String → ql_H → Prop) (w : qw_L_runScript D.2 rp0 rp1 h0 Q) : ql_MH D l yL_runScript cL_runScript 3 (some .int) [(0, 8, 11, 13), (0, 8, 14, 15)] ({ frames := 22, cells := 2, slots := 262, locals := 352 } : Room) h0 [va_rf rp0, va_rf rp1] (ql_rI Q) X 2 262 := by
  refine ql_ofWH (by decide) (by cases rp0 <;> cases rp1 <;> exact Nat.le_of_ble_eq_true rfl) ?_
  intro p e s m below meth c ls C hr hlocks hnm htab9 S hl
  rw [show lv_args 0 [va_rf rp0, va_rf rp1] = [(0, va_rf rp0), (1, va_rf rp1)] from by cases rp0 <;> cases rp1 <;> rfl] at hl
  unfold qw_L_runScript at w
  refine ql_aload_n (r := rp1) C dL_runScript_0 rfl (lv_at hl 1 rfl) ?_
  refine lv_iconst (v := (0 : Int32)) C.1.1 C.1.2.1 dL_runScript_1 (by decide) ?_
  refine ql_aload_n (r := rp0) C dL_runScript_2 rfl (lv_at hl 0 rfl) ?_
  refine ql_HVI (As := []) (rest := [.int (0 : Int32), va_rf rp1]) C S hl qy_X11_runScript qi_X11_runScript qs_X11_runScript gw_1527 (ci := 12) rfl w (fun b w => qm_X11_runScript l hl9 D _ b _ _ w) rfl ⟨Nat.le_of_ble_eq_true rfl, Nat.le_of_ble_eq_true rfl⟩ ⟨rfl, rfl⟩ (by generalize rp1 = z0; cases z0 <;> exact Nat.le_of_ble_eq_true rfl) (fun b e9 => by cases e9; rfl) dL_runScript_3 ⟨Nat.le_of_ble_eq_true rfl, Nat.le_of_ble_eq_true rfl⟩ (fun E ce q9 h H locs w S g1 g2 g3 => ?_) (fun x1 h H locs S w => ?_)
  · by_cases c9 : E = "java/lang/IllegalArgumentException"
    · replace w := ql_if w c9
      subst c9
      refine ql_catch C htab9 [] (0, 8, 11, 13) [(0, 8, 14, 15)] rfl (fun z hz => nomatch hz) rfl (by decide) gw_772 (by decide +kernel) g1 g2 g3 (tgt := 11) rfl ?_
      refine ql_astore_n (lv' := [(2, va_rf (some q9)), (0, va_rf rp0), (1, va_rf rp1)]) C dL_runScript_11 rfl hl (by decide) (by generalize rp1 = z9; cases z9 <;> rfl) (fun ls hl => ?_)
      refine lv_iconst (v := (1 : Int32)) C.1.1 C.1.2.1 dL_runScript_12 (by decide) ?_
      exact ql_iret C S hr hlocks dL_runScript_13 ⟨Nat.le_of_ble_eq_true rfl, Nat.le_of_ble_eq_true rfl⟩ w
    replace w := ql_ifn w c9
    clear c9
    by_cases c9 : E = "java/lang/IllegalStateException"
    · replace w := ql_if w c9
      subst c9
      refine ql_catch C htab9 [(0, 8, 11, 13)] (0, 8, 14, 15) [] rfl (fun z hz => by rcases (show z = (0, 8, 11, 13) by simpa using hz) with rfl <;> first | exact ⟨by decide, _, gw_772, by decide +kernel⟩) rfl (by decide) gw_773 (by decide +kernel) g1 g2 g3 (tgt := 14) rfl ?_
      refine ql_astore_n (lv' := [(2, va_rf (some q9)), (0, va_rf rp0), (1, va_rf rp1)]) C dL_runScript_14 rfl hl (by decide) (by generalize rp1 = z9; cases z9 <;> rfl) (fun ls hl => ?_)
      refine lv_iconst (v := (2 : Int32)) C.1.1 C.1.2.1 dL_runScript_15 (by decide) ?_
      exact ql_iret C S hr hlocks dL_runScript_16 ⟨Nat.le_of_ble_eq_true rfl, Nat.le_of_ble_eq_true rfl⟩ w
    replace w := ql_ifn w c9
    clear c9
    exact w.elim
  refine W.cs (cells' := 2) (slots' := 262) rfl rfl ?_
  refine lv_i2l C.1.1 C.1.2.1 dL_runScript_6 rfl ?_
  refine ql_last C S dL_runScript_7 w (fun h H locs S w => ?_)
  refine lv_goto (tgt := 17) C.1.1 C.1.2.1 dL_runScript_8 (by decide) ?_
  refine lv_iconst (v := (0 : Int32)) C.1.1 C.1.2.1 dL_runScript_17 (by decide) ?_
  exact ql_iret C S hr hlocks dL_runScript_18 ⟨Nat.le_of_ble_eq_true rfl, Nat.le_of_ble_eq_true rfl⟩ w
def qw_L_errorPosition (rp0 : Option Nat) (rp1 : Option Nat) (h : ql_H) (Q : Int32 → ql_H → Prop) : Prop :=
ql_rv h rp0 12 fun b1 => qw_X11_errorPosition b1  h (fun x1 h =>
ql_sJ h rp1 (0 : Int32) x1.toInt64 fun h =>
Q (0 : Int32) h) (fun E h => if E = "java/util/NoSuchElementException" then (Q (1 : Int32) h) else False)
set_option maxHeartbeats 4000000 in
set_option maxRecDepth 100000 in
theorem qm_L_errorPosition (l : Launch) (hl9 : l.stackTraces = false) (D : ql_D) (h0 : ql_H) (rp0 : Option Nat) (rp1 : Option Nat) (Q : Int32 → ql_H → Prop) (X : String → ql_H → Prop) (w : qw_L_errorPosition rp0 rp1 h0 Q) : ql_MH D l yL_errorPosition cL_errorPosition 3 (some .int) [(0, 8, 11, 23)] ({ frames := 10, cells := 1, slots := 6, locals := 129 } : Room) h0 [va_rf rp0, va_rf rp1] (ql_rI Q) X 1 6 := by
  refine ql_ofWH (by decide) (by cases rp0 <;> cases rp1 <;> exact Nat.le_of_ble_eq_true rfl) ?_
  intro p e s m below meth c ls C hr hlocks hnm htab9 S hl
  rw [show lv_args 0 [va_rf rp0, va_rf rp1] = [(0, va_rf rp0), (1, va_rf rp1)] from by cases rp0 <;> cases rp1 <;> rfl] at hl
  unfold qw_L_errorPosition at w
  refine ql_aload_n (r := rp1) C dL_errorPosition_0 rfl (lv_at hl 1 rfl) ?_
  refine lv_iconst (v := (0 : Int32)) C.1.1 C.1.2.1 dL_errorPosition_1 (by decide) ?_
  refine ql_aload_n (r := rp0) C dL_errorPosition_2 rfl (lv_at hl 0 rfl) ?_
  refine ql_HVI (As := []) (rest := [.int (0 : Int32), va_rf rp1]) C S hl qy_X11_errorPosition qi_X11_errorPosition qs_X11_errorPosition gw_1629 (ci := 12) rfl w (fun b w => qm_X11_errorPosition l hl9 D _ b _ _ w) rfl ⟨Nat.le_of_ble_eq_true rfl, Nat.le_of_ble_eq_true rfl⟩ ⟨rfl, rfl⟩ (by generalize rp1 = z0; cases z0 <;> exact Nat.le_of_ble_eq_true rfl) (fun b e9 => by cases e9; rfl) dL_errorPosition_3 ⟨Nat.le_of_ble_eq_true rfl, Nat.le_of_ble_eq_true rfl⟩ (fun E ce q9 h H locs w S g1 g2 g3 => ?_) (fun x1 h H locs S w => ?_)
  · by_cases c9 : E = "java/util/NoSuchElementException"
    · replace w := ql_if w c9
      subst c9
      refine ql_catch C htab9 [] (0, 8, 11, 23) [] rfl (fun z hz => nomatch hz) rfl (by decide) gw_804 (by decide +kernel) g1 g2 g3 (tgt := 11) rfl ?_
      refine ql_astore_n (lv' := [(2, va_rf (some q9)), (0, va_rf rp0), (1, va_rf rp1)]) C dL_errorPosition_11 rfl hl (by decide) (by generalize rp1 = z9; cases z9 <;> rfl) (fun ls hl => ?_)
      refine lv_iconst (v := (1 : Int32)) C.1.1 C.1.2.1 dL_errorPosition_12 (by decide) ?_
      exact ql_iret C S hr hlocks dL_errorPosition_13 ⟨Nat.le_of_ble_eq_true rfl, Nat.le_of_ble_eq_true rfl⟩ w
    replace w := ql_ifn w c9
    clear c9
    exact w.elim
  refine W.cs (cells' := 1) (slots' := 6) rfl rfl ?_
  refine lv_i2l C.1.1 C.1.2.1 dL_errorPosition_6 rfl ?_
  refine ql_last C S dL_errorPosition_7 w (fun h H locs S w => ?_)
  refine lv_goto (tgt := 14) C.1.1 C.1.2.1 dL_errorPosition_8 (by decide) ?_
  refine lv_iconst (v := (0 : Int32)) C.1.1 C.1.2.1 dL_errorPosition_14 (by decide) ?_
  exact ql_iret C S hr hlocks dL_errorPosition_15 ⟨Nat.le_of_ble_eq_true rfl, Nat.le_of_ble_eq_true rfl⟩ w
def qw_L_failedCommand (rp0 : Option Nat) (rp1 : Option Nat) (h : ql_H) (Q : Int32 → ql_H → Prop) : Prop :=
ql_rv h rp0 12 fun b1 => qw_X11_failedCommand b1  h (fun x1 h =>
ql_sJ h rp1 (0 : Int32) x1.toInt64 fun h =>
Q (0 : Int32) h) (fun E h => if E = "java/util/NoSuchElementException" then (Q (1 : Int32) h) else False)
set_option maxHeartbeats 4000000 in
set_option maxRecDepth 100000 in
theorem qm_L_failedCommand (l : Launch) (hl9 : l.stackTraces = false) (D : ql_D) (h0 : ql_H) (rp0 : Option Nat) (rp1 : Option Nat) (Q : Int32 → ql_H → Prop) (X : String → ql_H → Prop) (w : qw_L_failedCommand rp0 rp1 h0 Q) : ql_MH D l yL_failedCommand cL_failedCommand 3 (some .int) [(0, 8, 11, 23)] ({ frames := 10, cells := 1, slots := 6, locals := 129 } : Room) h0 [va_rf rp0, va_rf rp1] (ql_rI Q) X 1 6 := by
  refine ql_ofWH (by decide) (by cases rp0 <;> cases rp1 <;> exact Nat.le_of_ble_eq_true rfl) ?_
  intro p e s m below meth c ls C hr hlocks hnm htab9 S hl
  rw [show lv_args 0 [va_rf rp0, va_rf rp1] = [(0, va_rf rp0), (1, va_rf rp1)] from by cases rp0 <;> cases rp1 <;> rfl] at hl
  unfold qw_L_failedCommand at w
  refine ql_aload_n (r := rp1) C dL_failedCommand_0 rfl (lv_at hl 1 rfl) ?_
  refine lv_iconst (v := (0 : Int32)) C.1.1 C.1.2.1 dL_failedCommand_1 (by decide) ?_
  refine ql_aload_n (r := rp0) C dL_failedCommand_2 rfl (lv_at hl 0 rfl) ?_
  refine ql_HVI (As := []) (rest := [.int (0 : Int32), va_rf rp1]) C S hl qy_X11_failedCommand qi_X11_failedCommand qs_X11_failedCommand gw_1636 (ci := 12) rfl w (fun b w => qm_X11_failedCommand l hl9 D _ b _ _ w) rfl ⟨Nat.le_of_ble_eq_true rfl, Nat.le_of_ble_eq_true rfl⟩ ⟨rfl, rfl⟩ (by generalize rp1 = z0; cases z0 <;> exact Nat.le_of_ble_eq_true rfl) (fun b e9 => by cases e9; rfl) dL_failedCommand_3 ⟨Nat.le_of_ble_eq_true rfl, Nat.le_of_ble_eq_true rfl⟩ (fun E ce q9 h H locs w S g1 g2 g3 => ?_) (fun x1 h H locs S w => ?_)
  · by_cases c9 : E = "java/util/NoSuchElementException"
    · replace w := ql_if w c9
      subst c9
      refine ql_catch C htab9 [] (0, 8, 11, 23) [] rfl (fun z hz => nomatch hz) rfl (by decide) gw_804 (by decide +kernel) g1 g2 g3 (tgt := 11) rfl ?_
      refine ql_astore_n (lv' := [(2, va_rf (some q9)), (0, va_rf rp0), (1, va_rf rp1)]) C dL_failedCommand_11 rfl hl (by decide) (by generalize rp1 = z9; cases z9 <;> rfl) (fun ls hl => ?_)
      refine lv_iconst (v := (1 : Int32)) C.1.1 C.1.2.1 dL_failedCommand_12 (by decide) ?_
      exact ql_iret C S hr hlocks dL_failedCommand_13 ⟨Nat.le_of_ble_eq_true rfl, Nat.le_of_ble_eq_true rfl⟩ w
    replace w := ql_ifn w c9
    clear c9
    exact w.elim
  refine W.cs (cells' := 1) (slots' := 6) rfl rfl ?_
  refine lv_i2l C.1.1 C.1.2.1 dL_failedCommand_6 rfl ?_
  refine ql_last C S dL_failedCommand_7 w (fun h H locs S w => ?_)
  refine lv_goto (tgt := 14) C.1.1 C.1.2.1 dL_failedCommand_8 (by decide) ?_
  refine lv_iconst (v := (0 : Int32)) C.1.1 C.1.2.1 dL_failedCommand_14 (by decide) ?_
  exact ql_iret C S hr hlocks dL_failedCommand_15 ⟨Nat.le_of_ble_eq_true rfl, Nat.le_of_ble_eq_true rfl⟩ w
def qw_L_undo (rp0 : Option Nat) (rp1 : Option Nat) (h : ql_H) (Q : Int32 → ql_H → Prop) : Prop :=
ql_rv h rp0 12 fun b1 => qw_X11_undo b1  h (fun x1 h =>
ql_sJ h rp1 (0 : Int32) x1.toInt64 fun h =>
Q (0 : Int32) h) (fun E h => if E = "java/util/NoSuchElementException" then (Q (1 : Int32) h) else False)
set_option maxHeartbeats 4000000 in
set_option maxRecDepth 100000 in
theorem qm_L_undo (l : Launch) (hl9 : l.stackTraces = false) (D : ql_D) (h0 : ql_H) (rp0 : Option Nat) (rp1 : Option Nat) (Q : Int32 → ql_H → Prop) (X : String → ql_H → Prop) (w : qw_L_undo rp0 rp1 h0 Q) : ql_MH D l yL_undo cL_undo 3 (some .int) [(0, 8, 11, 23)] ({ frames := 11, cells := 1, slots := 6, locals := 184 } : Room) h0 [va_rf rp0, va_rf rp1] (ql_rI Q) X 1 6 := by
  refine ql_ofWH (by decide) (by cases rp0 <;> cases rp1 <;> exact Nat.le_of_ble_eq_true rfl) ?_
  intro p e s m below meth c ls C hr hlocks hnm htab9 S hl
  rw [show lv_args 0 [va_rf rp0, va_rf rp1] = [(0, va_rf rp0), (1, va_rf rp1)] from by cases rp0 <;> cases rp1 <;> rfl] at hl
  unfold qw_L_undo at w
  refine ql_aload_n (r := rp1) C dL_undo_0 rfl (lv_at hl 1 rfl) ?_
  refine lv_iconst (v := (0 : Int32)) C.1.1 C.1.2.1 dL_undo_1 (by decide) ?_
  refine ql_aload_n (r := rp0) C dL_undo_2 rfl (lv_at hl 0 rfl) ?_
  refine ql_HVI (As := []) (rest := [.int (0 : Int32), va_rf rp1]) C S hl qy_X11_undo qi_X11_undo qs_X11_undo gw_1643 (ci := 12) rfl w (fun b w => qm_X11_undo l hl9 D _ b _ _ w) rfl ⟨Nat.le_of_ble_eq_true rfl, Nat.le_of_ble_eq_true rfl⟩ ⟨rfl, rfl⟩ (by generalize rp1 = z0; cases z0 <;> exact Nat.le_of_ble_eq_true rfl) (fun b e9 => by cases e9; rfl) dL_undo_3 ⟨Nat.le_of_ble_eq_true rfl, Nat.le_of_ble_eq_true rfl⟩ (fun E ce q9 h H locs w S g1 g2 g3 => ?_) (fun x1 h H locs S w => ?_)
  · by_cases c9 : E = "java/util/NoSuchElementException"
    · replace w := ql_if w c9
      subst c9
      refine ql_catch C htab9 [] (0, 8, 11, 23) [] rfl (fun z hz => nomatch hz) rfl (by decide) gw_804 (by decide +kernel) g1 g2 g3 (tgt := 11) rfl ?_
      refine ql_astore_n (lv' := [(2, va_rf (some q9)), (0, va_rf rp0), (1, va_rf rp1)]) C dL_undo_11 rfl hl (by decide) (by generalize rp1 = z9; cases z9 <;> rfl) (fun ls hl => ?_)
      refine lv_iconst (v := (1 : Int32)) C.1.1 C.1.2.1 dL_undo_12 (by decide) ?_
      exact ql_iret C S hr hlocks dL_undo_13 ⟨Nat.le_of_ble_eq_true rfl, Nat.le_of_ble_eq_true rfl⟩ w
    replace w := ql_ifn w c9
    clear c9
    exact w.elim
  refine W.cs (cells' := 1) (slots' := 6) rfl rfl ?_
  refine lv_i2l C.1.1 C.1.2.1 dL_undo_6 rfl ?_
  refine ql_last C S dL_undo_7 w (fun h H locs S w => ?_)
  refine lv_goto (tgt := 14) C.1.1 C.1.2.1 dL_undo_8 (by decide) ?_
  refine lv_iconst (v := (0 : Int32)) C.1.1 C.1.2.1 dL_undo_14 (by decide) ?_
  exact ql_iret C S hr hlocks dL_undo_15 ⟨Nat.le_of_ble_eq_true rfl, Nat.le_of_ble_eq_true rfl⟩ w
def qw_L_restore (rp0 : Option Nat) (rp1 : Option Nat) (h : ql_H) (Q : Int32 → ql_H → Prop) : Prop :=
ql_rv h rp0 12 fun b1 => qw_X11_restore b1  h (fun x1 h =>
ql_sJ h rp1 (0 : Int32) x1.toInt64 fun h =>
Q (0 : Int32) h) (fun E h => if E = "java/lang/IllegalStateException" then (Q (1 : Int32) h) else False)
set_option maxHeartbeats 4000000 in
set_option maxRecDepth 100000 in
theorem qm_L_restore (l : Launch) (hl9 : l.stackTraces = false) (D : ql_D) (h0 : ql_H) (rp0 : Option Nat) (rp1 : Option Nat) (Q : Int32 → ql_H → Prop) (X : String → ql_H → Prop) (w : qw_L_restore rp0 rp1 h0 Q) : ql_MH D l yL_restore cL_restore 3 (some .int) [(0, 8, 11, 15)] ({ frames := 10, cells := 1, slots := 6, locals := 155 } : Room) h0 [va_rf rp0, va_rf rp1] (ql_rI Q) X 1 6 := by
  refine ql_ofWH (by decide) (by cases rp0 <;> cases rp1 <;> exact Nat.le_of_ble_eq_true rfl) ?_
  intro p e s m below meth c ls C hr hlocks hnm htab9 S hl
  rw [show lv_args 0 [va_rf rp0, va_rf rp1] = [(0, va_rf rp0), (1, va_rf rp1)] from by cases rp0 <;> cases rp1 <;> rfl] at hl
  unfold qw_L_restore at w
  refine ql_aload_n (r := rp1) C dL_restore_0 rfl (lv_at hl 1 rfl) ?_
  refine lv_iconst (v := (0 : Int32)) C.1.1 C.1.2.1 dL_restore_1 (by decide) ?_
  refine ql_aload_n (r := rp0) C dL_restore_2 rfl (lv_at hl 0 rfl) ?_
  refine ql_HVI (As := []) (rest := [.int (0 : Int32), va_rf rp1]) C S hl qy_X11_restore qi_X11_restore qs_X11_restore gw_1654 (ci := 12) rfl w (fun b w => qm_X11_restore l hl9 D _ b _ _ w) rfl ⟨Nat.le_of_ble_eq_true rfl, Nat.le_of_ble_eq_true rfl⟩ ⟨rfl, rfl⟩ (by generalize rp1 = z0; cases z0 <;> exact Nat.le_of_ble_eq_true rfl) (fun b e9 => by cases e9; rfl) dL_restore_3 ⟨Nat.le_of_ble_eq_true rfl, Nat.le_of_ble_eq_true rfl⟩ (fun E ce q9 h H locs w S g1 g2 g3 => ?_) (fun x1 h H locs S w => ?_)
  · by_cases c9 : E = "java/lang/IllegalStateException"
    · replace w := ql_if w c9
      subst c9
      refine ql_catch C htab9 [] (0, 8, 11, 15) [] rfl (fun z hz => nomatch hz) rfl (by decide) gw_773 (by decide +kernel) g1 g2 g3 (tgt := 11) rfl ?_
      refine ql_astore_n (lv' := [(2, va_rf (some q9)), (0, va_rf rp0), (1, va_rf rp1)]) C dL_restore_11 rfl hl (by decide) (by generalize rp1 = z9; cases z9 <;> rfl) (fun ls hl => ?_)
      refine lv_iconst (v := (1 : Int32)) C.1.1 C.1.2.1 dL_restore_12 (by decide) ?_
      exact ql_iret C S hr hlocks dL_restore_13 ⟨Nat.le_of_ble_eq_true rfl, Nat.le_of_ble_eq_true rfl⟩ w
    replace w := ql_ifn w c9
    clear c9
    exact w.elim
  refine W.cs (cells' := 1) (slots' := 6) rfl rfl ?_
  refine lv_i2l C.1.1 C.1.2.1 dL_restore_6 rfl ?_
  refine ql_last C S dL_restore_7 w (fun h H locs S w => ?_)
  refine lv_goto (tgt := 14) C.1.1 C.1.2.1 dL_restore_8 (by decide) ?_
  refine lv_iconst (v := (0 : Int32)) C.1.1 C.1.2.1 dL_restore_14 (by decide) ?_
  exact ql_iret C S hr hlocks dL_restore_15 ⟨Nat.le_of_ble_eq_true rfl, Nat.le_of_ble_eq_true rfl⟩ w
def qw_L_law_2957 (σ : Nat → Nat) (L9 : Nat) (xs9 : Nat → Int32) (a0 : Nat) (Q : Int32 → ql_H → Prop) (X : String → ql_H → Prop) (k28 : Option Nat → Option Nat → Option Nat → Option Nat → Int32 → ql_H → Prop) (rl1 : Option Nat) (rl2 : Option Nat) (rl3 : Option Nat) (rl4 : Option Nat) (xl5 : Int32) (h : ql_H) : Prop :=
k28 rl1 rl2 rl3 rl4 (xl5 + (4 : Int32)) h
def qw_L_law_343 (σ : Nat → Nat) (L9 : Nat) (xs9 : Nat → Int32) (a0 : Nat) (Q : Int32 → ql_H → Prop) (X : String → ql_H → Prop) (k28 : Option Nat → Option Nat → Option Nat → Option Nat → Int32 → ql_H → Prop) (rl1 : Option Nat) (rl2 : Option Nat) (rl3 : Option Nat) (rl4 : Option Nat) (xl5 : Int32) (h : ql_H) : Prop :=
qw_L_law_2957 σ L9 xs9 a0 Q X k28 rl1 rl2 rl3 rl4 xl5 h
def qw_L_law_276 (σ : Nat → Nat) (L9 : Nat) (xs9 : Nat → Int32) (a0 : Nat) (Q : Int32 → ql_H → Prop) (X : String → ql_H → Prop) (k28 : Option Nat → Option Nat → Option Nat → Option Nat → Int32 → ql_H → Prop) (rl1 : Option Nat) (rl2 : Option Nat) (rl3 : Option Nat) (rl4 : Option Nat) (xl5 : Int32) (h : ql_H) : Prop :=
vp_in (xl5 + (1 : Int32)) L9 ∧
vp_in (xl5 + (2 : Int32)) L9 ∧
qw_L_addClause rl1 (xs9 (xl5 + (1 : Int32)).toNatClampNeg) ((xs9 (xl5 + (2 : Int32)).toNatClampNeg).toUInt32 % 65536).toInt32 rl3 h (fun x1 h =>
vp_in (xl5 + (1 : Int32)) L9 ∧
vp_in (xl5 + (2 : Int32)) L9 ∧
ql_rv h rl2 13 fun b2 => qw_X12_addClause b2 (xs9 (xl5 + (1 : Int32)).toNatClampNeg) ((xs9 (xl5 + (2 : Int32)).toNatClampNeg).toUInt32 % 65536).toInt32 h (fun x2 h =>
ql_rv h rl2 13 fun b4 => qw_X12_thrown b4  h (fun x4 h =>
if x4 = x1 then (if x1 = 0 then (ql_lJ h rl3 (0 : Int32) fun j6 =>
if (lg_cmp j6 x2.toInt64) = 0 then (qw_L_law_343 σ L9 xs9 a0 Q X k28 rl1 rl2 rl3 rl4 xl5 h) else (ql_nz .boolean (0 : Int32) ∧ Q (0 : Int32) h)) else (qw_L_law_343 σ L9 xs9 a0 Q X k28 rl1 rl2 rl3 rl4 xl5 h)) else (ql_nz .boolean (0 : Int32) ∧ Q (0 : Int32) h))))
def qw_L_law_425 (σ : Nat → Nat) (L9 : Nat) (xs9 : Nat → Int32) (a0 : Nat) (Q : Int32 → ql_H → Prop) (X : String → ql_H → Prop) (k28 : Option Nat → Option Nat → Option Nat → Option Nat → Int32 → ql_H → Prop) (rl1 : Option Nat) (rl2 : Option Nat) (rl3 : Option Nat) (rl4 : Option Nat) (xl5 : Int32) (h : ql_H) : Prop :=
qw_L_law_2957 σ L9 xs9 a0 Q X k28 rl1 rl2 rl3 rl4 xl5 h
def qw_L_law_346 (σ : Nat → Nat) (L9 : Nat) (xs9 : Nat → Int32) (a0 : Nat) (Q : Int32 → ql_H → Prop) (X : String → ql_H → Prop) (k28 : Option Nat → Option Nat → Option Nat → Option Nat → Int32 → ql_H → Prop) (rl1 : Option Nat) (rl2 : Option Nat) (rl3 : Option Nat) (rl4 : Option Nat) (xl5 : Int32) (h : ql_H) : Prop :=
vp_in (xl5 + (1 : Int32)) L9 ∧
vp_in (xl5 + (2 : Int32)) L9 ∧
vp_in (xl5 + (3 : Int32)) L9 ∧
qw_L_insertNote rl1 (xs9 (xl5 + (1 : Int32)).toNatClampNeg) (xs9 (xl5 + (2 : Int32)).toNatClampNeg) ((xs9 (xl5 + (3 : Int32)).toNatClampNeg).toUInt32 % 65536).toInt32 rl3 h (fun x7 h =>
vp_in (xl5 + (1 : Int32)) L9 ∧
vp_in (xl5 + (2 : Int32)) L9 ∧
vp_in (xl5 + (3 : Int32)) L9 ∧
ql_rv h rl2 13 fun b8 => qw_X12_insertNote b8 (xs9 (xl5 + (1 : Int32)).toNatClampNeg) (xs9 (xl5 + (2 : Int32)).toNatClampNeg) ((xs9 (xl5 + (3 : Int32)).toNatClampNeg).toUInt32 % 65536).toInt32 h (fun x8 h =>
ql_rv h rl2 13 fun b10 => qw_X12_thrown b10  h (fun x10 h =>
if x10 = x7 then (if x7 = 0 then (ql_lJ h rl3 (0 : Int32) fun j12 =>
if (lg_cmp j12 x8.toInt64) = 0 then (qw_L_law_425 σ L9 xs9 a0 Q X k28 rl1 rl2 rl3 rl4 xl5 h) else (ql_nz .boolean (0 : Int32) ∧ Q (0 : Int32) h)) else (qw_L_law_425 σ L9 xs9 a0 Q X k28 rl1 rl2 rl3 rl4 xl5 h)) else (ql_nz .boolean (0 : Int32) ∧ Q (0 : Int32) h))))
def qw_L_law_507 (σ : Nat → Nat) (L9 : Nat) (xs9 : Nat → Int32) (a0 : Nat) (Q : Int32 → ql_H → Prop) (X : String → ql_H → Prop) (k28 : Option Nat → Option Nat → Option Nat → Option Nat → Int32 → ql_H → Prop) (rl1 : Option Nat) (rl2 : Option Nat) (rl3 : Option Nat) (rl4 : Option Nat) (xl5 : Int32) (h : ql_H) : Prop :=
qw_L_law_2957 σ L9 xs9 a0 Q X k28 rl1 rl2 rl3 rl4 xl5 h
def qw_L_law_428 (σ : Nat → Nat) (L9 : Nat) (xs9 : Nat → Int32) (a0 : Nat) (Q : Int32 → ql_H → Prop) (X : String → ql_H → Prop) (k28 : Option Nat → Option Nat → Option Nat → Option Nat → Int32 → ql_H → Prop) (rl1 : Option Nat) (rl2 : Option Nat) (rl3 : Option Nat) (rl4 : Option Nat) (xl5 : Int32) (h : ql_H) : Prop :=
vp_in (xl5 + (1 : Int32)) L9 ∧
vp_in (xl5 + (2 : Int32)) L9 ∧
vp_in (xl5 + (3 : Int32)) L9 ∧
qw_L_replaceNote rl1 (xs9 (xl5 + (1 : Int32)).toNatClampNeg) (xs9 (xl5 + (2 : Int32)).toNatClampNeg) ((xs9 (xl5 + (3 : Int32)).toNatClampNeg).toUInt32 % 65536).toInt32 rl3 h (fun x13 h =>
vp_in (xl5 + (1 : Int32)) L9 ∧
vp_in (xl5 + (2 : Int32)) L9 ∧
vp_in (xl5 + (3 : Int32)) L9 ∧
ql_rv h rl2 13 fun b14 => qw_X12_replaceNote b14 (xs9 (xl5 + (1 : Int32)).toNatClampNeg) (xs9 (xl5 + (2 : Int32)).toNatClampNeg) ((xs9 (xl5 + (3 : Int32)).toNatClampNeg).toUInt32 % 65536).toInt32 h (fun x14 h =>
ql_rv h rl2 13 fun b16 => qw_X12_thrown b16  h (fun x16 h =>
if x16 = x13 then (if x13 = 0 then (ql_lJ h rl3 (0 : Int32) fun j18 =>
if (lg_cmp j18 x14.toInt64) = 0 then (qw_L_law_507 σ L9 xs9 a0 Q X k28 rl1 rl2 rl3 rl4 xl5 h) else (ql_nz .boolean (0 : Int32) ∧ Q (0 : Int32) h)) else (qw_L_law_507 σ L9 xs9 a0 Q X k28 rl1 rl2 rl3 rl4 xl5 h)) else (ql_nz .boolean (0 : Int32) ∧ Q (0 : Int32) h))))
def qw_L_law_575 (σ : Nat → Nat) (L9 : Nat) (xs9 : Nat → Int32) (a0 : Nat) (Q : Int32 → ql_H → Prop) (X : String → ql_H → Prop) (k28 : Option Nat → Option Nat → Option Nat → Option Nat → Int32 → ql_H → Prop) (rl1 : Option Nat) (rl2 : Option Nat) (rl3 : Option Nat) (rl4 : Option Nat) (xl5 : Int32) (h : ql_H) : Prop :=
qw_L_law_2957 σ L9 xs9 a0 Q X k28 rl1 rl2 rl3 rl4 xl5 h
def qw_L_law_510 (σ : Nat → Nat) (L9 : Nat) (xs9 : Nat → Int32) (a0 : Nat) (Q : Int32 → ql_H → Prop) (X : String → ql_H → Prop) (k28 : Option Nat → Option Nat → Option Nat → Option Nat → Int32 → ql_H → Prop) (rl1 : Option Nat) (rl2 : Option Nat) (rl3 : Option Nat) (rl4 : Option Nat) (xl5 : Int32) (h : ql_H) : Prop :=
vp_in (xl5 + (1 : Int32)) L9 ∧
vp_in (xl5 + (2 : Int32)) L9 ∧
qw_L_deleteNote rl1 (xs9 (xl5 + (1 : Int32)).toNatClampNeg) (xs9 (xl5 + (2 : Int32)).toNatClampNeg) rl3 h (fun x19 h =>
vp_in (xl5 + (1 : Int32)) L9 ∧
vp_in (xl5 + (2 : Int32)) L9 ∧
ql_rv h rl2 13 fun b20 => qw_X12_deleteNote b20 (xs9 (xl5 + (1 : Int32)).toNatClampNeg) (xs9 (xl5 + (2 : Int32)).toNatClampNeg) h (fun x20 h =>
ql_rv h rl2 13 fun b22 => qw_X12_thrown b22  h (fun x22 h =>
if x22 = x19 then (if x19 = 0 then (ql_lJ h rl3 (0 : Int32) fun j24 =>
if (lg_cmp j24 x20.toInt64) = 0 then (qw_L_law_575 σ L9 xs9 a0 Q X k28 rl1 rl2 rl3 rl4 xl5 h) else (ql_nz .boolean (0 : Int32) ∧ Q (0 : Int32) h)) else (qw_L_law_575 σ L9 xs9 a0 Q X k28 rl1 rl2 rl3 rl4 xl5 h)) else (ql_nz .boolean (0 : Int32) ∧ Q (0 : Int32) h))))
def qw_L_law_643 (σ : Nat → Nat) (L9 : Nat) (xs9 : Nat → Int32) (a0 : Nat) (Q : Int32 → ql_H → Prop) (X : String → ql_H → Prop) (k28 : Option Nat → Option Nat → Option Nat → Option Nat → Int32 → ql_H → Prop) (rl1 : Option Nat) (rl2 : Option Nat) (rl3 : Option Nat) (rl4 : Option Nat) (xl5 : Int32) (h : ql_H) : Prop :=
qw_L_law_2957 σ L9 xs9 a0 Q X k28 rl1 rl2 rl3 rl4 xl5 h
def qw_L_law_578 (σ : Nat → Nat) (L9 : Nat) (xs9 : Nat → Int32) (a0 : Nat) (Q : Int32 → ql_H → Prop) (X : String → ql_H → Prop) (k28 : Option Nat → Option Nat → Option Nat → Option Nat → Int32 → ql_H → Prop) (rl1 : Option Nat) (rl2 : Option Nat) (rl3 : Option Nat) (rl4 : Option Nat) (xl5 : Int32) (h : ql_H) : Prop :=
vp_in (xl5 + (1 : Int32)) L9 ∧
vp_in (xl5 + (2 : Int32)) L9 ∧
qw_L_setSunset rl1 (xs9 (xl5 + (1 : Int32)).toNatClampNeg) (xs9 (xl5 + (2 : Int32)).toNatClampNeg) rl3 h (fun x25 h =>
vp_in (xl5 + (1 : Int32)) L9 ∧
vp_in (xl5 + (2 : Int32)) L9 ∧
ql_rv h rl2 13 fun b26 => qw_X12_setSunset b26 (xs9 (xl5 + (1 : Int32)).toNatClampNeg) (xs9 (xl5 + (2 : Int32)).toNatClampNeg) h (fun x26 h =>
ql_rv h rl2 13 fun b28 => qw_X12_thrown b28  h (fun x28 h =>
if x28 = x25 then (if x25 = 0 then (ql_lJ h rl3 (0 : Int32) fun j30 =>
if (lg_cmp j30 x26.toInt64) = 0 then (qw_L_law_643 σ L9 xs9 a0 Q X k28 rl1 rl2 rl3 rl4 xl5 h) else (ql_nz .boolean (0 : Int32) ∧ Q (0 : Int32) h)) else (qw_L_law_643 σ L9 xs9 a0 Q X k28 rl1 rl2 rl3 rl4 xl5 h)) else (ql_nz .boolean (0 : Int32) ∧ Q (0 : Int32) h))))
def qw_L_law_711 (σ : Nat → Nat) (L9 : Nat) (xs9 : Nat → Int32) (a0 : Nat) (Q : Int32 → ql_H → Prop) (X : String → ql_H → Prop) (k28 : Option Nat → Option Nat → Option Nat → Option Nat → Int32 → ql_H → Prop) (rl1 : Option Nat) (rl2 : Option Nat) (rl3 : Option Nat) (rl4 : Option Nat) (xl5 : Int32) (h : ql_H) : Prop :=
qw_L_law_2957 σ L9 xs9 a0 Q X k28 rl1 rl2 rl3 rl4 xl5 h
def qw_L_law_646 (σ : Nat → Nat) (L9 : Nat) (xs9 : Nat → Int32) (a0 : Nat) (Q : Int32 → ql_H → Prop) (X : String → ql_H → Prop) (k28 : Option Nat → Option Nat → Option Nat → Option Nat → Int32 → ql_H → Prop) (rl1 : Option Nat) (rl2 : Option Nat) (rl3 : Option Nat) (rl4 : Option Nat) (xl5 : Int32) (h : ql_H) : Prop :=
vp_in (xl5 + (1 : Int32)) L9 ∧
vp_in (xl5 + (2 : Int32)) L9 ∧
qw_L_cite rl1 (xs9 (xl5 + (1 : Int32)).toNatClampNeg) (xs9 (xl5 + (2 : Int32)).toNatClampNeg) rl3 h (fun x31 h =>
vp_in (xl5 + (1 : Int32)) L9 ∧
vp_in (xl5 + (2 : Int32)) L9 ∧
ql_rv h rl2 13 fun b32 => qw_X12_cite b32 (xs9 (xl5 + (1 : Int32)).toNatClampNeg) (xs9 (xl5 + (2 : Int32)).toNatClampNeg) h (fun x32 h =>
ql_rv h rl2 13 fun b34 => qw_X12_thrown b34  h (fun x34 h =>
if x34 = x31 then (if x31 = 0 then (ql_lJ h rl3 (0 : Int32) fun j36 =>
if (lg_cmp j36 x32.toInt64) = 0 then (qw_L_law_711 σ L9 xs9 a0 Q X k28 rl1 rl2 rl3 rl4 xl5 h) else (ql_nz .boolean (0 : Int32) ∧ Q (0 : Int32) h)) else (qw_L_law_711 σ L9 xs9 a0 Q X k28 rl1 rl2 rl3 rl4 xl5 h)) else (ql_nz .boolean (0 : Int32) ∧ Q (0 : Int32) h))))
def qw_L_law_779 (σ : Nat → Nat) (L9 : Nat) (xs9 : Nat → Int32) (a0 : Nat) (Q : Int32 → ql_H → Prop) (X : String → ql_H → Prop) (k28 : Option Nat → Option Nat → Option Nat → Option Nat → Int32 → ql_H → Prop) (rl1 : Option Nat) (rl2 : Option Nat) (rl3 : Option Nat) (rl4 : Option Nat) (xl5 : Int32) (h : ql_H) : Prop :=
qw_L_law_2957 σ L9 xs9 a0 Q X k28 rl1 rl2 rl3 rl4 xl5 h
def qw_L_law_714 (σ : Nat → Nat) (L9 : Nat) (xs9 : Nat → Int32) (a0 : Nat) (Q : Int32 → ql_H → Prop) (X : String → ql_H → Prop) (k28 : Option Nat → Option Nat → Option Nat → Option Nat → Int32 → ql_H → Prop) (rl1 : Option Nat) (rl2 : Option Nat) (rl3 : Option Nat) (rl4 : Option Nat) (xl5 : Int32) (h : ql_H) : Prop :=
vp_in (xl5 + (1 : Int32)) L9 ∧
vp_in (xl5 + (2 : Int32)) L9 ∧
qw_L_uncite rl1 (xs9 (xl5 + (1 : Int32)).toNatClampNeg) (xs9 (xl5 + (2 : Int32)).toNatClampNeg) rl3 h (fun x37 h =>
vp_in (xl5 + (1 : Int32)) L9 ∧
vp_in (xl5 + (2 : Int32)) L9 ∧
ql_rv h rl2 13 fun b38 => qw_X12_uncite b38 (xs9 (xl5 + (1 : Int32)).toNatClampNeg) (xs9 (xl5 + (2 : Int32)).toNatClampNeg) h (fun x38 h =>
ql_rv h rl2 13 fun b40 => qw_X12_thrown b40  h (fun x40 h =>
if x40 = x37 then (if x37 = 0 then (ql_lJ h rl3 (0 : Int32) fun j42 =>
if (lg_cmp j42 x38.toInt64) = 0 then (qw_L_law_779 σ L9 xs9 a0 Q X k28 rl1 rl2 rl3 rl4 xl5 h) else (ql_nz .boolean (0 : Int32) ∧ Q (0 : Int32) h)) else (qw_L_law_779 σ L9 xs9 a0 Q X k28 rl1 rl2 rl3 rl4 xl5 h)) else (ql_nz .boolean (0 : Int32) ∧ Q (0 : Int32) h))))
def qw_L_law_835 (σ : Nat → Nat) (L9 : Nat) (xs9 : Nat → Int32) (a0 : Nat) (Q : Int32 → ql_H → Prop) (X : String → ql_H → Prop) (k28 : Option Nat → Option Nat → Option Nat → Option Nat → Int32 → ql_H → Prop) (rl1 : Option Nat) (rl2 : Option Nat) (rl3 : Option Nat) (rl4 : Option Nat) (xl5 : Int32) (h : ql_H) : Prop :=
qw_L_law_2957 σ L9 xs9 a0 Q X k28 rl1 rl2 rl3 rl4 xl5 h
def qw_L_law_782 (σ : Nat → Nat) (L9 : Nat) (xs9 : Nat → Int32) (a0 : Nat) (Q : Int32 → ql_H → Prop) (X : String → ql_H → Prop) (k28 : Option Nat → Option Nat → Option Nat → Option Nat → Int32 → ql_H → Prop) (rl1 : Option Nat) (rl2 : Option Nat) (rl3 : Option Nat) (rl4 : Option Nat) (xl5 : Int32) (h : ql_H) : Prop :=
vp_in (xl5 + (1 : Int32)) L9 ∧
qw_L_repeal rl1 (xs9 (xl5 + (1 : Int32)).toNatClampNeg) rl3 h (fun x43 h =>
vp_in (xl5 + (1 : Int32)) L9 ∧
ql_rv h rl2 13 fun b44 => qw_X12_repeal b44 (xs9 (xl5 + (1 : Int32)).toNatClampNeg) h (fun x44 h =>
ql_rv h rl2 13 fun b46 => qw_X12_thrown b46  h (fun x46 h =>
if x46 = x43 then (if x43 = 0 then (ql_lJ h rl3 (0 : Int32) fun j48 =>
if (lg_cmp j48 x44.toInt64) = 0 then (qw_L_law_835 σ L9 xs9 a0 Q X k28 rl1 rl2 rl3 rl4 xl5 h) else (ql_nz .boolean (0 : Int32) ∧ Q (0 : Int32) h)) else (qw_L_law_835 σ L9 xs9 a0 Q X k28 rl1 rl2 rl3 rl4 xl5 h)) else (ql_nz .boolean (0 : Int32) ∧ Q (0 : Int32) h))))
def qw_L_law_838 (σ : Nat → Nat) (L9 : Nat) (xs9 : Nat → Int32) (a0 : Nat) (Q : Int32 → ql_H → Prop) (X : String → ql_H → Prop) (k28 : Option Nat → Option Nat → Option Nat → Option Nat → Int32 → ql_H → Prop) (rl1 : Option Nat) (rl2 : Option Nat) (rl3 : Option Nat) (rl4 : Option Nat) (xl5 : Int32) (h : ql_H) : Prop :=
ql_rv h rl1 12 fun b49 => qw_X11_consolidate b49  h (fun x49 h =>
ql_rv h rl2 13 fun b51 => qw_X12_consolidate b51  h (fun x51 h =>
if x49 = x51 then (qw_L_law_2957 σ L9 xs9 a0 Q X k28 rl1 rl2 rl3 rl4 xl5 h) else (ql_nz .boolean (0 : Int32) ∧ Q (0 : Int32) h))) X
def qw_L_law_904 (σ : Nat → Nat) (L9 : Nat) (xs9 : Nat → Int32) (a0 : Nat) (Q : Int32 → ql_H → Prop) (X : String → ql_H → Prop) (k28 : Option Nat → Option Nat → Option Nat → Option Nat → Int32 → ql_H → Prop) (rl1 : Option Nat) (rl2 : Option Nat) (rl3 : Option Nat) (rl4 : Option Nat) (xl5 : Int32) (h : ql_H) : Prop :=
qw_L_law_2957 σ L9 xs9 a0 Q X k28 rl1 rl2 rl3 rl4 xl5 h
def qw_L_law_851 (σ : Nat → Nat) (L9 : Nat) (xs9 : Nat → Int32) (a0 : Nat) (Q : Int32 → ql_H → Prop) (X : String → ql_H → Prop) (k28 : Option Nat → Option Nat → Option Nat → Option Nat → Int32 → ql_H → Prop) (rl1 : Option Nat) (rl2 : Option Nat) (rl3 : Option Nat) (rl4 : Option Nat) (xl5 : Int32) (h : ql_H) : Prop :=
vp_in (xl5 + (1 : Int32)) L9 ∧
qw_L_advance rl1 (xs9 (xl5 + (1 : Int32)).toNatClampNeg) rl3 h (fun x53 h =>
vp_in (xl5 + (1 : Int32)) L9 ∧
ql_rv h rl2 13 fun b54 => qw_X12_advance b54 (xs9 (xl5 + (1 : Int32)).toNatClampNeg) h (fun x54 h =>
ql_rv h rl2 13 fun b56 => qw_X12_thrown b56  h (fun x56 h =>
if x56 = x53 then (if x53 = 0 then (ql_lJ h rl3 (0 : Int32) fun j58 =>
if (lg_cmp j58 x54.toInt64) = 0 then (qw_L_law_904 σ L9 xs9 a0 Q X k28 rl1 rl2 rl3 rl4 xl5 h) else (ql_nz .boolean (0 : Int32) ∧ Q (0 : Int32) h)) else (qw_L_law_904 σ L9 xs9 a0 Q X k28 rl1 rl2 rl3 rl4 xl5 h)) else (ql_nz .boolean (0 : Int32) ∧ Q (0 : Int32) h))))
def qw_L_law_907 (σ : Nat → Nat) (L9 : Nat) (xs9 : Nat → Int32) (a0 : Nat) (Q : Int32 → ql_H → Prop) (X : String → ql_H → Prop) (k28 : Option Nat → Option Nat → Option Nat → Option Nat → Int32 → ql_H → Prop) (rl1 : Option Nat) (rl2 : Option Nat) (rl3 : Option Nat) (rl4 : Option Nat) (xl5 : Int32) (h : ql_H) : Prop :=
ql_rv h rl1 12 fun b59 => qw_X11_day b59  h (fun x59 h =>
ql_rv h rl2 13 fun b61 => qw_X12_day b61  h (fun x61 h =>
if x59 = x61 then (qw_L_law_2957 σ L9 xs9 a0 Q X k28 rl1 rl2 rl3 rl4 xl5 h) else (ql_nz .boolean (0 : Int32) ∧ Q (0 : Int32) h)))
def qw_L_law_920 (σ : Nat → Nat) (L9 : Nat) (xs9 : Nat → Int32) (a0 : Nat) (Q : Int32 → ql_H → Prop) (X : String → ql_H → Prop) (k28 : Option Nat → Option Nat → Option Nat → Option Nat → Int32 → ql_H → Prop) (rl1 : Option Nat) (rl2 : Option Nat) (rl3 : Option Nat) (rl4 : Option Nat) (xl5 : Int32) (h : ql_H) : Prop :=
ql_rv h rl1 12 fun b63 => qw_X11_clauseCount b63  h (fun x63 h =>
ql_rv h rl2 13 fun b65 => qw_X12_clauseCount b65  h (fun x65 h =>
if x63 = x65 then (qw_L_law_2957 σ L9 xs9 a0 Q X k28 rl1 rl2 rl3 rl4 xl5 h) else (ql_nz .boolean (0 : Int32) ∧ Q (0 : Int32) h)))
def qw_L_law_986 (σ : Nat → Nat) (L9 : Nat) (xs9 : Nat → Int32) (a0 : Nat) (Q : Int32 → ql_H → Prop) (X : String → ql_H → Prop) (k28 : Option Nat → Option Nat → Option Nat → Option Nat → Int32 → ql_H → Prop) (rl1 : Option Nat) (rl2 : Option Nat) (rl3 : Option Nat) (rl4 : Option Nat) (xl5 : Int32) (h : ql_H) : Prop :=
qw_L_law_2957 σ L9 xs9 a0 Q X k28 rl1 rl2 rl3 rl4 xl5 h
def qw_L_law_933 (σ : Nat → Nat) (L9 : Nat) (xs9 : Nat → Int32) (a0 : Nat) (Q : Int32 → ql_H → Prop) (X : String → ql_H → Prop) (k28 : Option Nat → Option Nat → Option Nat → Option Nat → Int32 → ql_H → Prop) (rl1 : Option Nat) (rl2 : Option Nat) (rl3 : Option Nat) (rl4 : Option Nat) (xl5 : Int32) (h : ql_H) : Prop :=
vp_in (xl5 + (1 : Int32)) L9 ∧
qw_L_clauseAt rl1 (xs9 (xl5 + (1 : Int32)).toNatClampNeg) rl3 h (fun x67 h =>
vp_in (xl5 + (1 : Int32)) L9 ∧
ql_rv h rl2 13 fun b68 => qw_X12_clauseAt b68 (xs9 (xl5 + (1 : Int32)).toNatClampNeg) h (fun x68 h =>
ql_rv h rl2 13 fun b70 => qw_X12_thrown b70  h (fun x70 h =>
if x70 = x67 then (if x67 = 0 then (ql_lJ h rl3 (0 : Int32) fun j72 =>
if (lg_cmp j72 x68.toInt64) = 0 then (qw_L_law_986 σ L9 xs9 a0 Q X k28 rl1 rl2 rl3 rl4 xl5 h) else (ql_nz .boolean (0 : Int32) ∧ Q (0 : Int32) h)) else (qw_L_law_986 σ L9 xs9 a0 Q X k28 rl1 rl2 rl3 rl4 xl5 h)) else (ql_nz .boolean (0 : Int32) ∧ Q (0 : Int32) h))))
def qw_L_law_1042 (σ : Nat → Nat) (L9 : Nat) (xs9 : Nat → Int32) (a0 : Nat) (Q : Int32 → ql_H → Prop) (X : String → ql_H → Prop) (k28 : Option Nat → Option Nat → Option Nat → Option Nat → Int32 → ql_H → Prop) (rl1 : Option Nat) (rl2 : Option Nat) (rl3 : Option Nat) (rl4 : Option Nat) (xl5 : Int32) (h : ql_H) : Prop :=
qw_L_law_2957 σ L9 xs9 a0 Q X k28 rl1 rl2 rl3 rl4 xl5 h
def qw_L_law_989 (σ : Nat → Nat) (L9 : Nat) (xs9 : Nat → Int32) (a0 : Nat) (Q : Int32 → ql_H → Prop) (X : String → ql_H → Prop) (k28 : Option Nat → Option Nat → Option Nat → Option Nat → Int32 → ql_H → Prop) (rl1 : Option Nat) (rl2 : Option Nat) (rl3 : Option Nat) (rl4 : Option Nat) (xl5 : Int32) (h : ql_H) : Prop :=
vp_in (xl5 + (1 : Int32)) L9 ∧
qw_L_clauseOfSection rl1 (xs9 (xl5 + (1 : Int32)).toNatClampNeg) rl3 h (fun x73 h =>
vp_in (xl5 + (1 : Int32)) L9 ∧
ql_rv h rl2 13 fun b74 => qw_X12_clauseOfSection b74 (xs9 (xl5 + (1 : Int32)).toNatClampNeg) h (fun x74 h =>
ql_rv h rl2 13 fun b76 => qw_X12_thrown b76  h (fun x76 h =>
if x76 = x73 then (if x73 = 0 then (ql_lJ h rl3 (0 : Int32) fun j78 =>
if (lg_cmp j78 x74.toInt64) = 0 then (qw_L_law_1042 σ L9 xs9 a0 Q X k28 rl1 rl2 rl3 rl4 xl5 h) else (ql_nz .boolean (0 : Int32) ∧ Q (0 : Int32) h)) else (qw_L_law_1042 σ L9 xs9 a0 Q X k28 rl1 rl2 rl3 rl4 xl5 h)) else (ql_nz .boolean (0 : Int32) ∧ Q (0 : Int32) h))))
def qw_L_law_1098 (σ : Nat → Nat) (L9 : Nat) (xs9 : Nat → Int32) (a0 : Nat) (Q : Int32 → ql_H → Prop) (X : String → ql_H → Prop) (k28 : Option Nat → Option Nat → Option Nat → Option Nat → Int32 → ql_H → Prop) (rl1 : Option Nat) (rl2 : Option Nat) (rl3 : Option Nat) (rl4 : Option Nat) (xl5 : Int32) (h : ql_H) : Prop :=
qw_L_law_2957 σ L9 xs9 a0 Q X k28 rl1 rl2 rl3 rl4 xl5 h
def qw_L_law_1045 (σ : Nat → Nat) (L9 : Nat) (xs9 : Nat → Int32) (a0 : Nat) (Q : Int32 → ql_H → Prop) (X : String → ql_H → Prop) (k28 : Option Nat → Option Nat → Option Nat → Option Nat → Int32 → ql_H → Prop) (rl1 : Option Nat) (rl2 : Option Nat) (rl3 : Option Nat) (rl4 : Option Nat) (xl5 : Int32) (h : ql_H) : Prop :=
vp_in (xl5 + (1 : Int32)) L9 ∧
qw_L_section rl1 (xs9 (xl5 + (1 : Int32)).toNatClampNeg) rl3 h (fun x79 h =>
vp_in (xl5 + (1 : Int32)) L9 ∧
ql_rv h rl2 13 fun b80 => qw_X12_section b80 (xs9 (xl5 + (1 : Int32)).toNatClampNeg) h (fun x80 h =>
ql_rv h rl2 13 fun b82 => qw_X12_thrown b82  h (fun x82 h =>
if x82 = x79 then (if x79 = 0 then (ql_lJ h rl3 (0 : Int32) fun j84 =>
if (lg_cmp j84 x80.toInt64) = 0 then (qw_L_law_1098 σ L9 xs9 a0 Q X k28 rl1 rl2 rl3 rl4 xl5 h) else (ql_nz .boolean (0 : Int32) ∧ Q (0 : Int32) h)) else (qw_L_law_1098 σ L9 xs9 a0 Q X k28 rl1 rl2 rl3 rl4 xl5 h)) else (ql_nz .boolean (0 : Int32) ∧ Q (0 : Int32) h))))
def qw_L_law_1154 (σ : Nat → Nat) (L9 : Nat) (xs9 : Nat → Int32) (a0 : Nat) (Q : Int32 → ql_H → Prop) (X : String → ql_H → Prop) (k28 : Option Nat → Option Nat → Option Nat → Option Nat → Int32 → ql_H → Prop) (rl1 : Option Nat) (rl2 : Option Nat) (rl3 : Option Nat) (rl4 : Option Nat) (xl5 : Int32) (h : ql_H) : Prop :=
qw_L_law_2957 σ L9 xs9 a0 Q X k28 rl1 rl2 rl3 rl4 xl5 h
def qw_L_law_1101 (σ : Nat → Nat) (L9 : Nat) (xs9 : Nat → Int32) (a0 : Nat) (Q : Int32 → ql_H → Prop) (X : String → ql_H → Prop) (k28 : Option Nat → Option Nat → Option Nat → Option Nat → Int32 → ql_H → Prop) (rl1 : Option Nat) (rl2 : Option Nat) (rl3 : Option Nat) (rl4 : Option Nat) (xl5 : Int32) (h : ql_H) : Prop :=
vp_in (xl5 + (1 : Int32)) L9 ∧
qw_L_enactedOn rl1 (xs9 (xl5 + (1 : Int32)).toNatClampNeg) rl3 h (fun x85 h =>
vp_in (xl5 + (1 : Int32)) L9 ∧
ql_rv h rl2 13 fun b86 => qw_X12_enactedOn b86 (xs9 (xl5 + (1 : Int32)).toNatClampNeg) h (fun x86 h =>
ql_rv h rl2 13 fun b88 => qw_X12_thrown b88  h (fun x88 h =>
if x88 = x85 then (if x85 = 0 then (ql_lJ h rl3 (0 : Int32) fun j90 =>
if (lg_cmp j90 x86.toInt64) = 0 then (qw_L_law_1154 σ L9 xs9 a0 Q X k28 rl1 rl2 rl3 rl4 xl5 h) else (ql_nz .boolean (0 : Int32) ∧ Q (0 : Int32) h)) else (qw_L_law_1154 σ L9 xs9 a0 Q X k28 rl1 rl2 rl3 rl4 xl5 h)) else (ql_nz .boolean (0 : Int32) ∧ Q (0 : Int32) h))))
def qw_L_law_1210 (σ : Nat → Nat) (L9 : Nat) (xs9 : Nat → Int32) (a0 : Nat) (Q : Int32 → ql_H → Prop) (X : String → ql_H → Prop) (k28 : Option Nat → Option Nat → Option Nat → Option Nat → Int32 → ql_H → Prop) (rl1 : Option Nat) (rl2 : Option Nat) (rl3 : Option Nat) (rl4 : Option Nat) (xl5 : Int32) (h : ql_H) : Prop :=
qw_L_law_2957 σ L9 xs9 a0 Q X k28 rl1 rl2 rl3 rl4 xl5 h
def qw_L_law_1157 (σ : Nat → Nat) (L9 : Nat) (xs9 : Nat → Int32) (a0 : Nat) (Q : Int32 → ql_H → Prop) (X : String → ql_H → Prop) (k28 : Option Nat → Option Nat → Option Nat → Option Nat → Int32 → ql_H → Prop) (rl1 : Option Nat) (rl2 : Option Nat) (rl3 : Option Nat) (rl4 : Option Nat) (xl5 : Int32) (h : ql_H) : Prop :=
vp_in (xl5 + (1 : Int32)) L9 ∧
qw_L_sunset rl1 (xs9 (xl5 + (1 : Int32)).toNatClampNeg) rl3 h (fun x91 h =>
vp_in (xl5 + (1 : Int32)) L9 ∧
ql_rv h rl2 13 fun b92 => qw_X12_sunset b92 (xs9 (xl5 + (1 : Int32)).toNatClampNeg) h (fun x92 h =>
ql_rv h rl2 13 fun b94 => qw_X12_thrown b94  h (fun x94 h =>
if x94 = x91 then (if x91 = 0 then (ql_lJ h rl3 (0 : Int32) fun j96 =>
if (lg_cmp j96 x92.toInt64) = 0 then (qw_L_law_1210 σ L9 xs9 a0 Q X k28 rl1 rl2 rl3 rl4 xl5 h) else (ql_nz .boolean (0 : Int32) ∧ Q (0 : Int32) h)) else (qw_L_law_1210 σ L9 xs9 a0 Q X k28 rl1 rl2 rl3 rl4 xl5 h)) else (ql_nz .boolean (0 : Int32) ∧ Q (0 : Int32) h))))
def qw_L_law_1285 (σ : Nat → Nat) (L9 : Nat) (xs9 : Nat → Int32) (a0 : Nat) (Q : Int32 → ql_H → Prop) (X : String → ql_H → Prop) (k28 : Option Nat → Option Nat → Option Nat → Option Nat → Int32 → ql_H → Prop) (rl1 : Option Nat) (rl2 : Option Nat) (rl3 : Option Nat) (rl4 : Option Nat) (xl5 : Int32) (h : ql_H) : Prop :=
qw_L_law_2957 σ L9 xs9 a0 Q X k28 rl1 rl2 rl3 rl4 xl5 h
def qw_L_law_1279 (σ : Nat → Nat) (L9 : Nat) (xs9 : Nat → Int32) (a0 : Nat) (Q : Int32 → ql_H → Prop) (X : String → ql_H → Prop) (k28 : Option Nat → Option Nat → Option Nat → Option Nat → Int32 → ql_H → Prop) (rl1 : Option Nat) (rl2 : Option Nat) (rl3 : Option Nat) (rl4 : Option Nat) (xl5 : Int32) (js0 : Int64) (js1 : Int64) (h : ql_H) : Prop :=
if (lg_cmp js0 js1) = 0 then (qw_L_law_1285 σ L9 xs9 a0 Q X k28 rl1 rl2 rl3 rl4 xl5 h) else (ql_nz .boolean (0 : Int32) ∧ Q (0 : Int32) h)
def qw_L_law_1213 (σ : Nat → Nat) (L9 : Nat) (xs9 : Nat → Int32) (a0 : Nat) (Q : Int32 → ql_H → Prop) (X : String → ql_H → Prop) (k28 : Option Nat → Option Nat → Option Nat → Option Nat → Int32 → ql_H → Prop) (rl1 : Option Nat) (rl2 : Option Nat) (rl3 : Option Nat) (rl4 : Option Nat) (xl5 : Int32) (h : ql_H) : Prop :=
vp_in (xl5 + (1 : Int32)) L9 ∧
vp_in (xl5 + (2 : Int32)) L9 ∧
qw_L_isInForce rl1 (xs9 (xl5 + (1 : Int32)).toNatClampNeg) (xs9 (xl5 + (2 : Int32)).toNatClampNeg) rl3 h (fun x97 h =>
vp_in (xl5 + (1 : Int32)) L9 ∧
vp_in (xl5 + (2 : Int32)) L9 ∧
ql_rv h rl2 13 fun b98 => qw_X12_isInForce b98 (xs9 (xl5 + (1 : Int32)).toNatClampNeg) (xs9 (xl5 + (2 : Int32)).toNatClampNeg) h (fun x98 h =>
ql_rv h rl2 13 fun b100 => qw_X12_thrown b100  h (fun x100 h =>
if x100 = x97 then (if x97 = 0 then (ql_lJ h rl3 (0 : Int32) fun j102 =>
if x98 = 0 then (qw_L_law_1279 σ L9 xs9 a0 Q X k28 rl1 rl2 rl3 rl4 xl5 j102 (0 : Int64) h) else (qw_L_law_1279 σ L9 xs9 a0 Q X k28 rl1 rl2 rl3 rl4 xl5 j102 (1 : Int64) h)) else (qw_L_law_1285 σ L9 xs9 a0 Q X k28 rl1 rl2 rl3 rl4 xl5 h)) else (ql_nz .boolean (0 : Int32) ∧ Q (0 : Int32) h))))
def qw_L_law_1348 (σ : Nat → Nat) (L9 : Nat) (xs9 : Nat → Int32) (a0 : Nat) (Q : Int32 → ql_H → Prop) (X : String → ql_H → Prop) (k28 : Option Nat → Option Nat → Option Nat → Option Nat → Int32 → ql_H → Prop) (rl1 : Option Nat) (rl2 : Option Nat) (rl3 : Option Nat) (rl4 : Option Nat) (xl5 : Int32) (h : ql_H) : Prop :=
qw_L_law_2957 σ L9 xs9 a0 Q X k28 rl1 rl2 rl3 rl4 xl5 h
def qw_L_law_1342 (σ : Nat → Nat) (L9 : Nat) (xs9 : Nat → Int32) (a0 : Nat) (Q : Int32 → ql_H → Prop) (X : String → ql_H → Prop) (k28 : Option Nat → Option Nat → Option Nat → Option Nat → Int32 → ql_H → Prop) (rl1 : Option Nat) (rl2 : Option Nat) (rl3 : Option Nat) (rl4 : Option Nat) (xl5 : Int32) (js0 : Int64) (js1 : Int64) (h : ql_H) : Prop :=
if (lg_cmp js0 js1) = 0 then (qw_L_law_1348 σ L9 xs9 a0 Q X k28 rl1 rl2 rl3 rl4 xl5 h) else (ql_nz .boolean (0 : Int32) ∧ Q (0 : Int32) h)
def qw_L_law_1288 (σ : Nat → Nat) (L9 : Nat) (xs9 : Nat → Int32) (a0 : Nat) (Q : Int32 → ql_H → Prop) (X : String → ql_H → Prop) (k28 : Option Nat → Option Nat → Option Nat → Option Nat → Int32 → ql_H → Prop) (rl1 : Option Nat) (rl2 : Option Nat) (rl3 : Option Nat) (rl4 : Option Nat) (xl5 : Int32) (h : ql_H) : Prop :=
vp_in (xl5 + (1 : Int32)) L9 ∧
qw_L_hasLapsed rl1 (xs9 (xl5 + (1 : Int32)).toNatClampNeg) rl3 h (fun x103 h =>
vp_in (xl5 + (1 : Int32)) L9 ∧
ql_rv h rl2 13 fun b104 => qw_X12_hasLapsed b104 (xs9 (xl5 + (1 : Int32)).toNatClampNeg) h (fun x104 h =>
ql_rv h rl2 13 fun b106 => qw_X12_thrown b106  h (fun x106 h =>
if x106 = x103 then (if x103 = 0 then (ql_lJ h rl3 (0 : Int32) fun j108 =>
if x104 = 0 then (qw_L_law_1342 σ L9 xs9 a0 Q X k28 rl1 rl2 rl3 rl4 xl5 j108 (0 : Int64) h) else (qw_L_law_1342 σ L9 xs9 a0 Q X k28 rl1 rl2 rl3 rl4 xl5 j108 (1 : Int64) h)) else (qw_L_law_1348 σ L9 xs9 a0 Q X k28 rl1 rl2 rl3 rl4 xl5 h)) else (ql_nz .boolean (0 : Int32) ∧ Q (0 : Int32) h))))
def qw_L_law_1351 (σ : Nat → Nat) (L9 : Nat) (xs9 : Nat → Int32) (a0 : Nat) (Q : Int32 → ql_H → Prop) (X : String → ql_H → Prop) (k28 : Option Nat → Option Nat → Option Nat → Option Nat → Int32 → ql_H → Prop) (rl1 : Option Nat) (rl2 : Option Nat) (rl3 : Option Nat) (rl4 : Option Nat) (xl5 : Int32) (h : ql_H) : Prop :=
vp_in (xl5 + (1 : Int32)) L9 ∧
ql_rv h rl1 12 fun b109 => qw_X11_inForceOn b109 (xs9 (xl5 + (1 : Int32)).toNatClampNeg) h (fun x109 h =>
vp_in (xl5 + (1 : Int32)) L9 ∧
ql_rv h rl2 13 fun b111 => qw_X12_inForceOn b111 (xs9 (xl5 + (1 : Int32)).toNatClampNeg) h (fun x111 h =>
if x109 = x111 then (qw_L_law_2957 σ L9 xs9 a0 Q X k28 rl1 rl2 rl3 rl4 xl5 h) else (ql_nz .boolean (0 : Int32) ∧ Q (0 : Int32) h)))
def qw_L_law_1429 (σ : Nat → Nat) (L9 : Nat) (xs9 : Nat → Int32) (a0 : Nat) (Q : Int32 → ql_H → Prop) (X : String → ql_H → Prop) (k28 : Option Nat → Option Nat → Option Nat → Option Nat → Int32 → ql_H → Prop) (rl1 : Option Nat) (rl2 : Option Nat) (rl3 : Option Nat) (rl4 : Option Nat) (xl5 : Int32) (h : ql_H) : Prop :=
qw_L_law_2957 σ L9 xs9 a0 Q X k28 rl1 rl2 rl3 rl4 xl5 h
def qw_L_law_1376 (σ : Nat → Nat) (L9 : Nat) (xs9 : Nat → Int32) (a0 : Nat) (Q : Int32 → ql_H → Prop) (X : String → ql_H → Prop) (k28 : Option Nat → Option Nat → Option Nat → Option Nat → Int32 → ql_H → Prop) (rl1 : Option Nat) (rl2 : Option Nat) (rl3 : Option Nat) (rl4 : Option Nat) (xl5 : Int32) (h : ql_H) : Prop :=
vp_in (xl5 + (1 : Int32)) L9 ∧
qw_L_daysUntilLapsed rl1 (xs9 (xl5 + (1 : Int32)).toNatClampNeg) rl3 h (fun x113 h =>
vp_in (xl5 + (1 : Int32)) L9 ∧
ql_rv h rl2 13 fun b114 => qw_X12_daysUntilLapsed b114 (xs9 (xl5 + (1 : Int32)).toNatClampNeg) h (fun x114 h =>
ql_rv h rl2 13 fun b116 => qw_X12_thrown b116  h (fun x116 h =>
if x116 = x113 then (if x113 = 0 then (ql_lJ h rl3 (0 : Int32) fun j118 =>
if (lg_cmp j118 x114.toInt64) = 0 then (qw_L_law_1429 σ L9 xs9 a0 Q X k28 rl1 rl2 rl3 rl4 xl5 h) else (ql_nz .boolean (0 : Int32) ∧ Q (0 : Int32) h)) else (qw_L_law_1429 σ L9 xs9 a0 Q X k28 rl1 rl2 rl3 rl4 xl5 h)) else (ql_nz .boolean (0 : Int32) ∧ Q (0 : Int32) h))))
def qw_L_law_1485 (σ : Nat → Nat) (L9 : Nat) (xs9 : Nat → Int32) (a0 : Nat) (Q : Int32 → ql_H → Prop) (X : String → ql_H → Prop) (k28 : Option Nat → Option Nat → Option Nat → Option Nat → Int32 → ql_H → Prop) (rl1 : Option Nat) (rl2 : Option Nat) (rl3 : Option Nat) (rl4 : Option Nat) (xl5 : Int32) (h : ql_H) : Prop :=
qw_L_law_2957 σ L9 xs9 a0 Q X k28 rl1 rl2 rl3 rl4 xl5 h
def qw_L_law_1432 (σ : Nat → Nat) (L9 : Nat) (xs9 : Nat → Int32) (a0 : Nat) (Q : Int32 → ql_H → Prop) (X : String → ql_H → Prop) (k28 : Option Nat → Option Nat → Option Nat → Option Nat → Int32 → ql_H → Prop) (rl1 : Option Nat) (rl2 : Option Nat) (rl3 : Option Nat) (rl4 : Option Nat) (xl5 : Int32) (h : ql_H) : Prop :=
vp_in (xl5 + (1 : Int32)) L9 ∧
qw_L_length rl1 (xs9 (xl5 + (1 : Int32)).toNatClampNeg) rl3 h (fun x119 h =>
vp_in (xl5 + (1 : Int32)) L9 ∧
ql_rv h rl2 13 fun b120 => qw_X12_length b120 (xs9 (xl5 + (1 : Int32)).toNatClampNeg) h (fun x120 h =>
ql_rv h rl2 13 fun b122 => qw_X12_thrown b122  h (fun x122 h =>
if x122 = x119 then (if x119 = 0 then (ql_lJ h rl3 (0 : Int32) fun j124 =>
if (lg_cmp j124 x120.toInt64) = 0 then (qw_L_law_1485 σ L9 xs9 a0 Q X k28 rl1 rl2 rl3 rl4 xl5 h) else (ql_nz .boolean (0 : Int32) ∧ Q (0 : Int32) h)) else (qw_L_law_1485 σ L9 xs9 a0 Q X k28 rl1 rl2 rl3 rl4 xl5 h)) else (ql_nz .boolean (0 : Int32) ∧ Q (0 : Int32) h))))
def qw_L_law_1553 (σ : Nat → Nat) (L9 : Nat) (xs9 : Nat → Int32) (a0 : Nat) (Q : Int32 → ql_H → Prop) (X : String → ql_H → Prop) (k28 : Option Nat → Option Nat → Option Nat → Option Nat → Int32 → ql_H → Prop) (rl1 : Option Nat) (rl2 : Option Nat) (rl3 : Option Nat) (rl4 : Option Nat) (xl5 : Int32) (h : ql_H) : Prop :=
qw_L_law_2957 σ L9 xs9 a0 Q X k28 rl1 rl2 rl3 rl4 xl5 h
def qw_L_law_1488 (σ : Nat → Nat) (L9 : Nat) (xs9 : Nat → Int32) (a0 : Nat) (Q : Int32 → ql_H → Prop) (X : String → ql_H → Prop) (k28 : Option Nat → Option Nat → Option Nat → Option Nat → Int32 → ql_H → Prop) (rl1 : Option Nat) (rl2 : Option Nat) (rl3 : Option Nat) (rl4 : Option Nat) (xl5 : Int32) (h : ql_H) : Prop :=
vp_in (xl5 + (1 : Int32)) L9 ∧
vp_in (xl5 + (2 : Int32)) L9 ∧
qw_L_noteAt rl1 (xs9 (xl5 + (1 : Int32)).toNatClampNeg) (xs9 (xl5 + (2 : Int32)).toNatClampNeg) rl3 h (fun x125 h =>
vp_in (xl5 + (1 : Int32)) L9 ∧
vp_in (xl5 + (2 : Int32)) L9 ∧
ql_rv h rl2 13 fun b126 => qw_X12_noteAt b126 (xs9 (xl5 + (1 : Int32)).toNatClampNeg) (xs9 (xl5 + (2 : Int32)).toNatClampNeg) h (fun x126 h =>
ql_rv h rl2 13 fun b128 => qw_X12_thrown b128  h (fun x128 h =>
if x128 = x125 then (if x125 = 0 then (ql_lJ h rl3 (0 : Int32) fun j130 =>
if (lg_cmp j130 x126.toInt64) = 0 then (qw_L_law_1553 σ L9 xs9 a0 Q X k28 rl1 rl2 rl3 rl4 xl5 h) else (ql_nz .boolean (0 : Int32) ∧ Q (0 : Int32) h)) else (qw_L_law_1553 σ L9 xs9 a0 Q X k28 rl1 rl2 rl3 rl4 xl5 h)) else (ql_nz .boolean (0 : Int32) ∧ Q (0 : Int32) h))))
def qw_L_law_1609 (σ : Nat → Nat) (L9 : Nat) (xs9 : Nat → Int32) (a0 : Nat) (Q : Int32 → ql_H → Prop) (X : String → ql_H → Prop) (k28 : Option Nat → Option Nat → Option Nat → Option Nat → Int32 → ql_H → Prop) (rl1 : Option Nat) (rl2 : Option Nat) (rl3 : Option Nat) (rl4 : Option Nat) (xl5 : Int32) (h : ql_H) : Prop :=
qw_L_law_2957 σ L9 xs9 a0 Q X k28 rl1 rl2 rl3 rl4 xl5 h
def qw_L_law_1556 (σ : Nat → Nat) (L9 : Nat) (xs9 : Nat → Int32) (a0 : Nat) (Q : Int32 → ql_H → Prop) (X : String → ql_H → Prop) (k28 : Option Nat → Option Nat → Option Nat → Option Nat → Int32 → ql_H → Prop) (rl1 : Option Nat) (rl2 : Option Nat) (rl3 : Option Nat) (rl4 : Option Nat) (xl5 : Int32) (h : ql_H) : Prop :=
vp_in (xl5 + (1 : Int32)) L9 ∧
qw_L_versionCount rl1 (xs9 (xl5 + (1 : Int32)).toNatClampNeg) rl3 h (fun x131 h =>
vp_in (xl5 + (1 : Int32)) L9 ∧
ql_rv h rl2 13 fun b132 => qw_X12_versionCount b132 (xs9 (xl5 + (1 : Int32)).toNatClampNeg) h (fun x132 h =>
ql_rv h rl2 13 fun b134 => qw_X12_thrown b134  h (fun x134 h =>
if x134 = x131 then (if x131 = 0 then (ql_lJ h rl3 (0 : Int32) fun j136 =>
if (lg_cmp j136 x132.toInt64) = 0 then (qw_L_law_1609 σ L9 xs9 a0 Q X k28 rl1 rl2 rl3 rl4 xl5 h) else (ql_nz .boolean (0 : Int32) ∧ Q (0 : Int32) h)) else (qw_L_law_1609 σ L9 xs9 a0 Q X k28 rl1 rl2 rl3 rl4 xl5 h)) else (ql_nz .boolean (0 : Int32) ∧ Q (0 : Int32) h))))
def qw_L_law_1677 (σ : Nat → Nat) (L9 : Nat) (xs9 : Nat → Int32) (a0 : Nat) (Q : Int32 → ql_H → Prop) (X : String → ql_H → Prop) (k28 : Option Nat → Option Nat → Option Nat → Option Nat → Int32 → ql_H → Prop) (rl1 : Option Nat) (rl2 : Option Nat) (rl3 : Option Nat) (rl4 : Option Nat) (xl5 : Int32) (h : ql_H) : Prop :=
qw_L_law_2957 σ L9 xs9 a0 Q X k28 rl1 rl2 rl3 rl4 xl5 h
def qw_L_law_1612 (σ : Nat → Nat) (L9 : Nat) (xs9 : Nat → Int32) (a0 : Nat) (Q : Int32 → ql_H → Prop) (X : String → ql_H → Prop) (k28 : Option Nat → Option Nat → Option Nat → Option Nat → Int32 → ql_H → Prop) (rl1 : Option Nat) (rl2 : Option Nat) (rl3 : Option Nat) (rl4 : Option Nat) (xl5 : Int32) (h : ql_H) : Prop :=
vp_in (xl5 + (1 : Int32)) L9 ∧
vp_in (xl5 + (2 : Int32)) L9 ∧
qw_L_lengthOn rl1 (xs9 (xl5 + (1 : Int32)).toNatClampNeg) (xs9 (xl5 + (2 : Int32)).toNatClampNeg) rl3 h (fun x137 h =>
vp_in (xl5 + (1 : Int32)) L9 ∧
vp_in (xl5 + (2 : Int32)) L9 ∧
ql_rv h rl2 13 fun b138 => qw_X12_lengthOn b138 (xs9 (xl5 + (1 : Int32)).toNatClampNeg) (xs9 (xl5 + (2 : Int32)).toNatClampNeg) h (fun x138 h =>
ql_rv h rl2 13 fun b140 => qw_X12_thrown b140  h (fun x140 h =>
if x140 = x137 then (if x137 = 0 then (ql_lJ h rl3 (0 : Int32) fun j142 =>
if (lg_cmp j142 x138.toInt64) = 0 then (qw_L_law_1677 σ L9 xs9 a0 Q X k28 rl1 rl2 rl3 rl4 xl5 h) else (ql_nz .boolean (0 : Int32) ∧ Q (0 : Int32) h)) else (qw_L_law_1677 σ L9 xs9 a0 Q X k28 rl1 rl2 rl3 rl4 xl5 h)) else (ql_nz .boolean (0 : Int32) ∧ Q (0 : Int32) h))))
def qw_L_law_1757 (σ : Nat → Nat) (L9 : Nat) (xs9 : Nat → Int32) (a0 : Nat) (Q : Int32 → ql_H → Prop) (X : String → ql_H → Prop) (k28 : Option Nat → Option Nat → Option Nat → Option Nat → Int32 → ql_H → Prop) (rl1 : Option Nat) (rl2 : Option Nat) (rl3 : Option Nat) (rl4 : Option Nat) (xl5 : Int32) (h : ql_H) : Prop :=
qw_L_law_2957 σ L9 xs9 a0 Q X k28 rl1 rl2 rl3 rl4 xl5 h
def qw_L_law_1680 (σ : Nat → Nat) (L9 : Nat) (xs9 : Nat → Int32) (a0 : Nat) (Q : Int32 → ql_H → Prop) (X : String → ql_H → Prop) (k28 : Option Nat → Option Nat → Option Nat → Option Nat → Int32 → ql_H → Prop) (rl1 : Option Nat) (rl2 : Option Nat) (rl3 : Option Nat) (rl4 : Option Nat) (xl5 : Int32) (h : ql_H) : Prop :=
vp_in (xl5 + (1 : Int32)) L9 ∧
vp_in (xl5 + (2 : Int32)) L9 ∧
vp_in (xl5 + (3 : Int32)) L9 ∧
qw_L_noteOn rl1 (xs9 (xl5 + (1 : Int32)).toNatClampNeg) (xs9 (xl5 + (2 : Int32)).toNatClampNeg) (xs9 (xl5 + (3 : Int32)).toNatClampNeg) rl3 h (fun x143 h =>
vp_in (xl5 + (1 : Int32)) L9 ∧
vp_in (xl5 + (2 : Int32)) L9 ∧
vp_in (xl5 + (3 : Int32)) L9 ∧
ql_rv h rl2 13 fun b144 => qw_X12_noteOn b144 (xs9 (xl5 + (1 : Int32)).toNatClampNeg) (xs9 (xl5 + (2 : Int32)).toNatClampNeg) (xs9 (xl5 + (3 : Int32)).toNatClampNeg) h (fun x144 h =>
ql_rv h rl2 13 fun b146 => qw_X12_thrown b146  h (fun x146 h =>
if x146 = x143 then (if x143 = 0 then (ql_lJ h rl3 (0 : Int32) fun j148 =>
if (lg_cmp j148 x144.toInt64) = 0 then (qw_L_law_1757 σ L9 xs9 a0 Q X k28 rl1 rl2 rl3 rl4 xl5 h) else (ql_nz .boolean (0 : Int32) ∧ Q (0 : Int32) h)) else (qw_L_law_1757 σ L9 xs9 a0 Q X k28 rl1 rl2 rl3 rl4 xl5 h)) else (ql_nz .boolean (0 : Int32) ∧ Q (0 : Int32) h))))
def qw_L_law_1837 (σ : Nat → Nat) (L9 : Nat) (xs9 : Nat → Int32) (a0 : Nat) (Q : Int32 → ql_H → Prop) (X : String → ql_H → Prop) (k28 : Option Nat → Option Nat → Option Nat → Option Nat → Int32 → ql_H → Prop) (rl1 : Option Nat) (rl2 : Option Nat) (rl3 : Option Nat) (rl4 : Option Nat) (xl5 : Int32) (h : ql_H) : Prop :=
qw_L_law_2957 σ L9 xs9 a0 Q X k28 rl1 rl2 rl3 rl4 xl5 h
def qw_L_law_1760 (σ : Nat → Nat) (L9 : Nat) (xs9 : Nat → Int32) (a0 : Nat) (Q : Int32 → ql_H → Prop) (X : String → ql_H → Prop) (k28 : Option Nat → Option Nat → Option Nat → Option Nat → Int32 → ql_H → Prop) (rl1 : Option Nat) (rl2 : Option Nat) (rl3 : Option Nat) (rl4 : Option Nat) (xl5 : Int32) (h : ql_H) : Prop :=
vp_in (xl5 + (1 : Int32)) L9 ∧
vp_in (xl5 + (2 : Int32)) L9 ∧
vp_in (xl5 + (3 : Int32)) L9 ∧
qw_L_difference rl1 (xs9 (xl5 + (1 : Int32)).toNatClampNeg) (xs9 (xl5 + (2 : Int32)).toNatClampNeg) (xs9 (xl5 + (3 : Int32)).toNatClampNeg) rl3 h (fun x149 h =>
vp_in (xl5 + (1 : Int32)) L9 ∧
vp_in (xl5 + (2 : Int32)) L9 ∧
vp_in (xl5 + (3 : Int32)) L9 ∧
ql_rv h rl2 13 fun b150 => qw_X12_difference b150 (xs9 (xl5 + (1 : Int32)).toNatClampNeg) (xs9 (xl5 + (2 : Int32)).toNatClampNeg) (xs9 (xl5 + (3 : Int32)).toNatClampNeg) h (fun x150 h =>
ql_rv h rl2 13 fun b152 => qw_X12_thrown b152  h (fun x152 h =>
if x152 = x149 then (if x149 = 0 then (ql_lJ h rl3 (0 : Int32) fun j154 =>
if (lg_cmp j154 x150.toInt64) = 0 then (qw_L_law_1837 σ L9 xs9 a0 Q X k28 rl1 rl2 rl3 rl4 xl5 h) else (ql_nz .boolean (0 : Int32) ∧ Q (0 : Int32) h)) else (qw_L_law_1837 σ L9 xs9 a0 Q X k28 rl1 rl2 rl3 rl4 xl5 h)) else (ql_nz .boolean (0 : Int32) ∧ Q (0 : Int32) h))))
def qw_L_law_1917 (σ : Nat → Nat) (L9 : Nat) (xs9 : Nat → Int32) (a0 : Nat) (Q : Int32 → ql_H → Prop) (X : String → ql_H → Prop) (k28 : Option Nat → Option Nat → Option Nat → Option Nat → Int32 → ql_H → Prop) (rl1 : Option Nat) (rl2 : Option Nat) (rl3 : Option Nat) (rl4 : Option Nat) (xl5 : Int32) (h : ql_H) : Prop :=
qw_L_law_2957 σ L9 xs9 a0 Q X k28 rl1 rl2 rl3 rl4 xl5 h
def qw_L_law_1840 (σ : Nat → Nat) (L9 : Nat) (xs9 : Nat → Int32) (a0 : Nat) (Q : Int32 → ql_H → Prop) (X : String → ql_H → Prop) (k28 : Option Nat → Option Nat → Option Nat → Option Nat → Int32 → ql_H → Prop) (rl1 : Option Nat) (rl2 : Option Nat) (rl3 : Option Nat) (rl4 : Option Nat) (xl5 : Int32) (h : ql_H) : Prop :=
vp_in (xl5 + (1 : Int32)) L9 ∧
vp_in (xl5 + (2 : Int32)) L9 ∧
vp_in (xl5 + (3 : Int32)) L9 ∧
qw_L_differenceByEnds rl1 (xs9 (xl5 + (1 : Int32)).toNatClampNeg) (xs9 (xl5 + (2 : Int32)).toNatClampNeg) (xs9 (xl5 + (3 : Int32)).toNatClampNeg) rl3 h (fun x155 h =>
vp_in (xl5 + (1 : Int32)) L9 ∧
vp_in (xl5 + (2 : Int32)) L9 ∧
vp_in (xl5 + (3 : Int32)) L9 ∧
ql_rv h rl2 13 fun b156 => qw_X12_differenceByEnds b156 (xs9 (xl5 + (1 : Int32)).toNatClampNeg) (xs9 (xl5 + (2 : Int32)).toNatClampNeg) (xs9 (xl5 + (3 : Int32)).toNatClampNeg) h (fun x156 h =>
ql_rv h rl2 13 fun b158 => qw_X12_thrown b158  h (fun x158 h =>
if x158 = x155 then (if x155 = 0 then (ql_lJ h rl3 (0 : Int32) fun j160 =>
if (lg_cmp j160 x156.toInt64) = 0 then (qw_L_law_1917 σ L9 xs9 a0 Q X k28 rl1 rl2 rl3 rl4 xl5 h) else (ql_nz .boolean (0 : Int32) ∧ Q (0 : Int32) h)) else (qw_L_law_1917 σ L9 xs9 a0 Q X k28 rl1 rl2 rl3 rl4 xl5 h)) else (ql_nz .boolean (0 : Int32) ∧ Q (0 : Int32) h))))
def qw_L_law_1920 (σ : Nat → Nat) (L9 : Nat) (xs9 : Nat → Int32) (a0 : Nat) (Q : Int32 → ql_H → Prop) (X : String → ql_H → Prop) (k28 : Option Nat → Option Nat → Option Nat → Option Nat → Int32 → ql_H → Prop) (rl1 : Option Nat) (rl2 : Option Nat) (rl3 : Option Nat) (rl4 : Option Nat) (xl5 : Int32) (h : ql_H) : Prop :=
ql_rv h rl1 12 fun b161 => qw_X11_duplicatePairs b161  h (fun x161 h =>
ql_rv h rl2 13 fun b163 => qw_X12_duplicatePairs b163  h (fun x163 h =>
if x161 = x163 then (qw_L_law_2957 σ L9 xs9 a0 Q X k28 rl1 rl2 rl3 rl4 xl5 h) else (ql_nz .boolean (0 : Int32) ∧ Q (0 : Int32) h)))
def qw_L_law_1933 (σ : Nat → Nat) (L9 : Nat) (xs9 : Nat → Int32) (a0 : Nat) (Q : Int32 → ql_H → Prop) (X : String → ql_H → Prop) (k28 : Option Nat → Option Nat → Option Nat → Option Nat → Int32 → ql_H → Prop) (rl1 : Option Nat) (rl2 : Option Nat) (rl3 : Option Nat) (rl4 : Option Nat) (xl5 : Int32) (h : ql_H) : Prop :=
ql_rv h rl1 12 fun b165 => qw_X11_duplicatePairsByComparing b165  h (fun x165 h =>
ql_rv h rl2 13 fun b167 => qw_X12_duplicatePairsByComparing b167  h (fun x167 h =>
if x165 = x167 then (qw_L_law_2957 σ L9 xs9 a0 Q X k28 rl1 rl2 rl3 rl4 xl5 h) else (ql_nz .boolean (0 : Int32) ∧ Q (0 : Int32) h)))
def qw_L_law_1999 (σ : Nat → Nat) (L9 : Nat) (xs9 : Nat → Int32) (a0 : Nat) (Q : Int32 → ql_H → Prop) (X : String → ql_H → Prop) (k28 : Option Nat → Option Nat → Option Nat → Option Nat → Int32 → ql_H → Prop) (rl1 : Option Nat) (rl2 : Option Nat) (rl3 : Option Nat) (rl4 : Option Nat) (xl5 : Int32) (h : ql_H) : Prop :=
qw_L_law_2957 σ L9 xs9 a0 Q X k28 rl1 rl2 rl3 rl4 xl5 h
def qw_L_law_1946 (σ : Nat → Nat) (L9 : Nat) (xs9 : Nat → Int32) (a0 : Nat) (Q : Int32 → ql_H → Prop) (X : String → ql_H → Prop) (k28 : Option Nat → Option Nat → Option Nat → Option Nat → Int32 → ql_H → Prop) (rl1 : Option Nat) (rl2 : Option Nat) (rl3 : Option Nat) (rl4 : Option Nat) (xl5 : Int32) (h : ql_H) : Prop :=
vp_in (xl5 + (1 : Int32)) L9 ∧
qw_L_citeCount rl1 (xs9 (xl5 + (1 : Int32)).toNatClampNeg) rl3 h (fun x169 h =>
vp_in (xl5 + (1 : Int32)) L9 ∧
ql_rv h rl2 13 fun b170 => qw_X12_citeCount b170 (xs9 (xl5 + (1 : Int32)).toNatClampNeg) h (fun x170 h =>
ql_rv h rl2 13 fun b172 => qw_X12_thrown b172  h (fun x172 h =>
if x172 = x169 then (if x169 = 0 then (ql_lJ h rl3 (0 : Int32) fun j174 =>
if (lg_cmp j174 x170.toInt64) = 0 then (qw_L_law_1999 σ L9 xs9 a0 Q X k28 rl1 rl2 rl3 rl4 xl5 h) else (ql_nz .boolean (0 : Int32) ∧ Q (0 : Int32) h)) else (qw_L_law_1999 σ L9 xs9 a0 Q X k28 rl1 rl2 rl3 rl4 xl5 h)) else (ql_nz .boolean (0 : Int32) ∧ Q (0 : Int32) h))))
def qw_L_law_2067 (σ : Nat → Nat) (L9 : Nat) (xs9 : Nat → Int32) (a0 : Nat) (Q : Int32 → ql_H → Prop) (X : String → ql_H → Prop) (k28 : Option Nat → Option Nat → Option Nat → Option Nat → Int32 → ql_H → Prop) (rl1 : Option Nat) (rl2 : Option Nat) (rl3 : Option Nat) (rl4 : Option Nat) (xl5 : Int32) (h : ql_H) : Prop :=
qw_L_law_2957 σ L9 xs9 a0 Q X k28 rl1 rl2 rl3 rl4 xl5 h
def qw_L_law_2002 (σ : Nat → Nat) (L9 : Nat) (xs9 : Nat → Int32) (a0 : Nat) (Q : Int32 → ql_H → Prop) (X : String → ql_H → Prop) (k28 : Option Nat → Option Nat → Option Nat → Option Nat → Int32 → ql_H → Prop) (rl1 : Option Nat) (rl2 : Option Nat) (rl3 : Option Nat) (rl4 : Option Nat) (xl5 : Int32) (h : ql_H) : Prop :=
vp_in (xl5 + (1 : Int32)) L9 ∧
vp_in (xl5 + (2 : Int32)) L9 ∧
qw_L_citeAt rl1 (xs9 (xl5 + (1 : Int32)).toNatClampNeg) (xs9 (xl5 + (2 : Int32)).toNatClampNeg) rl3 h (fun x175 h =>
vp_in (xl5 + (1 : Int32)) L9 ∧
vp_in (xl5 + (2 : Int32)) L9 ∧
ql_rv h rl2 13 fun b176 => qw_X12_citeAt b176 (xs9 (xl5 + (1 : Int32)).toNatClampNeg) (xs9 (xl5 + (2 : Int32)).toNatClampNeg) h (fun x176 h =>
ql_rv h rl2 13 fun b178 => qw_X12_thrown b178  h (fun x178 h =>
if x178 = x175 then (if x175 = 0 then (ql_lJ h rl3 (0 : Int32) fun j180 =>
if (lg_cmp j180 x176.toInt64) = 0 then (qw_L_law_2067 σ L9 xs9 a0 Q X k28 rl1 rl2 rl3 rl4 xl5 h) else (ql_nz .boolean (0 : Int32) ∧ Q (0 : Int32) h)) else (qw_L_law_2067 σ L9 xs9 a0 Q X k28 rl1 rl2 rl3 rl4 xl5 h)) else (ql_nz .boolean (0 : Int32) ∧ Q (0 : Int32) h))))
def qw_L_law_2070 (σ : Nat → Nat) (L9 : Nat) (xs9 : Nat → Int32) (a0 : Nat) (Q : Int32 → ql_H → Prop) (X : String → ql_H → Prop) (k28 : Option Nat → Option Nat → Option Nat → Option Nat → Int32 → ql_H → Prop) (rl1 : Option Nat) (rl2 : Option Nat) (rl3 : Option Nat) (rl4 : Option Nat) (xl5 : Int32) (h : ql_H) : Prop :=
ql_rv h rl1 12 fun b181 => qw_X11_brokenCites b181  h (fun x181 h =>
ql_rv h rl2 13 fun b183 => qw_X12_brokenCites b183  h (fun x183 h =>
if x181 = x183 then (qw_L_law_2957 σ L9 xs9 a0 Q X k28 rl1 rl2 rl3 rl4 xl5 h) else (ql_nz .boolean (0 : Int32) ∧ Q (0 : Int32) h)))
def qw_L_law_2155 (σ : Nat → Nat) (L9 : Nat) (xs9 : Nat → Int32) (a0 : Nat) (Q : Int32 → ql_H → Prop) (X : String → ql_H → Prop) (k28 : Option Nat → Option Nat → Option Nat → Option Nat → Int32 → ql_H → Prop) (rl1 : Option Nat) (rl2 : Option Nat) (rl3 : Option Nat) (rl4 : Option Nat) (xl5 : Int32) (h : ql_H) : Prop :=
qw_L_law_2957 σ L9 xs9 a0 Q X k28 rl1 rl2 rl3 rl4 xl5 h
def qw_L_law_2149 (σ : Nat → Nat) (L9 : Nat) (xs9 : Nat → Int32) (a0 : Nat) (Q : Int32 → ql_H → Prop) (X : String → ql_H → Prop) (k28 : Option Nat → Option Nat → Option Nat → Option Nat → Int32 → ql_H → Prop) (rl1 : Option Nat) (rl2 : Option Nat) (rl3 : Option Nat) (rl4 : Option Nat) (xl5 : Int32) (js0 : Int64) (js1 : Int64) (h : ql_H) : Prop :=
if (lg_cmp js0 js1) = 0 then (qw_L_law_2155 σ L9 xs9 a0 Q X k28 rl1 rl2 rl3 rl4 xl5 h) else (ql_nz .boolean (0 : Int32) ∧ Q (0 : Int32) h)
def qw_L_law_2083 (σ : Nat → Nat) (L9 : Nat) (xs9 : Nat → Int32) (a0 : Nat) (Q : Int32 → ql_H → Prop) (X : String → ql_H → Prop) (k28 : Option Nat → Option Nat → Option Nat → Option Nat → Int32 → ql_H → Prop) (rl1 : Option Nat) (rl2 : Option Nat) (rl3 : Option Nat) (rl4 : Option Nat) (xl5 : Int32) (h : ql_H) : Prop :=
vp_in (xl5 + (1 : Int32)) L9 ∧
vp_in (xl5 + (2 : Int32)) L9 ∧
qw_L_citesIndirectly rl1 (xs9 (xl5 + (1 : Int32)).toNatClampNeg) (xs9 (xl5 + (2 : Int32)).toNatClampNeg) rl3 h (fun x185 h =>
vp_in (xl5 + (1 : Int32)) L9 ∧
vp_in (xl5 + (2 : Int32)) L9 ∧
ql_rv h rl2 13 fun b186 => qw_X12_citesIndirectly b186 (xs9 (xl5 + (1 : Int32)).toNatClampNeg) (xs9 (xl5 + (2 : Int32)).toNatClampNeg) h (fun x186 h =>
ql_rv h rl2 13 fun b188 => qw_X12_thrown b188  h (fun x188 h =>
if x188 = x185 then (if x185 = 0 then (ql_lJ h rl3 (0 : Int32) fun j190 =>
if x186 = 0 then (qw_L_law_2149 σ L9 xs9 a0 Q X k28 rl1 rl2 rl3 rl4 xl5 j190 (0 : Int64) h) else (qw_L_law_2149 σ L9 xs9 a0 Q X k28 rl1 rl2 rl3 rl4 xl5 j190 (1 : Int64) h)) else (qw_L_law_2155 σ L9 xs9 a0 Q X k28 rl1 rl2 rl3 rl4 xl5 h)) else (ql_nz .boolean (0 : Int32) ∧ Q (0 : Int32) h))))
def qw_L_law_2230 (σ : Nat → Nat) (L9 : Nat) (xs9 : Nat → Int32) (a0 : Nat) (Q : Int32 → ql_H → Prop) (X : String → ql_H → Prop) (k28 : Option Nat → Option Nat → Option Nat → Option Nat → Int32 → ql_H → Prop) (rl1 : Option Nat) (rl2 : Option Nat) (rl3 : Option Nat) (rl4 : Option Nat) (xl5 : Int32) (h : ql_H) : Prop :=
qw_L_law_2957 σ L9 xs9 a0 Q X k28 rl1 rl2 rl3 rl4 xl5 h
def qw_L_law_2224 (σ : Nat → Nat) (L9 : Nat) (xs9 : Nat → Int32) (a0 : Nat) (Q : Int32 → ql_H → Prop) (X : String → ql_H → Prop) (k28 : Option Nat → Option Nat → Option Nat → Option Nat → Int32 → ql_H → Prop) (rl1 : Option Nat) (rl2 : Option Nat) (rl3 : Option Nat) (rl4 : Option Nat) (xl5 : Int32) (js0 : Int64) (js1 : Int64) (h : ql_H) : Prop :=
if (lg_cmp js0 js1) = 0 then (qw_L_law_2230 σ L9 xs9 a0 Q X k28 rl1 rl2 rl3 rl4 xl5 h) else (ql_nz .boolean (0 : Int32) ∧ Q (0 : Int32) h)
def qw_L_law_2158 (σ : Nat → Nat) (L9 : Nat) (xs9 : Nat → Int32) (a0 : Nat) (Q : Int32 → ql_H → Prop) (X : String → ql_H → Prop) (k28 : Option Nat → Option Nat → Option Nat → Option Nat → Int32 → ql_H → Prop) (rl1 : Option Nat) (rl2 : Option Nat) (rl3 : Option Nat) (rl4 : Option Nat) (xl5 : Int32) (h : ql_H) : Prop :=
vp_in (xl5 + (1 : Int32)) L9 ∧
vp_in (xl5 + (2 : Int32)) L9 ∧
qw_L_citesByClosure rl1 (xs9 (xl5 + (1 : Int32)).toNatClampNeg) (xs9 (xl5 + (2 : Int32)).toNatClampNeg) rl3 h (fun x191 h =>
vp_in (xl5 + (1 : Int32)) L9 ∧
vp_in (xl5 + (2 : Int32)) L9 ∧
ql_rv h rl2 13 fun b192 => qw_X12_citesByClosure b192 (xs9 (xl5 + (1 : Int32)).toNatClampNeg) (xs9 (xl5 + (2 : Int32)).toNatClampNeg) h (fun x192 h =>
ql_rv h rl2 13 fun b194 => qw_X12_thrown b194  h (fun x194 h =>
if x194 = x191 then (if x191 = 0 then (ql_lJ h rl3 (0 : Int32) fun j196 =>
if x192 = 0 then (qw_L_law_2224 σ L9 xs9 a0 Q X k28 rl1 rl2 rl3 rl4 xl5 j196 (0 : Int64) h) else (qw_L_law_2224 σ L9 xs9 a0 Q X k28 rl1 rl2 rl3 rl4 xl5 j196 (1 : Int64) h)) else (qw_L_law_2230 σ L9 xs9 a0 Q X k28 rl1 rl2 rl3 rl4 xl5 h)) else (ql_nz .boolean (0 : Int32) ∧ Q (0 : Int32) h))))
def qw_L_law_2286 (σ : Nat → Nat) (L9 : Nat) (xs9 : Nat → Int32) (a0 : Nat) (Q : Int32 → ql_H → Prop) (X : String → ql_H → Prop) (k28 : Option Nat → Option Nat → Option Nat → Option Nat → Int32 → ql_H → Prop) (rl1 : Option Nat) (rl2 : Option Nat) (rl3 : Option Nat) (rl4 : Option Nat) (xl5 : Int32) (h : ql_H) : Prop :=
qw_L_law_2957 σ L9 xs9 a0 Q X k28 rl1 rl2 rl3 rl4 xl5 h
def qw_L_law_2233 (σ : Nat → Nat) (L9 : Nat) (xs9 : Nat → Int32) (a0 : Nat) (Q : Int32 → ql_H → Prop) (X : String → ql_H → Prop) (k28 : Option Nat → Option Nat → Option Nat → Option Nat → Int32 → ql_H → Prop) (rl1 : Option Nat) (rl2 : Option Nat) (rl3 : Option Nat) (rl4 : Option Nat) (xl5 : Int32) (h : ql_H) : Prop :=
vp_in (xl5 + (1 : Int32)) L9 ∧
qw_L_clauseByCites rl1 (xs9 (xl5 + (1 : Int32)).toNatClampNeg) rl3 h (fun x197 h =>
vp_in (xl5 + (1 : Int32)) L9 ∧
ql_rv h rl2 13 fun b198 => qw_X12_clauseByCites b198 (xs9 (xl5 + (1 : Int32)).toNatClampNeg) h (fun x198 h =>
ql_rv h rl2 13 fun b200 => qw_X12_thrown b200  h (fun x200 h =>
if x200 = x197 then (if x197 = 0 then (ql_lJ h rl3 (0 : Int32) fun j202 =>
if (lg_cmp j202 x198.toInt64) = 0 then (qw_L_law_2286 σ L9 xs9 a0 Q X k28 rl1 rl2 rl3 rl4 xl5 h) else (ql_nz .boolean (0 : Int32) ∧ Q (0 : Int32) h)) else (qw_L_law_2286 σ L9 xs9 a0 Q X k28 rl1 rl2 rl3 rl4 xl5 h)) else (ql_nz .boolean (0 : Int32) ∧ Q (0 : Int32) h))))
def qw_L_law_2289 (σ : Nat → Nat) (L9 : Nat) (xs9 : Nat → Int32) (a0 : Nat) (Q : Int32 → ql_H → Prop) (X : String → ql_H → Prop) (k28 : Option Nat → Option Nat → Option Nat → Option Nat → Int32 → ql_H → Prop) (rl1 : Option Nat) (rl2 : Option Nat) (rl3 : Option Nat) (rl4 : Option Nat) (xl5 : Int32) (h : ql_H) : Prop :=
ql_rv h rl1 12 fun b203 => qw_X11_addedTotal b203  h (fun x203 h =>
ql_rv h rl2 13 fun b205 => qw_X12_addedTotal b205  h (fun x205 h =>
if x203 = x205 then (qw_L_law_2957 σ L9 xs9 a0 Q X k28 rl1 rl2 rl3 rl4 xl5 h) else (ql_nz .boolean (0 : Int32) ∧ Q (0 : Int32) h)))
def qw_L_law_2302 (σ : Nat → Nat) (L9 : Nat) (xs9 : Nat → Int32) (a0 : Nat) (Q : Int32 → ql_H → Prop) (X : String → ql_H → Prop) (k28 : Option Nat → Option Nat → Option Nat → Option Nat → Int32 → ql_H → Prop) (rl1 : Option Nat) (rl2 : Option Nat) (rl3 : Option Nat) (rl4 : Option Nat) (xl5 : Int32) (h : ql_H) : Prop :=
ql_rv h rl1 12 fun b207 => qw_X11_amendmentTotal b207  h (fun x207 h =>
ql_rv h rl2 13 fun b209 => qw_X12_amendmentTotal b209  h (fun x209 h =>
if x207 = x209 then (qw_L_law_2957 σ L9 xs9 a0 Q X k28 rl1 rl2 rl3 rl4 xl5 h) else (ql_nz .boolean (0 : Int32) ∧ Q (0 : Int32) h)))
def qw_L_law_2315 (σ : Nat → Nat) (L9 : Nat) (xs9 : Nat → Int32) (a0 : Nat) (Q : Int32 → ql_H → Prop) (X : String → ql_H → Prop) (k28 : Option Nat → Option Nat → Option Nat → Option Nat → Int32 → ql_H → Prop) (rl1 : Option Nat) (rl2 : Option Nat) (rl3 : Option Nat) (rl4 : Option Nat) (xl5 : Int32) (h : ql_H) : Prop :=
ql_rv h rl1 12 fun b211 => qw_X11_repealedTotal b211  h (fun x211 h =>
ql_rv h rl2 13 fun b213 => qw_X12_repealedTotal b213  h (fun x213 h =>
if x211 = x213 then (qw_L_law_2957 σ L9 xs9 a0 Q X k28 rl1 rl2 rl3 rl4 xl5 h) else (ql_nz .boolean (0 : Int32) ∧ Q (0 : Int32) h)))
def qw_L_law_2328 (σ : Nat → Nat) (L9 : Nat) (xs9 : Nat → Int32) (a0 : Nat) (Q : Int32 → ql_H → Prop) (X : String → ql_H → Prop) (k28 : Option Nat → Option Nat → Option Nat → Option Nat → Int32 → ql_H → Prop) (rl1 : Option Nat) (rl2 : Option Nat) (rl3 : Option Nat) (rl4 : Option Nat) (xl5 : Int32) (h : ql_H) : Prop :=
ql_rv h rl1 12 fun b215 => qw_X11_consolidatedTotal b215  h (fun x215 h =>
ql_rv h rl2 13 fun b217 => qw_X12_consolidatedTotal b217  h (fun x217 h =>
if x215 = x217 then (qw_L_law_2957 σ L9 xs9 a0 Q X k28 rl1 rl2 rl3 rl4 xl5 h) else (ql_nz .boolean (0 : Int32) ∧ Q (0 : Int32) h)))
def qw_L_law_2341 (σ : Nat → Nat) (L9 : Nat) (xs9 : Nat → Int32) (a0 : Nat) (Q : Int32 → ql_H → Prop) (X : String → ql_H → Prop) (k28 : Option Nat → Option Nat → Option Nat → Option Nat → Int32 → ql_H → Prop) (rl1 : Option Nat) (rl2 : Option Nat) (rl3 : Option Nat) (rl4 : Option Nat) (xl5 : Int32) (h : ql_H) : Prop :=
ql_rv h rl1 12 fun b219 => qw_X11_editionCount b219  h (fun x219 h =>
ql_rv h rl2 13 fun b221 => qw_X12_editionCount b221  h (fun x221 h =>
if x219 = x221 then (qw_L_law_2957 σ L9 xs9 a0 Q X k28 rl1 rl2 rl3 rl4 xl5 h) else (ql_nz .boolean (0 : Int32) ∧ Q (0 : Int32) h)))
def qw_L_law_2407 (σ : Nat → Nat) (L9 : Nat) (xs9 : Nat → Int32) (a0 : Nat) (Q : Int32 → ql_H → Prop) (X : String → ql_H → Prop) (k28 : Option Nat → Option Nat → Option Nat → Option Nat → Int32 → ql_H → Prop) (rl1 : Option Nat) (rl2 : Option Nat) (rl3 : Option Nat) (rl4 : Option Nat) (xl5 : Int32) (h : ql_H) : Prop :=
qw_L_law_2957 σ L9 xs9 a0 Q X k28 rl1 rl2 rl3 rl4 xl5 h
def qw_L_law_2354 (σ : Nat → Nat) (L9 : Nat) (xs9 : Nat → Int32) (a0 : Nat) (Q : Int32 → ql_H → Prop) (X : String → ql_H → Prop) (k28 : Option Nat → Option Nat → Option Nat → Option Nat → Int32 → ql_H → Prop) (rl1 : Option Nat) (rl2 : Option Nat) (rl3 : Option Nat) (rl4 : Option Nat) (xl5 : Int32) (h : ql_H) : Prop :=
vp_in (xl5 + (1 : Int32)) L9 ∧
qw_L_editionDay rl1 (xs9 (xl5 + (1 : Int32)).toNatClampNeg) rl3 h (fun x223 h =>
vp_in (xl5 + (1 : Int32)) L9 ∧
ql_rv h rl2 13 fun b224 => qw_X12_editionDay b224 (xs9 (xl5 + (1 : Int32)).toNatClampNeg) h (fun x224 h =>
ql_rv h rl2 13 fun b226 => qw_X12_thrown b226  h (fun x226 h =>
if x226 = x223 then (if x223 = 0 then (ql_lJ h rl3 (0 : Int32) fun j228 =>
if (lg_cmp j228 x224.toInt64) = 0 then (qw_L_law_2407 σ L9 xs9 a0 Q X k28 rl1 rl2 rl3 rl4 xl5 h) else (ql_nz .boolean (0 : Int32) ∧ Q (0 : Int32) h)) else (qw_L_law_2407 σ L9 xs9 a0 Q X k28 rl1 rl2 rl3 rl4 xl5 h)) else (ql_nz .boolean (0 : Int32) ∧ Q (0 : Int32) h))))
def qw_L_law_2472 (σ : Nat → Nat) (L9 : Nat) (xs9 : Nat → Int32) (a0 : Nat) (Q : Int32 → ql_H → Prop) (X : String → ql_H → Prop) (k28 : Option Nat → Option Nat → Option Nat → Option Nat → Int32 → ql_H → Prop) (rl1 : Option Nat) (rl2 : Option Nat) (rl3 : Option Nat) (rl4 : Option Nat) (xl5 : Int32) (h : ql_H) : Prop :=
qw_L_law_2957 σ L9 xs9 a0 Q X k28 rl1 rl2 rl3 rl4 xl5 h
def qw_L_law_2410 (σ : Nat → Nat) (L9 : Nat) (xs9 : Nat → Int32) (a0 : Nat) (Q : Int32 → ql_H → Prop) (X : String → ql_H → Prop) (k28 : Option Nat → Option Nat → Option Nat → Option Nat → Int32 → ql_H → Prop) (rl1 : Option Nat) (rl2 : Option Nat) (rl3 : Option Nat) (rl4 : Option Nat) (xl5 : Int32) (h : ql_H) : Prop :=
qw_L_meanLength rl1 rl4 h (fun x229 h =>
ql_rv h rl2 13 fun b230 => qw_X12_meanLength b230  h (fun d230 h =>
ql_rv h rl2 13 fun b232 => qw_X12_thrown b232  h (fun x232 h =>
if x232 = x229 then (if x229 = 0 then (ql_lD h rl4 (0 : Int32) fun d234 =>
if (Op.cmpValue (FP.dcmp d234 d230) .l) = 0 then (qw_L_law_2472 σ L9 xs9 a0 Q X k28 rl1 rl2 rl3 rl4 xl5 h) else (ql_lD h rl4 (0 : Int32) fun d235 =>
ql_lD h rl4 (0 : Int32) fun d236 =>
if (Op.cmpValue (FP.dcmp d235 d236) .l) = 0 then (ql_nz .boolean (0 : Int32) ∧ Q (0 : Int32) h) else (if (Op.cmpValue (FP.dcmp d230 d230) .l) = 0 then (ql_nz .boolean (0 : Int32) ∧ Q (0 : Int32) h) else (qw_L_law_2472 σ L9 xs9 a0 Q X k28 rl1 rl2 rl3 rl4 xl5 h)))) else (qw_L_law_2472 σ L9 xs9 a0 Q X k28 rl1 rl2 rl3 rl4 xl5 h)) else (ql_nz .boolean (0 : Int32) ∧ Q (0 : Int32) h))))
def qw_L_law_2538 (σ : Nat → Nat) (L9 : Nat) (xs9 : Nat → Int32) (a0 : Nat) (Q : Int32 → ql_H → Prop) (X : String → ql_H → Prop) (k28 : Option Nat → Option Nat → Option Nat → Option Nat → Int32 → ql_H → Prop) (rl1 : Option Nat) (rl2 : Option Nat) (rl3 : Option Nat) (rl4 : Option Nat) (xl5 : Int32) (h : ql_H) : Prop :=
qw_L_law_2957 σ L9 xs9 a0 Q X k28 rl1 rl2 rl3 rl4 xl5 h
def qw_L_law_2475 (σ : Nat → Nat) (L9 : Nat) (xs9 : Nat → Int32) (a0 : Nat) (Q : Int32 → ql_H → Prop) (X : String → ql_H → Prop) (k28 : Option Nat → Option Nat → Option Nat → Option Nat → Int32 → ql_H → Prop) (rl1 : Option Nat) (rl2 : Option Nat) (rl3 : Option Nat) (rl4 : Option Nat) (xl5 : Int32) (h : ql_H) : Prop :=
qw_L_inForceShare rl1 rl4 h (fun x237 h =>
ql_rv h rl2 13 fun b238 => qw_X12_inForceShare b238  h (fun f238 h =>
ql_rv h rl2 13 fun b240 => qw_X12_thrown b240  h (fun x240 h =>
if x240 = x237 then (if x237 = 0 then (ql_lD h rl4 (0 : Int32) fun d242 =>
vf_n64 (FP.f2d f238) ∧
if (Op.cmpValue (FP.dcmp d242 (FP.f2d f238)) .l) = 0 then (qw_L_law_2538 σ L9 xs9 a0 Q X k28 rl1 rl2 rl3 rl4 xl5 h) else (ql_lD h rl4 (0 : Int32) fun d243 =>
ql_lD h rl4 (0 : Int32) fun d244 =>
if (Op.cmpValue (FP.dcmp d243 d244) .l) = 0 then (ql_nz .boolean (0 : Int32) ∧ Q (0 : Int32) h) else (if (Op.cmpValue (FP.fcmp f238 f238) .l) = 0 then (ql_nz .boolean (0 : Int32) ∧ Q (0 : Int32) h) else (qw_L_law_2538 σ L9 xs9 a0 Q X k28 rl1 rl2 rl3 rl4 xl5 h)))) else (qw_L_law_2538 σ L9 xs9 a0 Q X k28 rl1 rl2 rl3 rl4 xl5 h)) else (ql_nz .boolean (0 : Int32) ∧ Q (0 : Int32) h))))
def qw_L_law_2541 (σ : Nat → Nat) (L9 : Nat) (xs9 : Nat → Int32) (a0 : Nat) (Q : Int32 → ql_H → Prop) (X : String → ql_H → Prop) (k28 : Option Nat → Option Nat → Option Nat → Option Nat → Int32 → ql_H → Prop) (rl1 : Option Nat) (rl2 : Option Nat) (rl3 : Option Nat) (rl4 : Option Nat) (xl5 : Int32) (h : ql_H) : Prop :=
ql_rv h rl1 12 fun b245 => qw_X11_isConsistent b245  h (fun x245 h =>
ql_rv h rl2 13 fun b247 => qw_X12_isConsistent b247  h (fun x247 h =>
if x245 = x247 then (qw_L_law_2957 σ L9 xs9 a0 Q X k28 rl1 rl2 rl3 rl4 xl5 h) else (ql_nz .boolean (0 : Int32) ∧ Q (0 : Int32) h)))
def qw_L_law_2607 (σ : Nat → Nat) (L9 : Nat) (xs9 : Nat → Int32) (a0 : Nat) (Q : Int32 → ql_H → Prop) (X : String → ql_H → Prop) (k28 : Option Nat → Option Nat → Option Nat → Option Nat → Int32 → ql_H → Prop) (rl1 : Option Nat) (rl2 : Option Nat) (rl3 : Option Nat) (rl4 : Option Nat) (xl5 : Int32) (h : ql_H) : Prop :=
qw_L_law_2957 σ L9 xs9 a0 Q X k28 rl1 rl2 rl3 rl4 xl5 h
def qw_L_law_2554 (σ : Nat → Nat) (L9 : Nat) (xs9 : Nat → Int32) (a0 : Nat) (Q : Int32 → ql_H → Prop) (X : String → ql_H → Prop) (k28 : Option Nat → Option Nat → Option Nat → Option Nat → Int32 → ql_H → Prop) (rl1 : Option Nat) (rl2 : Option Nat) (rl3 : Option Nat) (rl4 : Option Nat) (xl5 : Int32) (h : ql_H) : Prop :=
vp_in (xl5 + (1 : Int32)) L9 ∧
qw_L_renderClause σ rl1 (xs9 (xl5 + (1 : Int32)).toNatClampNeg) rl3 h (fun x249 h =>
vp_in (xl5 + (1 : Int32)) L9 ∧
ql_rv h rl2 13 fun b250 => qw_X12_renderClause b250 (xs9 (xl5 + (1 : Int32)).toNatClampNeg) h (fun x250 h =>
ql_rv h rl2 13 fun b252 => qw_X12_thrown b252  h (fun x252 h =>
if x252 = x249 then (if x249 = 0 then (ql_lJ h rl3 (0 : Int32) fun j254 =>
if (lg_cmp j254 x250.toInt64) = 0 then (qw_L_law_2607 σ L9 xs9 a0 Q X k28 rl1 rl2 rl3 rl4 xl5 h) else (ql_nz .boolean (0 : Int32) ∧ Q (0 : Int32) h)) else (qw_L_law_2607 σ L9 xs9 a0 Q X k28 rl1 rl2 rl3 rl4 xl5 h)) else (ql_nz .boolean (0 : Int32) ∧ Q (0 : Int32) h))))
def qw_L_law_2663 (σ : Nat → Nat) (L9 : Nat) (xs9 : Nat → Int32) (a0 : Nat) (Q : Int32 → ql_H → Prop) (X : String → ql_H → Prop) (k28 : Option Nat → Option Nat → Option Nat → Option Nat → Int32 → ql_H → Prop) (rl1 : Option Nat) (rl2 : Option Nat) (rl3 : Option Nat) (rl4 : Option Nat) (xl5 : Int32) (h : ql_H) : Prop :=
qw_L_law_2957 σ L9 xs9 a0 Q X k28 rl1 rl2 rl3 rl4 xl5 h
def qw_L_law_2610 (σ : Nat → Nat) (L9 : Nat) (xs9 : Nat → Int32) (a0 : Nat) (Q : Int32 → ql_H → Prop) (X : String → ql_H → Prop) (k28 : Option Nat → Option Nat → Option Nat → Option Nat → Int32 → ql_H → Prop) (rl1 : Option Nat) (rl2 : Option Nat) (rl3 : Option Nat) (rl4 : Option Nat) (xl5 : Int32) (h : ql_H) : Prop :=
vp_in (xl5 + (1 : Int32)) L9 ∧
qw_L_outputAt rl1 (xs9 (xl5 + (1 : Int32)).toNatClampNeg) rl3 h (fun x255 h =>
vp_in (xl5 + (1 : Int32)) L9 ∧
ql_rv h rl2 13 fun b256 => qw_X12_outputAt b256 (xs9 (xl5 + (1 : Int32)).toNatClampNeg) h (fun x256 h =>
ql_rv h rl2 13 fun b258 => qw_X12_thrown b258  h (fun x258 h =>
if x258 = x255 then (if x255 = 0 then (ql_lJ h rl3 (0 : Int32) fun j260 =>
if (lg_cmp j260 x256.toInt64) = 0 then (qw_L_law_2663 σ L9 xs9 a0 Q X k28 rl1 rl2 rl3 rl4 xl5 h) else (ql_nz .boolean (0 : Int32) ∧ Q (0 : Int32) h)) else (qw_L_law_2663 σ L9 xs9 a0 Q X k28 rl1 rl2 rl3 rl4 xl5 h)) else (ql_nz .boolean (0 : Int32) ∧ Q (0 : Int32) h))))
def qw_L_law_2721 (σ : Nat → Nat) (L9 : Nat) (xs9 : Nat → Int32) (a0 : Nat) (Q : Int32 → ql_H → Prop) (X : String → ql_H → Prop) (k28 : Option Nat → Option Nat → Option Nat → Option Nat → Int32 → ql_H → Prop) (rl1 : Option Nat) (rl2 : Option Nat) (rl3 : Option Nat) (rl4 : Option Nat) (xl5 : Int32) (h : ql_H) : Prop :=
qw_L_law_2957 σ L9 xs9 a0 Q X k28 rl1 rl2 rl3 rl4 xl5 h
def qw_L_law_2666 (σ : Nat → Nat) (L9 : Nat) (xs9 : Nat → Int32) (a0 : Nat) (Q : Int32 → ql_H → Prop) (X : String → ql_H → Prop) (k28 : Option Nat → Option Nat → Option Nat → Option Nat → Int32 → ql_H → Prop) (rl1 : Option Nat) (rl2 : Option Nat) (rl3 : Option Nat) (rl4 : Option Nat) (xl5 : Int32) (h : ql_H) : Prop :=
vp_in (xl5 + (1 : Int32)) L9 ∧
qw_L_type rl1 ((xs9 (xl5 + (1 : Int32)).toNatClampNeg).toUInt32 % 65536).toInt32 rl3 h (fun x261 h =>
vp_in (xl5 + (1 : Int32)) L9 ∧
ql_rv h rl2 13 fun b262 => qw_X12_type b262 ((xs9 (xl5 + (1 : Int32)).toNatClampNeg).toUInt32 % 65536).toInt32 h (fun x262 h =>
ql_rv h rl2 13 fun b264 => qw_X12_thrown b264  h (fun x264 h =>
if x264 = x261 then (if x261 = 0 then (ql_lJ h rl3 (0 : Int32) fun j266 =>
if (lg_cmp j266 x262.toInt64) = 0 then (qw_L_law_2721 σ L9 xs9 a0 Q X k28 rl1 rl2 rl3 rl4 xl5 h) else (ql_nz .boolean (0 : Int32) ∧ Q (0 : Int32) h)) else (qw_L_law_2721 σ L9 xs9 a0 Q X k28 rl1 rl2 rl3 rl4 xl5 h)) else (ql_nz .boolean (0 : Int32) ∧ Q (0 : Int32) h))))
def qw_L_law_2765 (σ : Nat → Nat) (L9 : Nat) (xs9 : Nat → Int32) (a0 : Nat) (Q : Int32 → ql_H → Prop) (X : String → ql_H → Prop) (k28 : Option Nat → Option Nat → Option Nat → Option Nat → Int32 → ql_H → Prop) (rl1 : Option Nat) (rl2 : Option Nat) (rl3 : Option Nat) (rl4 : Option Nat) (xl5 : Int32) (h : ql_H) : Prop :=
qw_L_law_2957 σ L9 xs9 a0 Q X k28 rl1 rl2 rl3 rl4 xl5 h
def qw_L_law_2724 (σ : Nat → Nat) (L9 : Nat) (xs9 : Nat → Int32) (a0 : Nat) (Q : Int32 → ql_H → Prop) (X : String → ql_H → Prop) (k28 : Option Nat → Option Nat → Option Nat → Option Nat → Int32 → ql_H → Prop) (rl1 : Option Nat) (rl2 : Option Nat) (rl3 : Option Nat) (rl4 : Option Nat) (xl5 : Int32) (h : ql_H) : Prop :=
qw_L_runScript σ rl1 rl3 h (fun x267 h =>
ql_rv h rl2 13 fun b268 => qw_X12_runScript σ b268  h (fun x268 h =>
ql_rv h rl2 13 fun b270 => qw_X12_thrown b270  h (fun x270 h =>
if x270 = x267 then (if x267 = 0 then (ql_lJ h rl3 (0 : Int32) fun j272 =>
if (lg_cmp j272 x268.toInt64) = 0 then (qw_L_law_2765 σ L9 xs9 a0 Q X k28 rl1 rl2 rl3 rl4 xl5 h) else (ql_nz .boolean (0 : Int32) ∧ Q (0 : Int32) h)) else (qw_L_law_2765 σ L9 xs9 a0 Q X k28 rl1 rl2 rl3 rl4 xl5 h)) else (ql_nz .boolean (0 : Int32) ∧ Q (0 : Int32) h))))
def qw_L_law_2809 (σ : Nat → Nat) (L9 : Nat) (xs9 : Nat → Int32) (a0 : Nat) (Q : Int32 → ql_H → Prop) (X : String → ql_H → Prop) (k28 : Option Nat → Option Nat → Option Nat → Option Nat → Int32 → ql_H → Prop) (rl1 : Option Nat) (rl2 : Option Nat) (rl3 : Option Nat) (rl4 : Option Nat) (xl5 : Int32) (h : ql_H) : Prop :=
qw_L_law_2957 σ L9 xs9 a0 Q X k28 rl1 rl2 rl3 rl4 xl5 h
def qw_L_law_2768 (σ : Nat → Nat) (L9 : Nat) (xs9 : Nat → Int32) (a0 : Nat) (Q : Int32 → ql_H → Prop) (X : String → ql_H → Prop) (k28 : Option Nat → Option Nat → Option Nat → Option Nat → Int32 → ql_H → Prop) (rl1 : Option Nat) (rl2 : Option Nat) (rl3 : Option Nat) (rl4 : Option Nat) (xl5 : Int32) (h : ql_H) : Prop :=
qw_L_errorPosition rl1 rl3 h (fun x273 h =>
ql_rv h rl2 13 fun b274 => qw_X12_errorPosition b274  h (fun x274 h =>
ql_rv h rl2 13 fun b276 => qw_X12_thrown b276  h (fun x276 h =>
if x276 = x273 then (if x273 = 0 then (ql_lJ h rl3 (0 : Int32) fun j278 =>
if (lg_cmp j278 x274.toInt64) = 0 then (qw_L_law_2809 σ L9 xs9 a0 Q X k28 rl1 rl2 rl3 rl4 xl5 h) else (ql_nz .boolean (0 : Int32) ∧ Q (0 : Int32) h)) else (qw_L_law_2809 σ L9 xs9 a0 Q X k28 rl1 rl2 rl3 rl4 xl5 h)) else (ql_nz .boolean (0 : Int32) ∧ Q (0 : Int32) h))))
def qw_L_law_2853 (σ : Nat → Nat) (L9 : Nat) (xs9 : Nat → Int32) (a0 : Nat) (Q : Int32 → ql_H → Prop) (X : String → ql_H → Prop) (k28 : Option Nat → Option Nat → Option Nat → Option Nat → Int32 → ql_H → Prop) (rl1 : Option Nat) (rl2 : Option Nat) (rl3 : Option Nat) (rl4 : Option Nat) (xl5 : Int32) (h : ql_H) : Prop :=
qw_L_law_2957 σ L9 xs9 a0 Q X k28 rl1 rl2 rl3 rl4 xl5 h
def qw_L_law_2812 (σ : Nat → Nat) (L9 : Nat) (xs9 : Nat → Int32) (a0 : Nat) (Q : Int32 → ql_H → Prop) (X : String → ql_H → Prop) (k28 : Option Nat → Option Nat → Option Nat → Option Nat → Int32 → ql_H → Prop) (rl1 : Option Nat) (rl2 : Option Nat) (rl3 : Option Nat) (rl4 : Option Nat) (xl5 : Int32) (h : ql_H) : Prop :=
qw_L_failedCommand rl1 rl3 h (fun x279 h =>
ql_rv h rl2 13 fun b280 => qw_X12_failedCommand b280  h (fun x280 h =>
ql_rv h rl2 13 fun b282 => qw_X12_thrown b282  h (fun x282 h =>
if x282 = x279 then (if x279 = 0 then (ql_lJ h rl3 (0 : Int32) fun j284 =>
if (lg_cmp j284 x280.toInt64) = 0 then (qw_L_law_2853 σ L9 xs9 a0 Q X k28 rl1 rl2 rl3 rl4 xl5 h) else (ql_nz .boolean (0 : Int32) ∧ Q (0 : Int32) h)) else (qw_L_law_2853 σ L9 xs9 a0 Q X k28 rl1 rl2 rl3 rl4 xl5 h)) else (ql_nz .boolean (0 : Int32) ∧ Q (0 : Int32) h))))
def qw_L_law_2897 (σ : Nat → Nat) (L9 : Nat) (xs9 : Nat → Int32) (a0 : Nat) (Q : Int32 → ql_H → Prop) (X : String → ql_H → Prop) (k28 : Option Nat → Option Nat → Option Nat → Option Nat → Int32 → ql_H → Prop) (rl1 : Option Nat) (rl2 : Option Nat) (rl3 : Option Nat) (rl4 : Option Nat) (xl5 : Int32) (h : ql_H) : Prop :=
qw_L_law_2957 σ L9 xs9 a0 Q X k28 rl1 rl2 rl3 rl4 xl5 h
def qw_L_law_2856 (σ : Nat → Nat) (L9 : Nat) (xs9 : Nat → Int32) (a0 : Nat) (Q : Int32 → ql_H → Prop) (X : String → ql_H → Prop) (k28 : Option Nat → Option Nat → Option Nat → Option Nat → Int32 → ql_H → Prop) (rl1 : Option Nat) (rl2 : Option Nat) (rl3 : Option Nat) (rl4 : Option Nat) (xl5 : Int32) (h : ql_H) : Prop :=
qw_L_undo rl1 rl3 h (fun x285 h =>
ql_rv h rl2 13 fun b286 => qw_X12_undo b286  h (fun x286 h =>
ql_rv h rl2 13 fun b288 => qw_X12_thrown b288  h (fun x288 h =>
if x288 = x285 then (if x285 = 0 then (ql_lJ h rl3 (0 : Int32) fun j290 =>
if (lg_cmp j290 x286.toInt64) = 0 then (qw_L_law_2897 σ L9 xs9 a0 Q X k28 rl1 rl2 rl3 rl4 xl5 h) else (ql_nz .boolean (0 : Int32) ∧ Q (0 : Int32) h)) else (qw_L_law_2897 σ L9 xs9 a0 Q X k28 rl1 rl2 rl3 rl4 xl5 h)) else (ql_nz .boolean (0 : Int32) ∧ Q (0 : Int32) h))))
def qw_L_law_2900 (σ : Nat → Nat) (L9 : Nat) (xs9 : Nat → Int32) (a0 : Nat) (Q : Int32 → ql_H → Prop) (X : String → ql_H → Prop) (k28 : Option Nat → Option Nat → Option Nat → Option Nat → Int32 → ql_H → Prop) (rl1 : Option Nat) (rl2 : Option Nat) (rl3 : Option Nat) (rl4 : Option Nat) (xl5 : Int32) (h : ql_H) : Prop :=
ql_rv h rl1 12 fun b291 => qw_X11_save b291  h (fun x291 h =>
ql_rv h rl2 13 fun b293 => qw_X12_save b293  h (fun x293 h =>
if x291 = x293 then (qw_L_law_2957 σ L9 xs9 a0 Q X k28 rl1 rl2 rl3 rl4 xl5 h) else (ql_nz .boolean (0 : Int32) ∧ Q (0 : Int32) h)))
def qw_L_law_2954 (σ : Nat → Nat) (L9 : Nat) (xs9 : Nat → Int32) (a0 : Nat) (Q : Int32 → ql_H → Prop) (X : String → ql_H → Prop) (k28 : Option Nat → Option Nat → Option Nat → Option Nat → Int32 → ql_H → Prop) (rl1 : Option Nat) (rl2 : Option Nat) (rl3 : Option Nat) (rl4 : Option Nat) (xl5 : Int32) (h : ql_H) : Prop :=
qw_L_law_2957 σ L9 xs9 a0 Q X k28 rl1 rl2 rl3 rl4 xl5 h
def qw_L_law_2913 (σ : Nat → Nat) (L9 : Nat) (xs9 : Nat → Int32) (a0 : Nat) (Q : Int32 → ql_H → Prop) (X : String → ql_H → Prop) (k28 : Option Nat → Option Nat → Option Nat → Option Nat → Int32 → ql_H → Prop) (rl1 : Option Nat) (rl2 : Option Nat) (rl3 : Option Nat) (rl4 : Option Nat) (xl5 : Int32) (h : ql_H) : Prop :=
qw_L_restore rl1 rl3 h (fun x295 h =>
ql_rv h rl2 13 fun b296 => qw_X12_restore b296  h (fun x296 h =>
ql_rv h rl2 13 fun b298 => qw_X12_thrown b298  h (fun x298 h =>
if x298 = x295 then (if x295 = 0 then (ql_lJ h rl3 (0 : Int32) fun j300 =>
if (lg_cmp j300 x296.toInt64) = 0 then (qw_L_law_2954 σ L9 xs9 a0 Q X k28 rl1 rl2 rl3 rl4 xl5 h) else (ql_nz .boolean (0 : Int32) ∧ Q (0 : Int32) h)) else (qw_L_law_2954 σ L9 xs9 a0 Q X k28 rl1 rl2 rl3 rl4 xl5 h)) else (ql_nz .boolean (0 : Int32) ∧ Q (0 : Int32) h))))
def qw_L_law_28 (σ : Nat → Nat) (L9 : Nat) (xs9 : Nat → Int32) (a0 : Nat) (Q : Int32 → ql_H → Prop) (X : String → ql_H → Prop) : Nat → Option Nat → Option Nat → Option Nat → Option Nat → Int32 → ql_H → Prop
  | 0, _, _, _, _, _, _ => False
  | n + 1, rl1, rl2, rl3, rl4, xl5, h =>
    if ((nI L9) - (4 : Int32)) < xl5 then (ql_nz .boolean (1 : Int32) ∧ Q (1 : Int32) h) else (vp_in xl5 L9 ∧
    if ((xs9 xl5.toNatClampNeg) &&& (63 : Int32)) = (0 : Int32) then (qw_L_law_276 σ L9 xs9 a0 Q X (qw_L_law_28 σ L9 xs9 a0 Q X n) rl1 rl2 rl3 rl4 xl5 h) else if ((xs9 xl5.toNatClampNeg) &&& (63 : Int32)) = (1 : Int32) then (qw_L_law_346 σ L9 xs9 a0 Q X (qw_L_law_28 σ L9 xs9 a0 Q X n) rl1 rl2 rl3 rl4 xl5 h) else if ((xs9 xl5.toNatClampNeg) &&& (63 : Int32)) = (2 : Int32) then (qw_L_law_428 σ L9 xs9 a0 Q X (qw_L_law_28 σ L9 xs9 a0 Q X n) rl1 rl2 rl3 rl4 xl5 h) else if ((xs9 xl5.toNatClampNeg) &&& (63 : Int32)) = (3 : Int32) then (qw_L_law_510 σ L9 xs9 a0 Q X (qw_L_law_28 σ L9 xs9 a0 Q X n) rl1 rl2 rl3 rl4 xl5 h) else if ((xs9 xl5.toNatClampNeg) &&& (63 : Int32)) = (4 : Int32) then (qw_L_law_578 σ L9 xs9 a0 Q X (qw_L_law_28 σ L9 xs9 a0 Q X n) rl1 rl2 rl3 rl4 xl5 h) else if ((xs9 xl5.toNatClampNeg) &&& (63 : Int32)) = (5 : Int32) then (qw_L_law_646 σ L9 xs9 a0 Q X (qw_L_law_28 σ L9 xs9 a0 Q X n) rl1 rl2 rl3 rl4 xl5 h) else if ((xs9 xl5.toNatClampNeg) &&& (63 : Int32)) = (6 : Int32) then (qw_L_law_714 σ L9 xs9 a0 Q X (qw_L_law_28 σ L9 xs9 a0 Q X n) rl1 rl2 rl3 rl4 xl5 h) else if ((xs9 xl5.toNatClampNeg) &&& (63 : Int32)) = (7 : Int32) then (qw_L_law_782 σ L9 xs9 a0 Q X (qw_L_law_28 σ L9 xs9 a0 Q X n) rl1 rl2 rl3 rl4 xl5 h) else if ((xs9 xl5.toNatClampNeg) &&& (63 : Int32)) = (8 : Int32) then (qw_L_law_838 σ L9 xs9 a0 Q X (qw_L_law_28 σ L9 xs9 a0 Q X n) rl1 rl2 rl3 rl4 xl5 h) else if ((xs9 xl5.toNatClampNeg) &&& (63 : Int32)) = (9 : Int32) then (qw_L_law_851 σ L9 xs9 a0 Q X (qw_L_law_28 σ L9 xs9 a0 Q X n) rl1 rl2 rl3 rl4 xl5 h) else if ((xs9 xl5.toNatClampNeg) &&& (63 : Int32)) = (10 : Int32) then (qw_L_law_907 σ L9 xs9 a0 Q X (qw_L_law_28 σ L9 xs9 a0 Q X n) rl1 rl2 rl3 rl4 xl5 h) else if ((xs9 xl5.toNatClampNeg) &&& (63 : Int32)) = (11 : Int32) then (qw_L_law_920 σ L9 xs9 a0 Q X (qw_L_law_28 σ L9 xs9 a0 Q X n) rl1 rl2 rl3 rl4 xl5 h) else if ((xs9 xl5.toNatClampNeg) &&& (63 : Int32)) = (12 : Int32) then (qw_L_law_933 σ L9 xs9 a0 Q X (qw_L_law_28 σ L9 xs9 a0 Q X n) rl1 rl2 rl3 rl4 xl5 h) else if ((xs9 xl5.toNatClampNeg) &&& (63 : Int32)) = (13 : Int32) then (qw_L_law_989 σ L9 xs9 a0 Q X (qw_L_law_28 σ L9 xs9 a0 Q X n) rl1 rl2 rl3 rl4 xl5 h) else if ((xs9 xl5.toNatClampNeg) &&& (63 : Int32)) = (14 : Int32) then (qw_L_law_1045 σ L9 xs9 a0 Q X (qw_L_law_28 σ L9 xs9 a0 Q X n) rl1 rl2 rl3 rl4 xl5 h) else if ((xs9 xl5.toNatClampNeg) &&& (63 : Int32)) = (15 : Int32) then (qw_L_law_1101 σ L9 xs9 a0 Q X (qw_L_law_28 σ L9 xs9 a0 Q X n) rl1 rl2 rl3 rl4 xl5 h) else if ((xs9 xl5.toNatClampNeg) &&& (63 : Int32)) = (16 : Int32) then (qw_L_law_1157 σ L9 xs9 a0 Q X (qw_L_law_28 σ L9 xs9 a0 Q X n) rl1 rl2 rl3 rl4 xl5 h) else if ((xs9 xl5.toNatClampNeg) &&& (63 : Int32)) = (17 : Int32) then (qw_L_law_1213 σ L9 xs9 a0 Q X (qw_L_law_28 σ L9 xs9 a0 Q X n) rl1 rl2 rl3 rl4 xl5 h) else if ((xs9 xl5.toNatClampNeg) &&& (63 : Int32)) = (18 : Int32) then (qw_L_law_1288 σ L9 xs9 a0 Q X (qw_L_law_28 σ L9 xs9 a0 Q X n) rl1 rl2 rl3 rl4 xl5 h) else if ((xs9 xl5.toNatClampNeg) &&& (63 : Int32)) = (19 : Int32) then (qw_L_law_1351 σ L9 xs9 a0 Q X (qw_L_law_28 σ L9 xs9 a0 Q X n) rl1 rl2 rl3 rl4 xl5 h) else if ((xs9 xl5.toNatClampNeg) &&& (63 : Int32)) = (20 : Int32) then (qw_L_law_1376 σ L9 xs9 a0 Q X (qw_L_law_28 σ L9 xs9 a0 Q X n) rl1 rl2 rl3 rl4 xl5 h) else if ((xs9 xl5.toNatClampNeg) &&& (63 : Int32)) = (21 : Int32) then (qw_L_law_1432 σ L9 xs9 a0 Q X (qw_L_law_28 σ L9 xs9 a0 Q X n) rl1 rl2 rl3 rl4 xl5 h) else if ((xs9 xl5.toNatClampNeg) &&& (63 : Int32)) = (22 : Int32) then (qw_L_law_1488 σ L9 xs9 a0 Q X (qw_L_law_28 σ L9 xs9 a0 Q X n) rl1 rl2 rl3 rl4 xl5 h) else if ((xs9 xl5.toNatClampNeg) &&& (63 : Int32)) = (23 : Int32) then (qw_L_law_1556 σ L9 xs9 a0 Q X (qw_L_law_28 σ L9 xs9 a0 Q X n) rl1 rl2 rl3 rl4 xl5 h) else if ((xs9 xl5.toNatClampNeg) &&& (63 : Int32)) = (24 : Int32) then (qw_L_law_1612 σ L9 xs9 a0 Q X (qw_L_law_28 σ L9 xs9 a0 Q X n) rl1 rl2 rl3 rl4 xl5 h) else if ((xs9 xl5.toNatClampNeg) &&& (63 : Int32)) = (25 : Int32) then (qw_L_law_1680 σ L9 xs9 a0 Q X (qw_L_law_28 σ L9 xs9 a0 Q X n) rl1 rl2 rl3 rl4 xl5 h) else if ((xs9 xl5.toNatClampNeg) &&& (63 : Int32)) = (26 : Int32) then (qw_L_law_1760 σ L9 xs9 a0 Q X (qw_L_law_28 σ L9 xs9 a0 Q X n) rl1 rl2 rl3 rl4 xl5 h) else if ((xs9 xl5.toNatClampNeg) &&& (63 : Int32)) = (27 : Int32) then (qw_L_law_1840 σ L9 xs9 a0 Q X (qw_L_law_28 σ L9 xs9 a0 Q X n) rl1 rl2 rl3 rl4 xl5 h) else if ((xs9 xl5.toNatClampNeg) &&& (63 : Int32)) = (28 : Int32) then (qw_L_law_1920 σ L9 xs9 a0 Q X (qw_L_law_28 σ L9 xs9 a0 Q X n) rl1 rl2 rl3 rl4 xl5 h) else if ((xs9 xl5.toNatClampNeg) &&& (63 : Int32)) = (29 : Int32) then (qw_L_law_1933 σ L9 xs9 a0 Q X (qw_L_law_28 σ L9 xs9 a0 Q X n) rl1 rl2 rl3 rl4 xl5 h) else if ((xs9 xl5.toNatClampNeg) &&& (63 : Int32)) = (30 : Int32) then (qw_L_law_1946 σ L9 xs9 a0 Q X (qw_L_law_28 σ L9 xs9 a0 Q X n) rl1 rl2 rl3 rl4 xl5 h) else if ((xs9 xl5.toNatClampNeg) &&& (63 : Int32)) = (31 : Int32) then (qw_L_law_2002 σ L9 xs9 a0 Q X (qw_L_law_28 σ L9 xs9 a0 Q X n) rl1 rl2 rl3 rl4 xl5 h) else if ((xs9 xl5.toNatClampNeg) &&& (63 : Int32)) = (32 : Int32) then (qw_L_law_2070 σ L9 xs9 a0 Q X (qw_L_law_28 σ L9 xs9 a0 Q X n) rl1 rl2 rl3 rl4 xl5 h) else if ((xs9 xl5.toNatClampNeg) &&& (63 : Int32)) = (33 : Int32) then (qw_L_law_2083 σ L9 xs9 a0 Q X (qw_L_law_28 σ L9 xs9 a0 Q X n) rl1 rl2 rl3 rl4 xl5 h) else if ((xs9 xl5.toNatClampNeg) &&& (63 : Int32)) = (34 : Int32) then (qw_L_law_2158 σ L9 xs9 a0 Q X (qw_L_law_28 σ L9 xs9 a0 Q X n) rl1 rl2 rl3 rl4 xl5 h) else if ((xs9 xl5.toNatClampNeg) &&& (63 : Int32)) = (35 : Int32) then (qw_L_law_2233 σ L9 xs9 a0 Q X (qw_L_law_28 σ L9 xs9 a0 Q X n) rl1 rl2 rl3 rl4 xl5 h) else if ((xs9 xl5.toNatClampNeg) &&& (63 : Int32)) = (36 : Int32) then (qw_L_law_2289 σ L9 xs9 a0 Q X (qw_L_law_28 σ L9 xs9 a0 Q X n) rl1 rl2 rl3 rl4 xl5 h) else if ((xs9 xl5.toNatClampNeg) &&& (63 : Int32)) = (37 : Int32) then (qw_L_law_2302 σ L9 xs9 a0 Q X (qw_L_law_28 σ L9 xs9 a0 Q X n) rl1 rl2 rl3 rl4 xl5 h) else if ((xs9 xl5.toNatClampNeg) &&& (63 : Int32)) = (38 : Int32) then (qw_L_law_2315 σ L9 xs9 a0 Q X (qw_L_law_28 σ L9 xs9 a0 Q X n) rl1 rl2 rl3 rl4 xl5 h) else if ((xs9 xl5.toNatClampNeg) &&& (63 : Int32)) = (39 : Int32) then (qw_L_law_2328 σ L9 xs9 a0 Q X (qw_L_law_28 σ L9 xs9 a0 Q X n) rl1 rl2 rl3 rl4 xl5 h) else if ((xs9 xl5.toNatClampNeg) &&& (63 : Int32)) = (40 : Int32) then (qw_L_law_2341 σ L9 xs9 a0 Q X (qw_L_law_28 σ L9 xs9 a0 Q X n) rl1 rl2 rl3 rl4 xl5 h) else if ((xs9 xl5.toNatClampNeg) &&& (63 : Int32)) = (41 : Int32) then (qw_L_law_2354 σ L9 xs9 a0 Q X (qw_L_law_28 σ L9 xs9 a0 Q X n) rl1 rl2 rl3 rl4 xl5 h) else if ((xs9 xl5.toNatClampNeg) &&& (63 : Int32)) = (42 : Int32) then (qw_L_law_2410 σ L9 xs9 a0 Q X (qw_L_law_28 σ L9 xs9 a0 Q X n) rl1 rl2 rl3 rl4 xl5 h) else if ((xs9 xl5.toNatClampNeg) &&& (63 : Int32)) = (43 : Int32) then (qw_L_law_2475 σ L9 xs9 a0 Q X (qw_L_law_28 σ L9 xs9 a0 Q X n) rl1 rl2 rl3 rl4 xl5 h) else if ((xs9 xl5.toNatClampNeg) &&& (63 : Int32)) = (44 : Int32) then (qw_L_law_2541 σ L9 xs9 a0 Q X (qw_L_law_28 σ L9 xs9 a0 Q X n) rl1 rl2 rl3 rl4 xl5 h) else if ((xs9 xl5.toNatClampNeg) &&& (63 : Int32)) = (45 : Int32) then (qw_L_law_2554 σ L9 xs9 a0 Q X (qw_L_law_28 σ L9 xs9 a0 Q X n) rl1 rl2 rl3 rl4 xl5 h) else if ((xs9 xl5.toNatClampNeg) &&& (63 : Int32)) = (46 : Int32) then (qw_L_law_2610 σ L9 xs9 a0 Q X (qw_L_law_28 σ L9 xs9 a0 Q X n) rl1 rl2 rl3 rl4 xl5 h) else if ((xs9 xl5.toNatClampNeg) &&& (63 : Int32)) = (47 : Int32) then (qw_L_law_2666 σ L9 xs9 a0 Q X (qw_L_law_28 σ L9 xs9 a0 Q X n) rl1 rl2 rl3 rl4 xl5 h) else if ((xs9 xl5.toNatClampNeg) &&& (63 : Int32)) = (48 : Int32) then (qw_L_law_2724 σ L9 xs9 a0 Q X (qw_L_law_28 σ L9 xs9 a0 Q X n) rl1 rl2 rl3 rl4 xl5 h) else if ((xs9 xl5.toNatClampNeg) &&& (63 : Int32)) = (49 : Int32) then (qw_L_law_2768 σ L9 xs9 a0 Q X (qw_L_law_28 σ L9 xs9 a0 Q X n) rl1 rl2 rl3 rl4 xl5 h) else if ((xs9 xl5.toNatClampNeg) &&& (63 : Int32)) = (50 : Int32) then (qw_L_law_2812 σ L9 xs9 a0 Q X (qw_L_law_28 σ L9 xs9 a0 Q X n) rl1 rl2 rl3 rl4 xl5 h) else if ((xs9 xl5.toNatClampNeg) &&& (63 : Int32)) = (51 : Int32) then (qw_L_law_2856 σ L9 xs9 a0 Q X (qw_L_law_28 σ L9 xs9 a0 Q X n) rl1 rl2 rl3 rl4 xl5 h) else if ((xs9 xl5.toNatClampNeg) &&& (63 : Int32)) = (52 : Int32) then (qw_L_law_2900 σ L9 xs9 a0 Q X (qw_L_law_28 σ L9 xs9 a0 Q X n) rl1 rl2 rl3 rl4 xl5 h) else if ((xs9 xl5.toNatClampNeg) &&& (63 : Int32)) = (53 : Int32) then (qw_L_law_2913 σ L9 xs9 a0 Q X (qw_L_law_28 σ L9 xs9 a0 Q X n) rl1 rl2 rl3 rl4 xl5 h) else (qw_L_law_2957 σ L9 xs9 a0 Q X (qw_L_law_28 σ L9 xs9 a0 Q X n) rl1 rl2 rl3 rl4 xl5 h))
def qw_L_law (σ : Nat → Nat) (L9 : Nat) (xs9 : Nat → Int32) (a0 : Nat) (h : ql_H) (Q : Int32 → ql_H → Prop) (X : String → ql_H → Prop) : Prop :=
ql_nw h (.inr (12, [.null, .null, .int 0, .null, .null, .int 0, .int 0, .null, .null, .null, .null])) fun r301 h =>
ql_nn r301 fun b301 => qw_X11_init σ b301  h (fun h =>
ql_nw h (.inr (13, [.null, .null, .null, .null, .int 0, .int 0, .int 0, .int 0, .null, .int 0, .int 0, .int 0, .null, .int 0, .null, .null, .int 0, .null, .int 0])) fun r303 h =>
ql_nn r303 fun b303 => qw_X12_init b303  h (fun h =>
ql_nw h (.inl (1, 1, .inr (.inl (fun _ => 0)))) fun r305 h =>
ql_nw h (.inl (4, 1, .inr (.inr (.inr (.inl (fun _ => 0)))))) fun r306 h =>
qw_L_law_28 σ L9 xs9 a0 Q X 513 r301 r303 r305 r306 (0 : Int32) h))

