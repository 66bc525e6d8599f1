/-! The law's calls, one by one. -/
section QCS
variable {σ : Nat → Nat} {h : ql_H} {b i N L9 a0 : Nat} {S : qa_S} {M : qk_T} {Q : Int32 → ql_H → Prop} {X : String → ql_H → Prop} {xs9 : Nat → Int32} {k28 : Option Nat → Option Nat → Option Nat → Option Nat → Int32 → ql_H → Prop}
theorem qy_use {r : Nat × Int32 × qa_S} {P : (Int32 → ql_H → Prop) → Prop} {K0 : Int32 → ql_H → Prop} (key : ∀ K, qy_k σ b h r K → P K) (k : qy_k σ b h r K0) : P K0 := key K0 k
theorem qc_0 (W : qy_at σ h b M S) (I : qi_S S N) (hN : N + 13 < 2 ^ 20) (hi : i + 4 ≤ L9) (hL : L9 ≤ 2048) (hk : qy_c σ b N i k28) : qw_L_law_276 σ L9 xs9 a0 Q X k28 (some b) (some (b + 780)) (some (b + 790)) (some (b + 791)) (nI i) h := by
  obtain ⟨v1, v2, v3⟩ := qc_v hi hL
  obtain ⟨H, ⟨HM, A⟩, ho, hd⟩ := id W
  have w := I.1.1
  have hN2 : N < 2 ^ 20 := by omega
  have R := A.1.1
  have HP := A.1.2.1
  obtain ⟨a, ha, ea⟩ := w.2.2.1
  unfold qw_L_law_276
  refine ⟨v1, v2, ?_⟩
  generalize xs9 (nI i + (1 : Int32)).toNatClampNeg = y1
  generalize xs9 (nI i + (2 : Int32)).toNatClampNeg = y2
  have NO : qa_no S.1 (qa_add S.1 y1 (y2.toUInt32 % 65536).toInt32) [(-3 : Int32), -4, -5] := qa_no.add w hN2 _ _
  have OK : qa_w (qa_add S.1 y1 (y2.toUInt32 % 65536).toInt32).2 (N + 1) := w.add hN2 _ _
  apply qy_use (σ := σ) (b := b) (h := h)
  · intro K k
    unfold qw_L_addClause
    rw [qx_rv H]
    refine qe_X11_addClause H w hN2 (qy_po (f := qf_add) ho (fun _ => (qf_b _).1.1) (fun z h1 q => ?_) k)
    have m := (NO z).2
    rcases List.mem_cons.mp m with e | m
    · rw [e, show qf_add (-3) = 1 from by decide] at q
      rw [e]
      rw [show qx_nm (-3) = "java/lang/IllegalArgumentException" from by decide +kernel]
      exact qp_iT rfl q
    rcases List.mem_cons.mp m with e | m
    · rw [e, show qf_add (-4) = 2 from by decide] at q
      rw [e]
      rw [show qx_nm (-4) = "java/lang/IllegalStateException" from by decide +kernel]
      exact qp_iF (by decide +kernel) (qp_iT rfl q)
    rcases List.mem_cons.mp m with e | m
    · rw [e, show qf_add (-5) = 3 from by decide] at q
      rw [e]
      rw [show qx_nm (-5) = "java/lang/UnsupportedOperationException" from by decide +kernel]
      exact qp_iF (by decide +kernel) (qp_iF (by decide +kernel) (qp_iT rfl q))
    cases m
  intro h1 f1 H1 fr o1 ev
  refine ⟨v1, v2, ?_⟩
  have HM1 := fr.m HM
  rw [qk_rv HM1]
  refine qe_X12_addClause HM1 R HP ⟨_, Nat.lt_of_le_of_lt ha (by omega), ea⟩ fun h2 M2 x H2 f2 q0 => ?_
  have q := qk_po.pm A q0 (fun _ => (qf_b _).1.1)
  refine qc_end ?_ H1 o1 ev (fr.d hd) (I.did OK) hk H2 f2 q
  show (if _ then _ else _) < 100
  split
  · rename_i z
    have := (NO z).2
    revert this
    generalize (qa_add S.1 y1 (y2.toUInt32 % 65536).toInt32).1 = y
    revert y
    decide
  · decide
theorem qc_1 (W : qy_at σ h b M S) (I : qi_S S N) (hN : N + 13 < 2 ^ 20) (hi : i + 4 ≤ L9) (hL : L9 ≤ 2048) (hk : qy_c σ b N i k28) : qw_L_law_346 σ L9 xs9 a0 Q X k28 (some b) (some (b + 780)) (some (b + 790)) (some (b + 791)) (nI i) h := by
  obtain ⟨v1, v2, v3⟩ := qc_v hi hL
  obtain ⟨H, ⟨HM, A⟩, ho, hd⟩ := id W
  have w := I.1.1
  have hN2 : N < 2 ^ 20 := by omega
  have R := A.1.1
  have HP := A.1.2.1
  unfold qw_L_law_346
  refine ⟨v1, v2, v3, ?_⟩
  generalize xs9 (nI i + (1 : Int32)).toNatClampNeg = y1
  generalize xs9 (nI i + (2 : Int32)).toNatClampNeg = y2
  generalize xs9 (nI i + (3 : Int32)).toNatClampNeg = y3
  have NO : qa_no S.1 (qa_ins S.1 y1 y2 (y3.toUInt32 % 65536).toInt32) [(-1 : Int32), -2, -3, -4, -5] := qa_no.ins R.sh _ _ _
  have OK : qa_w (qa_ins S.1 y1 y2 (y3.toUInt32 % 65536).toInt32).2 (N + 1) := w.ins _ _ _
  apply qy_use (σ := σ) (b := b) (h := h)
  · intro K k
    unfold qw_L_insertNote
    rw [qx_rv H]
    refine qe_X11_insertNote H w hN2 (qy_po (f := qf_ins) ho (fun y => (qz_codes (NO y).2).1) (fun z h1 q => ?_) k)
    have m := (NO z).2
    rcases List.mem_cons.mp m with e | m
    · rw [e, show qf_ins (-1) = 1 from by decide] at q
      rw [e]
      rw [show qx_nm (-1) = "java/util/NoSuchElementException" from by decide +kernel]
      exact qp_iT rfl q
    rcases List.mem_cons.mp m with e | m
    · rw [e, show qf_ins (-2) = 2 from by decide] at q
      rw [e]
      rw [show qx_nm (-2) = "java/lang/IndexOutOfBoundsException" from by decide +kernel]
      exact qp_iF (by decide +kernel) (qp_iT rfl q)
    rcases List.mem_cons.mp m with e | m
    · rw [e, show qf_ins (-3) = 3 from by decide] at q
      rw [e]
      rw [show qx_nm (-3) = "java/lang/IllegalArgumentException" from by decide +kernel]
      exact qp_iF (by decide +kernel) (qp_iF (by decide +kernel) (qp_iT rfl q))
    rcases List.mem_cons.mp m with e | m
    · rw [e, show qf_ins (-4) = 4 from by decide] at q
      rw [e]
      rw [show qx_nm (-4) = "java/lang/IllegalStateException" from by decide +kernel]
      exact qp_iF (by decide +kernel) (qp_iF (by decide +kernel) (qp_iF (by decide +kernel) (qp_iT rfl q)))
    rcases List.mem_cons.mp m with e | m
    · rw [e, show qf_ins (-5) = 5 from by decide] at q
      rw [e]
      rw [show qx_nm (-5) = "java/lang/UnsupportedOperationException" from by decide +kernel]
      exact qp_iF (by decide +kernel) (qp_iF (by decide +kernel) (qp_iF (by decide +kernel) (qp_iF (by decide +kernel) (qp_iT rfl q))))
    cases m
  intro h1 f1 H1 fr o1 ev
  refine ⟨v1, v2, v3, ?_⟩
  have HM1 := fr.m HM
  rw [qk_rv HM1]
  refine qe_X12_insertNote HM1 R HP w.1.1 (w.sunok hN2) fun h2 M2 x H2 f2 q0 => ?_
  have q := qk_po.pm A q0 (fun y => (qz_codes (NO y).2).1)
  refine qc_end ?_ H1 o1 ev (fr.d hd) (I.did OK) hk H2 f2 q
  show (if _ then _ else _) < 100
  split
  · rename_i z
    have := (NO z).2
    revert this
    generalize (qa_ins S.1 y1 y2 (y3.toUInt32 % 65536).toInt32).1 = y
    revert y
    decide
  · decide
theorem qc_2 (W : qy_at σ h b M S) (I : qi_S S N) (hN : N + 13 < 2 ^ 20) (hi : i + 4 ≤ L9) (hL : L9 ≤ 2048) (hk : qy_c σ b N i k28) : qw_L_law_428 σ L9 xs9 a0 Q X k28 (some b) (some (b + 780)) (some (b + 790)) (some (b + 791)) (nI i) h := by
  obtain ⟨v1, v2, v3⟩ := qc_v hi hL
  obtain ⟨H, ⟨HM, A⟩, ho, hd⟩ := id W
  have w := I.1.1
  have hN2 : N < 2 ^ 20 := by omega
  have R := A.1.1
  have HP := A.1.2.1
  have sub4 : ∀ v ∈ [(-1 : Int32), -2, -3, -4], v ∈ [(-1 : Int32), -2, -3, -4, -5] := by decide
  unfold qw_L_law_428
  refine ⟨v1, v2, v3, ?_⟩
  generalize xs9 (nI i + (1 : Int32)).toNatClampNeg = y1
  generalize xs9 (nI i + (2 : Int32)).toNatClampNeg = y2
  generalize xs9 (nI i + (3 : Int32)).toNatClampNeg = y3
  have NO : qa_no S.1 (qa_rep S.1 y1 y2 (y3.toUInt32 % 65536).toInt32) [(-1 : Int32), -2, -3, -4] := qa_no.rep R.sh _ _ _
  have OK : qa_w (qa_rep S.1 y1 y2 (y3.toUInt32 % 65536).toInt32).2 (N + 1) := w.rep _ _ _
  apply qy_use (σ := σ) (b := b) (h := h)
  · intro K k
    unfold qw_L_replaceNote
    rw [qx_rv H]
    refine qe_X11_replaceNote H w hN2 (qy_po (f := qf_ins) ho (fun y => (qz_codes (sub4 _ (NO y).2)).1) (fun z h1 q => ?_) k)
    have m := (NO z).2
    rcases List.mem_cons.mp m with e | m
    · rw [e, show qf_ins (-1) = 1 from by decide] at q
      rw [e]
      rw [show qx_nm (-1) = "java/util/NoSuchElementException" from by decide +kernel]
      exact qp_iT rfl q
    rcases List.mem_cons.mp m with e | m
    · rw [e, show qf_ins (-2) = 2 from by decide] at q
      rw [e]
      rw [show qx_nm (-2) = "java/lang/IndexOutOfBoundsException" from by decide +kernel]
      exact qp_iF (by decide +kernel) (qp_iT rfl q)
    rcases List.mem_cons.mp m with e | m
    · rw [e, show qf_ins (-3) = 3 from by decide] at q
      rw [e]
      rw [show qx_nm (-3) = "java/lang/IllegalArgumentException" from by decide +kernel]
      exact qp_iF (by decide +kernel) (qp_iF (by decide +kernel) (qp_iT rfl q))
    rcases List.mem_cons.mp m with e | m
    · rw [e, show qf_ins (-4) = 4 from by decide] at q
      rw [e]
      rw [show qx_nm (-4) = "java/lang/IllegalStateException" from by decide +kernel]
      exact qp_iF (by decide +kernel) (qp_iF (by decide +kernel) (qp_iF (by decide +kernel) (qp_iT rfl q)))
    cases m
  intro h1 f1 H1 fr o1 ev
  refine ⟨v1, v2, v3, ?_⟩
  have HM1 := fr.m HM
  rw [qk_rv HM1]
  refine qe_X12_replaceNote HM1 R HP w.1.1 (w.sunok hN2) fun h2 M2 x H2 f2 q0 => ?_
  have q := qk_po.pm A q0 (fun y => (qz_codes (sub4 _ (NO y).2)).1)
  refine qc_end ?_ H1 o1 ev (fr.d hd) (I.did OK) hk H2 f2 q
  show (if _ then _ else _) < 100
  split
  · rename_i z
    have := (NO z).2
    revert this
    generalize (qa_rep S.1 y1 y2 (y3.toUInt32 % 65536).toInt32).1 = y
    revert y
    decide
  · decide
theorem qc_3 (W : qy_at σ h b M S) (I : qi_S S N) (hN : N + 13 < 2 ^ 20) (hi : i + 4 ≤ L9) (hL : L9 ≤ 2048) (hk : qy_c σ b N i k28) : qw_L_law_510 σ L9 xs9 a0 Q X k28 (some b) (some (b + 780)) (some (b + 790)) (some (b + 791)) (nI i) h := by
  obtain ⟨v1, v2, v3⟩ := qc_v hi hL
  obtain ⟨H, ⟨HM, A⟩, ho, hd⟩ := id W
  have w := I.1.1
  have hN2 : N < 2 ^ 20 := by omega
  have R := A.1.1
  have HP := A.1.2.1
  unfold qw_L_law_510
  refine ⟨v1, v2, ?_⟩
  generalize xs9 (nI i + (1 : Int32)).toNatClampNeg = y1
  generalize xs9 (nI i + (2 : Int32)).toNatClampNeg = y2
  have NO : qa_no S.1 (qa_del S.1 y1 y2) [(-1 : Int32), -2, -4, -5] := qa_no.del R.sh _ _
  have OK : qa_w (qa_del S.1 y1 y2).2 (N + 1) := w.del _ _
  apply qy_use (σ := σ) (b := b) (h := h)
  · intro K k
    unfold qw_L_deleteNote
    rw [qx_rv H]
    refine qe_X11_deleteNote H w hN2 (qy_po (f := qf_del) ho (fun _ => (qf_b _).2.1.1) (fun z h1 q => ?_) k)
    have m := (NO z).2
    rcases List.mem_cons.mp m with e | m
    · rw [e, show qf_del (-1) = 1 from by decide] at q
      rw [e]
      rw [show qx_nm (-1) = "java/util/NoSuchElementException" from by decide +kernel]
      exact qp_iT rfl q
    rcases List.mem_cons.mp m with e | m
    · rw [e, show qf_del (-2) = 2 from by decide] at q
      rw [e]
      rw [show qx_nm (-2) = "java/lang/IndexOutOfBoundsException" from by decide +kernel]
      exact qp_iF (by decide +kernel) (qp_iT rfl q)
    rcases List.mem_cons.mp m with e | m
    · rw [e, show qf_del (-4) = 3 from by decide] at q
      rw [e]
      rw [show qx_nm (-4) = "java/lang/IllegalStateException" from by decide +kernel]
      exact qp_iF (by decide +kernel) (qp_iF (by decide +kernel) (qp_iT rfl q))
    rcases List.mem_cons.mp m with e | m
    · rw [e, show qf_del (-5) = 4 from by decide] at q
      rw [e]
      rw [show qx_nm (-5) = "java/lang/UnsupportedOperationException" from by decide +kernel]
      exact qp_iF (by decide +kernel) (qp_iF (by decide +kernel) (qp_iF (by decide +kernel) (qp_iT rfl q)))
    cases m
  intro h1 f1 H1 fr o1 ev
  refine ⟨v1, v2, ?_⟩
  have HM1 := fr.m HM
  rw [qk_rv HM1]
  refine qe_X12_deleteNote HM1 R HP w.1.1 (w.sunok hN2) fun h2 M2 x H2 f2 q0 => ?_
  have q := qk_po.pm A q0 (fun _ => (qf_b _).2.1.1)
  refine qc_end ?_ H1 o1 ev (fr.d hd) (I.did OK) hk H2 f2 q
  show (if _ then _ else _) < 100
  split
  · rename_i z
    have := (NO z).2
    revert this
    generalize (qa_del S.1 y1 y2).1 = y
    revert y
    decide
  · decide
theorem qc_4 (W : qy_at σ h b M S) (I : qi_S S N) (hN : N + 13 < 2 ^ 20) (hi : i + 4 ≤ L9) (hL : L9 ≤ 2048) (hk : qy_c σ b N i k28) : qw_L_law_578 σ L9 xs9 a0 Q X k28 (some b) (some (b + 780)) (some (b + 790)) (some (b + 791)) (nI i) h := by
  obtain ⟨v1, v2, v3⟩ := qc_v hi hL
  obtain ⟨H, ⟨HM, A⟩, ho, hd⟩ := id W
  have w := I.1.1
  have hN2 : N < 2 ^ 20 := by omega
  have R := A.1.1
  have HP := A.1.2.1
  obtain ⟨d, hdd, ed⟩ := w.2.1
  unfold qw_L_law_578
  refine ⟨v1, v2, ?_⟩
  generalize xs9 (nI i + (1 : Int32)).toNatClampNeg = y1
  generalize xs9 (nI i + (2 : Int32)).toNatClampNeg = y2
  have NO : qa_no S.1 (qa_setSun S.1 y1 y2) [(-1 : Int32), -3, -4] := qa_no.sun w hN2 _ _
  have OK : qa_w (qa_setSun S.1 y1 y2).2 (N + 1) := w.sun hN2 _ _
  apply qy_use (σ := σ) (b := b) (h := h)
  · intro K k
    unfold qw_L_setSunset
    rw [qx_rv H]
    refine qe_X11_setSunset H w hN2 (qy_po (f := qf_sun) ho (fun _ => (qf_b _).2.2.1.1) (fun z h1 q => ?_) k)
    have m := (NO z).2
    rcases List.mem_cons.mp m with e | m
    · rw [e, show qf_sun (-1) = 1 from by decide] at q
      rw [e]
      rw [show qx_nm (-1) = "java/util/NoSuchElementException" from by decide +kernel]
      exact qp_iT rfl q
    rcases List.mem_cons.mp m with e | m
    · rw [e, show qf_sun (-3) = 2 from by decide] at q
      rw [e]
      rw [show qx_nm (-3) = "java/lang/IllegalArgumentException" from by decide +kernel]
      exact qp_iF (by decide +kernel) (qp_iT rfl q)
    rcases List.mem_cons.mp m with e | m
    · rw [e, show qf_sun (-4) = 3 from by decide] at q
      rw [e]
      rw [show qx_nm (-4) = "java/lang/IllegalStateException" from by decide +kernel]
      exact qp_iF (by decide +kernel) (qp_iF (by decide +kernel) (qp_iT rfl q))
    cases m
  intro h1 f1 H1 fr o1 ev
  refine ⟨v1, v2, ?_⟩
  have HM1 := fr.m HM
  rw [qk_rv HM1]
  refine qe_X12_setSunset HM1 R HP w.1.1 (w.sunok hN2) ⟨_, Nat.lt_of_le_of_lt hdd (by omega), ed⟩ fun h2 M2 x H2 f2 q0 => ?_
  have q := qk_po.pm A q0 (fun _ => (qf_b _).2.2.1.1)
  refine qc_end ?_ H1 o1 ev (fr.d hd) (I.did OK) hk H2 f2 q
  show (if _ then _ else _) < 100
  split
  · rename_i z
    have := (NO z).2
    revert this
    generalize (qa_setSun S.1 y1 y2).1 = y
    revert y
    decide
  · decide
theorem qc_5 (W : qy_at σ h b M S) (I : qi_S S N) (hN : N + 13 < 2 ^ 20) (hi : i + 4 ≤ L9) (hL : L9 ≤ 2048) (hk : qy_c σ b N i k28) : qw_L_law_646 σ L9 xs9 a0 Q X k28 (some b) (some (b + 780)) (some (b + 790)) (some (b + 791)) (nI i) h := by
  obtain ⟨v1, v2, v3⟩ := qc_v hi hL
  obtain ⟨H, ⟨HM, A⟩, ho, hd⟩ := id W
  have w := I.1.1
  have hN2 : N < 2 ^ 20 := by omega
  have R := A.1.1
  have HP := A.1.2.1
  unfold qw_L_law_646
  refine ⟨v1, v2, ?_⟩
  generalize xs9 (nI i + (1 : Int32)).toNatClampNeg = y1
  generalize xs9 (nI i + (2 : Int32)).toNatClampNeg = y2
  have NO : qa_no S.1 (qa_cite S.1 y1 y2) [(-1 : Int32), -3, -4] := qa_no.cite R.sh _ _
  have OK : qa_w (qa_cite S.1 y1 y2).2 (N + 1) := w.cite _ _
  apply qy_use (σ := σ) (b := b) (h := h)
  · intro K k
    unfold qw_L_cite
    rw [qx_rv H]
    refine qe_X11_cite H w hN2 (qy_po (f := qf_cite) ho (fun _ => (qf_b _).2.2.2.1) (fun z h1 q => ?_) k)
    have m := (NO z).2
    rcases List.mem_cons.mp m with e | m
    · rw [e, show qf_cite (-1) = 1 from by decide] at q
      rw [e]
      rw [show qx_nm (-1) = "java/util/NoSuchElementException" from by decide +kernel]
      exact qp_iT rfl q
    rcases List.mem_cons.mp m with e | m
    · rw [e, show qf_cite (-3) = 2 from by decide] at q
      rw [e]
      rw [show qx_nm (-3) = "java/lang/IllegalArgumentException" from by decide +kernel]
      exact qp_iF (by decide +kernel) (qp_iT rfl q)
    rcases List.mem_cons.mp m with e | m
    · rw [e, show qf_cite (-4) = 3 from by decide] at q
      rw [e]
      rw [show qx_nm (-4) = "java/lang/IllegalStateException" from by decide +kernel]
      exact qp_iF (by decide +kernel) (qp_iF (by decide +kernel) (qp_iT rfl q))
    cases m
  intro h1 f1 H1 fr o1 ev
  refine ⟨v1, v2, ?_⟩
  have HM1 := fr.m HM
  rw [qk_rv HM1]
  refine qe_X12_cite HM1 R HP w.1.1 (w.id1 hN2) fun h2 M2 x H2 f2 q0 => ?_
  have q := qk_po.pm A q0 (fun _ => (qf_b _).2.2.2.1)
  refine qc_end ?_ H1 o1 ev (fr.d hd) (I.did OK) hk H2 f2 q
  show (if _ then _ else _) < 100
  split
  · rename_i z
    have := (NO z).2
    revert this
    generalize (qa_cite S.1 y1 y2).1 = y
    revert y
    decide
  · decide
theorem qc_6 (W : qy_at σ h b M S) (I : qi_S S N) (hN : N + 13 < 2 ^ 20) (hi : i + 4 ≤ L9) (hL : L9 ≤ 2048) (hk : qy_c σ b N i k28) : qw_L_law_714 σ L9 xs9 a0 Q X k28 (some b) (some (b + 780)) (some (b + 790)) (some (b + 791)) (nI i) h := by
  obtain ⟨v1, v2, v3⟩ := qc_v hi hL
  obtain ⟨H, ⟨HM, A⟩, ho, hd⟩ := id W
  have w := I.1.1
  have hN2 : N < 2 ^ 20 := by omega
  have R := A.1.1
  have HP := A.1.2.1
  unfold qw_L_law_714
  refine ⟨v1, v2, ?_⟩
  generalize xs9 (nI i + (1 : Int32)).toNatClampNeg = y1
  generalize xs9 (nI i + (2 : Int32)).toNatClampNeg = y2
  have NO : qa_no S.1 (qa_uncite S.1 y1 y2) [(-1 : Int32)] := qa_no.uncite R.sh _ _
  have OK : qa_w (qa_uncite S.1 y1 y2).2 (N + 1) := w.uncite _ _
  apply qy_use (σ := σ) (b := b) (h := h)
  · intro K k
    unfold qw_L_uncite
    rw [qx_rv H]
    refine qe_X11_uncite H w hN2 (qy_po (f := qf_1) ho (fun _ => Nat.one_pos) (fun z h1 q => ?_) k)
    have m := (NO z).2
    rcases List.mem_cons.mp m with e | m
    · rw [e, show qf_1 (-1) = 1 from by decide] at q
      rw [e]
      rw [show qx_nm (-1) = "java/util/NoSuchElementException" from by decide +kernel]
      exact qp_iT rfl q
    cases m
  intro h1 f1 H1 fr o1 ev
  refine ⟨v1, v2, ?_⟩
  have HM1 := fr.m HM
  rw [qk_rv HM1]
  refine qe_X12_uncite HM1 R HP w.1.1 fun h2 M2 x H2 f2 q0 => ?_
  have q := qk_po.pm A q0 (fun _ => Nat.one_pos)
  refine qc_end ?_ H1 o1 ev (fr.d hd) (I.did OK) hk H2 f2 q
  show (if _ then _ else _) < 100
  split
  · rename_i z
    have := (NO z).2
    revert this
    generalize (qa_uncite S.1 y1 y2).1 = y
    revert y
    decide
  · decide
theorem qc_7 (W : qy_at σ h b M S) (I : qi_S S N) (hN : N + 13 < 2 ^ 20) (hi : i + 4 ≤ L9) (hL : L9 ≤ 2048) (hk : qy_c σ b N i k28) : qw_L_law_782 σ L9 xs9 a0 Q X k28 (some b) (some (b + 780)) (some (b + 790)) (some (b + 791)) (nI i) h := by
  obtain ⟨v1, v2, v3⟩ := qc_v hi hL
  obtain ⟨H, ⟨HM, A⟩, ho, hd⟩ := id W
  have w := I.1.1
  have hN2 : N < 2 ^ 20 := by omega
  have R := A.1.1
  have HP := A.1.2.1
  unfold qw_L_law_782
  refine ⟨v1, ?_⟩
  generalize xs9 (nI i + (1 : Int32)).toNatClampNeg = y1
  have NO : qa_no S.1 (qa_repeal S.1 y1) [(-1 : Int32)] := qa_no.repeal R.1.1 _
  have OK : qa_w (qa_repeal S.1 y1).2 (N + 1) := w.repeal _
  apply qy_use (σ := σ) (b := b) (h := h)
  · intro K k
    unfold qw_L_repeal
    rw [qx_rv H]
    refine qe_X11_repeal H w hN2 (qy_po (f := qf_1) ho (fun _ => Nat.one_pos) (fun z h1 q => ?_) k)
    have m := (NO z).2
    rcases List.mem_cons.mp m with e | m
    · rw [e, show qf_1 (-1) = 1 from by decide] at q
      rw [e]
      rw [show qx_nm (-1) = "java/util/NoSuchElementException" from by decide +kernel]
      exact qp_iT rfl q
    cases m
  intro h1 f1 H1 fr o1 ev
  refine ⟨v1, ?_⟩
  have HM1 := fr.m HM
  rw [qk_rv HM1]
  refine qe_X12_repeal HM1 R HP w.1.1 fun h2 M2 x H2 f2 q0 => ?_
  have q := qk_po.pm A q0 (fun _ => Nat.one_pos)
  refine qc_end ?_ H1 o1 ev (fr.d hd) (I.did OK) hk H2 f2 q
  show (if _ then _ else _) < 100
  split
  · rename_i z
    have := (NO z).2
    revert this
    generalize (qa_repeal S.1 y1).1 = y
    revert y
    decide
  · decide
theorem qc_8 (W : qy_at σ h b M S) (I : qi_S S N) (hN : N + 13 < 2 ^ 20) (hi : i + 4 ≤ L9) (hL : L9 ≤ 2048) (hk : qy_c σ b N i k28) : qw_L_law_838 σ L9 xs9 a0 Q X k28 (some b) (some (b + 780)) (some (b + 790)) (some (b + 791)) (nI i) h := by
  obtain ⟨v1, v2, v3⟩ := qc_v hi hL
  obtain ⟨H, ⟨HM, A⟩, ho, hd⟩ := id W
  have w := I.1.1
  have hN2 : N < 2 ^ 20 := by omega
  have R := A.1.1
  have HP := A.1.2.1
  obtain ⟨e, he, ee⟩ := w.2.2.2
  unfold qw_L_law_838
  rw [qx_rv H]
  have NO := qa_no.cons w hN2
  refine qe_X11_consolidate H w hN2 fun h1 H1 fr => ⟨fun z => absurd (NO z).2 List.not_mem_nil, fun z => ?_⟩
  obtain ⟨f0, o0⟩ := ho
  have o1 := (fr.2 _ (by omega) (by omega)).trans o0
  have HM1 := fr.y.m HM
  rw [qk_rv HM1]
  refine qe_X12_consolidate HM1 R HP (w.sunok hN2) (e := e) (by omega) ee fun h2 M2 x H2 f2 q0 => ?_
  refine qp_iT (q0.2.2.2.2 z).symm ?_
  exact qc_next (r := (0, x, qa_did S (qa_cons S.1))) (x := x) H1 o1 (fr.y.d hd) (I.did (w.cons hN2)) hk H2 f2 (A.po q0)
theorem qc_9 (W : qy_at σ h b M S) (I : qi_S S N) (hN : N + 13 < 2 ^ 20) (hi : i + 4 ≤ L9) (hL : L9 ≤ 2048) (hk : qy_c σ b N i k28) : qw_L_law_851 σ L9 xs9 a0 Q X k28 (some b) (some (b + 780)) (some (b + 790)) (some (b + 791)) (nI i) h := by
  obtain ⟨v1, v2, v3⟩ := qc_v hi hL
  obtain ⟨H, ⟨HM, A⟩, ho, hd⟩ := id W
  have w := I.1.1
  have hN2 : N < 2 ^ 20 := by omega
  have R := A.1.1
  have HP := A.1.2.1
  unfold qw_L_law_851
  refine ⟨v1, ?_⟩
  generalize xs9 (nI i + (1 : Int32)).toNatClampNeg = y1
  have NO : qa_no S.1 (qa_adv S.1 y1) [(-3 : Int32)] := qa_no.adv w hN2 R.1.1 _
  have OK : qa_w (qa_adv S.1 y1).2 (N + 1) := w.adv hN2 _
  apply qy_use (σ := σ) (b := b) (h := h)
  · intro K k
    unfold qw_L_advance
    rw [qx_rv H]
    refine qe_X11_advance H w hN2 (qy_po (f := qf_1) ho (fun _ => Nat.one_pos) (fun z h1 q => ?_) k)
    have m := (NO z).2
    rcases List.mem_cons.mp m with e | m
    · rw [e, show qf_1 (-3) = 1 from by decide] at q
      rw [e]
      rw [show qx_nm (-3) = "java/lang/IllegalArgumentException" from by decide +kernel]
      exact qp_iT rfl q
    cases m
  intro h1 f1 H1 fr o1 ev
  refine ⟨v1, ?_⟩
  have HM1 := fr.m HM
  rw [qk_rv HM1]
  refine qe_X12_advance HM1 R HP (w.sunok hN2) (w.hge hN2) fun h2 M2 x H2 f2 q0 => ?_
  have q := qk_po.pm A q0 (fun _ => Nat.one_pos)
  refine qc_end ?_ H1 o1 ev (fr.d hd) (I.did OK) hk H2 f2 q
  show (if _ then _ else _) < 100
  split
  · rename_i z
    have := (NO z).2
    revert this
    generalize (qa_adv S.1 y1).1 = y
    revert y
    decide
  · decide
theorem qc_10 (W : qy_at σ h b M S) (I : qi_S S N) (hN : N + 13 < 2 ^ 20) (hi : i + 4 ≤ L9) (hL : L9 ≤ 2048) (hk : qy_c σ b N i k28) : qw_L_law_907 σ L9 xs9 a0 Q X k28 (some b) (some (b + 780)) (some (b + 790)) (some (b + 791)) (nI i) h := by
  obtain ⟨v1, v2, v3⟩ := qc_v hi hL
  obtain ⟨H, ⟨HM, A⟩, ho, hd⟩ := id W
  have w := I.1.1
  have hN2 : N < 2 ^ 20 := by omega
  have R := A.1.1
  have HP := A.1.2.1
  unfold qw_L_law_907
  rw [qx_rv H]
  refine qe_X11_day H fun h1 H1 fr => ?_
  obtain ⟨f0, o0⟩ := ho
  have o1 := (fr.2 _ (by omega) (by omega)).trans o0
  have HM1 := fr.y.m HM
  rw [qk_rv HM1]
  unfold qw_X12_day
  refine qk_num HM1 (j := 2) R.1.2.2.2.1 (by decide) rfl fun h2 M2 x H2 f2 q0 => ?_
  refine qp_iT (q0.2.2.2 rfl).symm ?_
  exact qc_next (r := (0, x, S)) (x := x) H1 o1 (fr.y.d hd) (I.mono (by omega)) hk H2 f2 (A.pq q0)
theorem qc_11 (W : qy_at σ h b M S) (I : qi_S S N) (hN : N + 13 < 2 ^ 20) (hi : i + 4 ≤ L9) (hL : L9 ≤ 2048) (hk : qy_c σ b N i k28) : qw_L_law_920 σ L9 xs9 a0 Q X k28 (some b) (some (b + 780)) (some (b + 790)) (some (b + 791)) (nI i) h := by
  obtain ⟨v1, v2, v3⟩ := qc_v hi hL
  obtain ⟨H, ⟨HM, A⟩, ho, hd⟩ := id W
  have w := I.1.1
  have hN2 : N < 2 ^ 20 := by omega
  have R := A.1.1
  have HP := A.1.2.1
  unfold qw_L_law_920
  rw [qx_rv H]
  refine qe_X11_clauseCount H fun h1 H1 fr => ?_
  obtain ⟨f0, o0⟩ := ho
  have o1 := (fr.2 _ (by omega) (by omega)).trans o0
  have HM1 := fr.y.m HM
  rw [qk_rv HM1]
  unfold qw_X12_clauseCount
  refine qk_num HM1 (j := 0) R.1.2.1 (by decide) rfl fun h2 M2 x H2 f2 q0 => ?_
  refine qp_iT (q0.2.2.2 rfl).symm ?_
  exact qc_next (r := (0, x, S)) (x := x) H1 o1 (fr.y.d hd) (I.mono (by omega)) hk H2 f2 (A.pq q0)
theorem qc_12 (W : qy_at σ h b M S) (I : qi_S S N) (hN : N + 13 < 2 ^ 20) (hi : i + 4 ≤ L9) (hL : L9 ≤ 2048) (hk : qy_c σ b N i k28) : qw_L_law_933 σ L9 xs9 a0 Q X k28 (some b) (some (b + 780)) (some (b + 790)) (some (b + 791)) (nI i) h := by
  obtain ⟨v1, v2, v3⟩ := qc_v hi hL
  obtain ⟨H, ⟨HM, A⟩, ho, hd⟩ := id W
  have w := I.1.1
  have hN2 : N < 2 ^ 20 := by omega
  have R := A.1.1
  have HP := A.1.2.1
  unfold qw_L_law_933
  refine ⟨v1, ?_⟩
  apply qy_use (σ := σ) (b := b) (h := h)
  · intro K k
    unfold qw_L_clauseAt
    rw [qx_rv H]
    exact qe_X11_clauseAt H w (qx_pq.pm (qy_pm ho (qy_x1 (qa_ans_le _ _) rfl) k))
  intro h1 f1 H1 fr o1 ev
  refine ⟨v1, ?_⟩
  have HM1 := fr.m HM
  rw [qk_rv HM1]
  refine qe_X12_clauseAt HM1 R fun h2 M2 x H2 f2 q0 => ?_
  have q := qk_pq.pm A q0
  exact qc_end (Nat.lt_of_le_of_lt (qa_ans_le _ _) (by decide)) H1 o1 ev (fr.d hd) (I.mono (by omega)) hk H2 f2 q
theorem qc_13 (W : qy_at σ h b M S) (I : qi_S S N) (hN : N + 13 < 2 ^ 20) (hi : i + 4 ≤ L9) (hL : L9 ≤ 2048) (hk : qy_c σ b N i k28) : qw_L_law_989 σ L9 xs9 a0 Q X k28 (some b) (some (b + 780)) (some (b + 790)) (some (b + 791)) (nI i) h := by
  obtain ⟨v1, v2, v3⟩ := qc_v hi hL
  obtain ⟨H, ⟨HM, A⟩, ho, hd⟩ := id W
  have w := I.1.1
  have hN2 : N < 2 ^ 20 := by omega
  have R := A.1.1
  have HP := A.1.2.1
  unfold qw_L_law_989
  refine ⟨v1, ?_⟩
  apply qy_use (σ := σ) (b := b) (h := h)
  · intro K k
    unfold qw_L_clauseOfSection
    rw [qx_rv H]
    exact qe_X11_clauseOfSection H w (qx_pq.pm (qy_pm ho (qy_x1 (qa_ans_le _ _) rfl) k))
  intro h1 f1 H1 fr o1 ev
  refine ⟨v1, ?_⟩
  have HM1 := fr.m HM
  rw [qk_rv HM1]
  refine qe_X12_clauseOfSection HM1 R fun h2 M2 x H2 f2 q0 => ?_
  have q := qk_pq.pm A q0
  exact qc_end (Nat.lt_of_le_of_lt (qa_ans_le _ _) (by decide)) H1 o1 ev (fr.d hd) (I.mono (by omega)) hk H2 f2 q
theorem qc_14 (W : qy_at σ h b M S) (I : qi_S S N) (hN : N + 13 < 2 ^ 20) (hi : i + 4 ≤ L9) (hL : L9 ≤ 2048) (hk : qy_c σ b N i k28) : qw_L_law_1045 σ L9 xs9 a0 Q X k28 (some b) (some (b + 780)) (some (b + 790)) (some (b + 791)) (nI i) h := by
  obtain ⟨v1, v2, v3⟩ := qc_v hi hL
  obtain ⟨H, ⟨HM, A⟩, ho, hd⟩ := id W
  have w := I.1.1
  have hN2 : N < 2 ^ 20 := by omega
  have R := A.1.1
  have HP := A.1.2.1
  unfold qw_L_law_1045
  refine ⟨v1, ?_⟩
  apply qy_use (σ := σ) (b := b) (h := h)
  · intro K k
    unfold qw_L_section
    rw [qx_rv H]
    exact qe_X11_section H w (qx_pq.pm (qy_pm ho (qy_x1 (qa_ans_le _ _) rfl) k))
  intro h1 f1 H1 fr o1 ev
  refine ⟨v1, ?_⟩
  have HM1 := fr.m HM
  rw [qk_rv HM1]
  refine qe_X12_section HM1 R fun h2 M2 x H2 f2 q0 => ?_
  have q := qk_pq.pm A q0
  exact qc_end (Nat.lt_of_le_of_lt (qa_ans_le _ _) (by decide)) H1 o1 ev (fr.d hd) (I.mono (by omega)) hk H2 f2 q
theorem qc_15 (W : qy_at σ h b M S) (I : qi_S S N) (hN : N + 13 < 2 ^ 20) (hi : i + 4 ≤ L9) (hL : L9 ≤ 2048) (hk : qy_c σ b N i k28) : qw_L_law_1101 σ L9 xs9 a0 Q X k28 (some b) (some (b + 780)) (some (b + 790)) (some (b + 791)) (nI i) h := by
  obtain ⟨v1, v2, v3⟩ := qc_v hi hL
  obtain ⟨H, ⟨HM, A⟩, ho, hd⟩ := id W
  have w := I.1.1
  have hN2 : N < 2 ^ 20 := by omega
  have R := A.1.1
  have HP := A.1.2.1
  unfold qw_L_law_1101
  refine ⟨v1, ?_⟩
  apply qy_use (σ := σ) (b := b) (h := h)
  · intro K k
    unfold qw_L_enactedOn
    rw [qx_rv H]
    exact qe_X11_enactedOn H w (qx_pq.pm (qy_pm ho (qy_x1 (qa_ans_le _ _) rfl) k))
  intro h1 f1 H1 fr o1 ev
  refine ⟨v1, ?_⟩
  have HM1 := fr.m HM
  rw [qk_rv HM1]
  refine qe_X12_enactedOn HM1 R fun h2 M2 x H2 f2 q0 => ?_
  have q := qk_pq.pm A q0
  exact qc_end (Nat.lt_of_le_of_lt (qa_ans_le _ _) (by decide)) H1 o1 ev (fr.d hd) (I.mono (by omega)) hk H2 f2 q
theorem qc_16 (W : qy_at σ h b M S) (I : qi_S S N) (hN : N + 13 < 2 ^ 20) (hi : i + 4 ≤ L9) (hL : L9 ≤ 2048) (hk : qy_c σ b N i k28) : qw_L_law_1157 σ L9 xs9 a0 Q X k28 (some b) (some (b + 780)) (some (b + 790)) (some (b + 791)) (nI i) h := by
  obtain ⟨v1, v2, v3⟩ := qc_v hi hL
  obtain ⟨H, ⟨HM, A⟩, ho, hd⟩ := id W
  have w := I.1.1
  have hN2 : N < 2 ^ 20 := by omega
  have R := A.1.1
  have HP := A.1.2.1
  unfold qw_L_law_1157
  refine ⟨v1, ?_⟩
  apply qy_use (σ := σ) (b := b) (h := h)
  · intro K k
    unfold qw_L_sunset
    rw [qx_rv H]
    exact qe_X11_sunset H w (qx_pq.pm (qy_pm ho (qy_x1 (qa_ans_le _ _) rfl) k))
  intro h1 f1 H1 fr o1 ev
  refine ⟨v1, ?_⟩
  have HM1 := fr.m HM
  rw [qk_rv HM1]
  refine qe_X12_sunset HM1 R (w.sunok hN2) fun h2 M2 x H2 f2 q0 => ?_
  have q := qk_pq.pm A q0
  exact qc_end (Nat.lt_of_le_of_lt (qa_ans_le _ _) (by decide)) H1 o1 ev (fr.d hd) (I.mono (by omega)) hk H2 f2 q
theorem qc_17 (W : qy_at σ h b M S) (I : qi_S S N) (hN : N + 13 < 2 ^ 20) (hi : i + 4 ≤ L9) (hL : L9 ≤ 2048) (hk : qy_c σ b N i k28) : qw_L_law_1213 σ L9 xs9 a0 Q X k28 (some b) (some (b + 780)) (some (b + 790)) (some (b + 791)) (nI i) h := by
  obtain ⟨v1, v2, v3⟩ := qc_v hi hL
  obtain ⟨H, ⟨HM, A⟩, ho, hd⟩ := id W
  have w := I.1.1
  have hN2 : N < 2 ^ 20 := by omega
  have R := A.1.1
  have HP := A.1.2.1
  unfold qw_L_law_1213 qw_L_law_1279
  refine ⟨v1, v2, ?_⟩
  apply qy_use (σ := σ) (b := b) (h := h)
  · intro K k
    unfold qw_L_isInForce
    rw [qx_rv H]
    exact qe_X11_isInForce H w (qx_pq.pm (qy_pmB ho (qy_x1 (qa_ans_le _ _) rfl) (fun _ => qa_ans_b _ _) k))
  intro h1 f1 H1 fr o1 ev
  refine ⟨v1, v2, ?_⟩
  have HM1 := fr.m HM
  rw [qk_rv HM1]
  refine qe_X12_isInForce HM1 R (w.sunok hN2) fun h2 M2 x H2 f2 q0 => ?_
  have q := qk_pq.pm A q0
  exact qc_endB (Nat.lt_of_le_of_lt (qa_ans_le _ _) (by decide)) (fun _ => qa_ans_b _ _) H1 o1 ev (fr.d hd) (I.mono (by omega)) hk H2 f2 q
theorem qc_18 (W : qy_at σ h b M S) (I : qi_S S N) (hN : N + 13 < 2 ^ 20) (hi : i + 4 ≤ L9) (hL : L9 ≤ 2048) (hk : qy_c σ b N i k28) : qw_L_law_1288 σ L9 xs9 a0 Q X k28 (some b) (some (b + 780)) (some (b + 790)) (some (b + 791)) (nI i) h := by
  obtain ⟨v1, v2, v3⟩ := qc_v hi hL
  obtain ⟨H, ⟨HM, A⟩, ho, hd⟩ := id W
  have w := I.1.1
  have hN2 : N < 2 ^ 20 := by omega
  have R := A.1.1
  have HP := A.1.2.1
  unfold qw_L_law_1288 qw_L_law_1342
  refine ⟨v1, ?_⟩
  apply qy_use (σ := σ) (b := b) (h := h)
  · intro K k
    unfold qw_L_hasLapsed
    rw [qx_rv H]
    exact qe_X11_hasLapsed H w (qx_pq.pm (qy_pmB ho (qy_x1 (qa_ans_le _ _) rfl) (fun _ => qa_ans_b _ _) k))
  intro h1 f1 H1 fr o1 ev
  refine ⟨v1, ?_⟩
  have HM1 := fr.m HM
  rw [qk_rv HM1]
  refine qe_X12_hasLapsed HM1 R (w.sunok hN2) fun h2 M2 x H2 f2 q0 => ?_
  have q := qk_pq.pm A q0
  exact qc_endB (Nat.lt_of_le_of_lt (qa_ans_le _ _) (by decide)) (fun _ => qa_ans_b _ _) H1 o1 ev (fr.d hd) (I.mono (by omega)) hk H2 f2 q
theorem qc_19 (W : qy_at σ h b M S) (I : qi_S S N) (hN : N + 13 < 2 ^ 20) (hi : i + 4 ≤ L9) (hL : L9 ≤ 2048) (hk : qy_c σ b N i k28) : qw_L_law_1351 σ L9 xs9 a0 Q X k28 (some b) (some (b + 780)) (some (b + 790)) (some (b + 791)) (nI i) h := by
  obtain ⟨v1, v2, v3⟩ := qc_v hi hL
  obtain ⟨H, ⟨HM, A⟩, ho, hd⟩ := id W
  have w := I.1.1
  have hN2 : N < 2 ^ 20 := by omega
  have R := A.1.1
  have HP := A.1.2.1
  unfold qw_L_law_1351
  refine ⟨v1, ?_⟩
  rw [qx_rv H]
  refine qe_X11_inForceOn H fun h1 H1 fr => ?_
  refine ⟨v1, ?_⟩
  obtain ⟨f0, o0⟩ := ho
  have o1 := (fr.2 _ (by omega) (by omega)).trans o0
  have HM1 := fr.y.m HM
  rw [qk_rv HM1]
  refine qe_X12_inForceOn HM1 R (w.sunok hN2) fun h2 M2 x H2 f2 q0 => ?_
  refine qp_iT (q0.2.2.2 rfl).symm ?_
  exact qc_next (r := (0, x, S)) (x := x) H1 o1 (fr.y.d hd) (I.mono (by omega)) hk H2 f2 (A.pq q0)
theorem qc_20 (W : qy_at σ h b M S) (I : qi_S S N) (hN : N + 13 < 2 ^ 20) (hi : i + 4 ≤ L9) (hL : L9 ≤ 2048) (hk : qy_c σ b N i k28) : qw_L_law_1376 σ L9 xs9 a0 Q X k28 (some b) (some (b + 780)) (some (b + 790)) (some (b + 791)) (nI i) h := by
  obtain ⟨v1, v2, v3⟩ := qc_v hi hL
  obtain ⟨H, ⟨HM, A⟩, ho, hd⟩ := id W
  have w := I.1.1
  have hN2 : N < 2 ^ 20 := by omega
  have R := A.1.1
  have HP := A.1.2.1
  obtain ⟨d, hdd, ed⟩ := w.2.1
  have hu : ∀ A ∈ S.1.1, qa_sun A = -1 ∨ ∃ u, u < 2 ^ 30 ∧ qa_sun A = nI u := fun A hA => by
    rcases (w.1.2.2 A hA).1.2 with z | ⟨u, hu, z⟩
    · exact Or.inl z
    · exact Or.inr ⟨u, by omega, z⟩
  unfold qw_L_law_1376
  refine ⟨v1, ?_⟩
  apply qy_use (σ := σ) (b := b) (h := h)
  · intro K k
    unfold qw_L_daysUntilLapsed
    rw [qx_rv H]
    exact qe_X11_daysUntilLapsed H w (qx_pq.pm (qy_pm ho (qy_x1 (qa_ans_le _ _) rfl) k))
  intro h1 f1 H1 fr o1 ev
  refine ⟨v1, ?_⟩
  have HM1 := fr.m HM
  rw [qk_rv HM1]
  refine qe_X12_daysUntilLapsed HM1 R (w.sunok hN2) ⟨_, Nat.lt_of_le_of_lt hdd (by omega), ed⟩ hu fun h2 M2 x H2 f2 q0 => ?_
  have q := qk_pq.pm A q0
  exact qc_end (Nat.lt_of_le_of_lt (qa_ans_le _ _) (by decide)) H1 o1 ev (fr.d hd) (I.mono (by omega)) hk H2 f2 q
theorem qc_21 (W : qy_at σ h b M S) (I : qi_S S N) (hN : N + 13 < 2 ^ 20) (hi : i + 4 ≤ L9) (hL : L9 ≤ 2048) (hk : qy_c σ b N i k28) : qw_L_law_1432 σ L9 xs9 a0 Q X k28 (some b) (some (b + 780)) (some (b + 790)) (some (b + 791)) (nI i) h := by
  obtain ⟨v1, v2, v3⟩ := qc_v hi hL
  obtain ⟨H, ⟨HM, A⟩, ho, hd⟩ := id W
  have w := I.1.1
  have hN2 : N < 2 ^ 20 := by omega
  have R := A.1.1
  have HP := A.1.2.1
  unfold qw_L_law_1432
  refine ⟨v1, ?_⟩
  apply qy_use (σ := σ) (b := b) (h := h)
  · intro K k
    unfold qw_L_length
    rw [qx_rv H]
    exact qe_X11_length H w (qx_pq.pm (qy_pm ho (qy_x1 (qa_ans_le _ _) rfl) k))
  intro h1 f1 H1 fr o1 ev
  refine ⟨v1, ?_⟩
  have HM1 := fr.m HM
  rw [qk_rv HM1]
  refine qe_X12_length HM1 R fun h2 M2 x H2 f2 q0 => ?_
  have q := qk_pq.pm A q0
  exact qc_end (Nat.lt_of_le_of_lt (qa_ans_le _ _) (by decide)) H1 o1 ev (fr.d hd) (I.mono (by omega)) hk H2 f2 q
theorem qc_22 (W : qy_at σ h b M S) (I : qi_S S N) (hN : N + 13 < 2 ^ 20) (hi : i + 4 ≤ L9) (hL : L9 ≤ 2048) (hk : qy_c σ b N i k28) : qw_L_law_1488 σ L9 xs9 a0 Q X k28 (some b) (some (b + 780)) (some (b + 790)) (some (b + 791)) (nI i) h := by
  obtain ⟨v1, v2, v3⟩ := qc_v hi hL
  obtain ⟨H, ⟨HM, A⟩, ho, hd⟩ := id W
  have w := I.1.1
  have hN2 : N < 2 ^ 20 := by omega
  have R := A.1.1
  have HP := A.1.2.1
  unfold qw_L_law_1488
  refine ⟨v1, v2, ?_⟩
  apply qy_use (σ := σ) (b := b) (h := h)
  · intro K k
    unfold qw_L_noteAt
    rw [qx_rv H]
    exact qe_X11_noteAt H w (qx_pq.pm (qy_pm ho (qy_x2 (qq_noteAt_le _ _ _) rfl rfl (by decide +kernel)) k))
  intro h1 f1 H1 fr o1 ev
  refine ⟨v1, v2, ?_⟩
  have HM1 := fr.m HM
  rw [qk_rv HM1]
  refine qe_X12_noteAt HM1 R fun h2 M2 x H2 f2 q0 => ?_
  have q := qk_pq.pm A q0
  exact qc_end (Nat.lt_of_le_of_lt (qq_noteAt_le _ _ _) (by decide)) H1 o1 ev (fr.d hd) (I.mono (by omega)) hk H2 f2 q
theorem qc_23 (W : qy_at σ h b M S) (I : qi_S S N) (hN : N + 13 < 2 ^ 20) (hi : i + 4 ≤ L9) (hL : L9 ≤ 2048) (hk : qy_c σ b N i k28) : qw_L_law_1556 σ L9 xs9 a0 Q X k28 (some b) (some (b + 780)) (some (b + 790)) (some (b + 791)) (nI i) h := by
  obtain ⟨v1, v2, v3⟩ := qc_v hi hL
  obtain ⟨H, ⟨HM, A⟩, ho, hd⟩ := id W
  have w := I.1.1
  have hN2 : N < 2 ^ 20 := by omega
  have R := A.1.1
  have HP := A.1.2.1
  unfold qw_L_law_1556
  refine ⟨v1, ?_⟩
  apply qy_use (σ := σ) (b := b) (h := h)
  · intro K k
    unfold qw_L_versionCount
    rw [qx_rv H]
    exact qe_X11_versionCount H w (qx_pq.pm (qy_pm ho (qy_x1 (qa_ans_le _ _) rfl) k))
  intro h1 f1 H1 fr o1 ev
  refine ⟨v1, ?_⟩
  have HM1 := fr.m HM
  rw [qk_rv HM1]
  refine qe_X12_versionCount HM1 R fun h2 M2 x H2 f2 q0 => ?_
  have q := qk_pq.pm A q0
  exact qc_end (Nat.lt_of_le_of_lt (qa_ans_le _ _) (by decide)) H1 o1 ev (fr.d hd) (I.mono (by omega)) hk H2 f2 q
theorem qc_24 (W : qy_at σ h b M S) (I : qi_S S N) (hN : N + 13 < 2 ^ 20) (hi : i + 4 ≤ L9) (hL : L9 ≤ 2048) (hk : qy_c σ b N i k28) : qw_L_law_1612 σ L9 xs9 a0 Q X k28 (some b) (some (b + 780)) (some (b + 790)) (some (b + 791)) (nI i) h := by
  obtain ⟨v1, v2, v3⟩ := qc_v hi hL
  obtain ⟨H, ⟨HM, A⟩, ho, hd⟩ := id W
  have w := I.1.1
  have hN2 : N < 2 ^ 20 := by omega
  have R := A.1.1
  have HP := A.1.2.1
  unfold qw_L_law_1612
  refine ⟨v1, v2, ?_⟩
  apply qy_use (σ := σ) (b := b) (h := h)
  · intro K k
    unfold qw_L_lengthOn
    rw [qx_rv H]
    exact qe_X11_lengthOn H w (qx_pq.pm (qy_pm ho (qy_x1 (qa_ans_le _ _) rfl) k))
  intro h1 f1 H1 fr o1 ev
  refine ⟨v1, v2, ?_⟩
  have HM1 := fr.m HM
  rw [qk_rv HM1]
  refine qe_X12_lengthOn HM1 R fun h2 M2 x H2 f2 q0 => ?_
  have q := qk_pq.pm A q0
  exact qc_end (Nat.lt_of_le_of_lt (qa_ans_le _ _) (by decide)) H1 o1 ev (fr.d hd) (I.mono (by omega)) hk H2 f2 q
theorem qc_25 (W : qy_at σ h b M S) (I : qi_S S N) (hN : N + 13 < 2 ^ 20) (hi : i + 4 ≤ L9) (hL : L9 ≤ 2048) (hk : qy_c σ b N i k28) : qw_L_law_1680 σ L9 xs9 a0 Q X k28 (some b) (some (b + 780)) (some (b + 790)) (some (b + 791)) (nI i) h := by
  obtain ⟨v1, v2, v3⟩ := qc_v hi hL
  obtain ⟨H, ⟨HM, A⟩, ho, hd⟩ := id W
  have w := I.1.1
  have hN2 : N < 2 ^ 20 := by omega
  have R := A.1.1
  have HP := A.1.2.1
  unfold qw_L_law_1680
  refine ⟨v1, v2, v3, ?_⟩
  apply qy_use (σ := σ) (b := b) (h := h)
  · intro K k
    unfold qw_L_noteOn
    rw [qx_rv H]
    exact qe_X11_noteOn H w (qx_pq.pm (qy_pm ho (qy_x2 (qq_noteOn_le _ _ _ _) rfl rfl (by decide +kernel)) k))
  intro h1 f1 H1 fr o1 ev
  refine ⟨v1, v2, v3, ?_⟩
  have HM1 := fr.m HM
  rw [qk_rv HM1]
  refine qe_X12_noteOn HM1 R fun h2 M2 x H2 f2 q0 => ?_
  have q := qk_pq.pm A q0
  exact qc_end (Nat.lt_of_le_of_lt (qq_noteOn_le _ _ _ _) (by decide)) H1 o1 ev (fr.d hd) (I.mono (by omega)) hk H2 f2 q
theorem qc_26 (W : qy_at σ h b M S) (I : qi_S S N) (hN : N + 13 < 2 ^ 20) (hi : i + 4 ≤ L9) (hL : L9 ≤ 2048) (hk : qy_c σ b N i k28) : qw_L_law_1760 σ L9 xs9 a0 Q X k28 (some b) (some (b + 780)) (some (b + 790)) (some (b + 791)) (nI i) h := by
  obtain ⟨v1, v2, v3⟩ := qc_v hi hL
  obtain ⟨H, ⟨HM, A⟩, ho, hd⟩ := id W
  have w := I.1.1
  have hN2 : N < 2 ^ 20 := by omega
  have R := A.1.1
  have HP := A.1.2.1
  unfold qw_L_law_1760
  refine ⟨v1, v2, v3, ?_⟩
  apply qy_use (σ := σ) (b := b) (h := h)
  · intro K k
    unfold qw_L_difference
    rw [qx_rv H]
    exact qe_X11_difference H w (qx_pq.pm (qy_pm ho (qy_x1 (qq_diff_le _ _ _ _) rfl) k))
  intro h1 f1 H1 fr o1 ev
  refine ⟨v1, v2, v3, ?_⟩
  have HM1 := fr.m HM
  rw [qk_rv HM1]
  unfold qw_X12_difference
  rw [qk_rv HM1]
  refine qe_X12_apart HM1 R fun h2 M2 x H2 f2 q0 => ?_
  have q := qk_pq.pm A q0
  exact qc_end (Nat.lt_of_le_of_lt (qq_diff_le _ _ _ _) (by decide)) H1 o1 ev (fr.d hd) (I.mono (by omega)) hk H2 f2 q
theorem qc_27 (W : qy_at σ h b M S) (I : qi_S S N) (hN : N + 13 < 2 ^ 20) (hi : i + 4 ≤ L9) (hL : L9 ≤ 2048) (hk : qy_c σ b N i k28) : qw_L_law_1840 σ L9 xs9 a0 Q X k28 (some b) (some (b + 780)) (some (b + 790)) (some (b + 791)) (nI i) h := by
  obtain ⟨v1, v2, v3⟩ := qc_v hi hL
  obtain ⟨H, ⟨HM, A⟩, ho, hd⟩ := id W
  have w := I.1.1
  have hN2 : N < 2 ^ 20 := by omega
  have R := A.1.1
  have HP := A.1.2.1
  unfold qw_L_law_1840
  refine ⟨v1, v2, v3, ?_⟩
  apply qy_use (σ := σ) (b := b) (h := h)
  · intro K k
    unfold qw_L_differenceByEnds
    rw [qx_rv H]
    exact qe_X11_differenceByEnds H w (qx_pq.pm (qy_pm ho (qy_x1 (qq_diff_le _ _ _ _) rfl) k))
  intro h1 f1 H1 fr o1 ev
  refine ⟨v1, v2, v3, ?_⟩
  have HM1 := fr.m HM
  rw [qk_rv HM1]
  unfold qw_X12_differenceByEnds
  rw [qk_rv HM1]
  refine qe_X12_apart HM1 R fun h2 M2 x H2 f2 q0 => ?_
  have q := qk_pq.pm A q0
  exact qc_end (Nat.lt_of_le_of_lt (qq_diff_le _ _ _ _) (by decide)) H1 o1 ev (fr.d hd) (I.mono (by omega)) hk H2 f2 q
theorem qc_28 (W : qy_at σ h b M S) (I : qi_S S N) (hN : N + 13 < 2 ^ 20) (hi : i + 4 ≤ L9) (hL : L9 ≤ 2048) (hk : qy_c σ b N i k28) : qw_L_law_1920 σ L9 xs9 a0 Q X k28 (some b) (some (b + 780)) (some (b + 790)) (some (b + 791)) (nI i) h := by
  obtain ⟨v1, v2, v3⟩ := qc_v hi hL
  obtain ⟨H, ⟨HM, A⟩, ho, hd⟩ := id W
  have w := I.1.1
  have hN2 : N < 2 ^ 20 := by omega
  have R := A.1.1
  have HP := A.1.2.1
  unfold qw_L_law_1920
  rw [qx_rv H]
  refine qe_X11_duplicatePairs H fun h1 H1 fr => ?_
  obtain ⟨f0, o0⟩ := ho
  have o1 := (fr.2 _ (by omega) (by omega)).trans o0
  have HM1 := fr.y.m HM
  rw [qk_rv HM1]
  unfold qw_X12_duplicatePairs
  rw [qk_rv HM1]
  refine qe_X12_pairs HM1 R fun h2 M2 x H2 f2 q0 => ?_
  refine qp_iT (q0.2.2.2 rfl).symm ?_
  exact qc_next (r := (0, x, S)) (x := x) H1 o1 (fr.y.d hd) (I.mono (by omega)) hk H2 f2 (A.pq q0)
theorem qc_29 (W : qy_at σ h b M S) (I : qi_S S N) (hN : N + 13 < 2 ^ 20) (hi : i + 4 ≤ L9) (hL : L9 ≤ 2048) (hk : qy_c σ b N i k28) : qw_L_law_1933 σ L9 xs9 a0 Q X k28 (some b) (some (b + 780)) (some (b + 790)) (some (b + 791)) (nI i) h := by
  obtain ⟨v1, v2, v3⟩ := qc_v hi hL
  obtain ⟨H, ⟨HM, A⟩, ho, hd⟩ := id W
  have w := I.1.1
  have hN2 : N < 2 ^ 20 := by omega
  have R := A.1.1
  have HP := A.1.2.1
  unfold qw_L_law_1933
  rw [qx_rv H]
  refine qe_X11_duplicatePairsByComparing H w ?_
  have fr : qx_fr b h h := qx_fr.rf
  obtain ⟨f0, o0⟩ := ho
  have o1 := (fr.2 _ (by omega) (by omega)).trans o0
  have HM1 := fr.y.m HM
  rw [qk_rv HM1]
  unfold qw_X12_duplicatePairsByComparing
  rw [qk_rv HM1]
  refine qe_X12_pairs HM1 R fun h2 M2 x H2 f2 q0 => ?_
  refine qp_iT (q0.2.2.2 rfl).symm ?_
  exact qc_next (r := (0, x, S)) (x := x) H o1 (fr.y.d hd) (I.mono (by omega)) hk H2 f2 (A.pq q0)
theorem qc_30 (W : qy_at σ h b M S) (I : qi_S S N) (hN : N + 13 < 2 ^ 20) (hi : i + 4 ≤ L9) (hL : L9 ≤ 2048) (hk : qy_c σ b N i k28) : qw_L_law_1946 σ L9 xs9 a0 Q X k28 (some b) (some (b + 780)) (some (b + 790)) (some (b + 791)) (nI i) h := by
  obtain ⟨v1, v2, v3⟩ := qc_v hi hL
  obtain ⟨H, ⟨HM, A⟩, ho, hd⟩ := id W
  have w := I.1.1
  have hN2 : N < 2 ^ 20 := by omega
  have R := A.1.1
  have HP := A.1.2.1
  unfold qw_L_law_1946
  refine ⟨v1, ?_⟩
  apply qy_use (σ := σ) (b := b) (h := h)
  · intro K k
    unfold qw_L_citeCount
    rw [qx_rv H]
    exact qe_X11_citeCount H w (qx_pq.pm (qy_pm ho (qy_x1 (qa_ans_le _ _) rfl) k))
  intro h1 f1 H1 fr o1 ev
  refine ⟨v1, ?_⟩
  have HM1 := fr.m HM
  rw [qk_rv HM1]
  refine qe_X12_citeCount HM1 R fun h2 M2 x H2 f2 q0 => ?_
  have q := qk_pq.pm A q0
  exact qc_end (Nat.lt_of_le_of_lt (qa_ans_le _ _) (by decide)) H1 o1 ev (fr.d hd) (I.mono (by omega)) hk H2 f2 q
theorem qc_31 (W : qy_at σ h b M S) (I : qi_S S N) (hN : N + 13 < 2 ^ 20) (hi : i + 4 ≤ L9) (hL : L9 ≤ 2048) (hk : qy_c σ b N i k28) : qw_L_law_2002 σ L9 xs9 a0 Q X k28 (some b) (some (b + 780)) (some (b + 790)) (some (b + 791)) (nI i) h := by
  obtain ⟨v1, v2, v3⟩ := qc_v hi hL
  obtain ⟨H, ⟨HM, A⟩, ho, hd⟩ := id W
  have w := I.1.1
  have hN2 : N < 2 ^ 20 := by omega
  have R := A.1.1
  have HP := A.1.2.1
  unfold qw_L_law_2002
  refine ⟨v1, v2, ?_⟩
  apply qy_use (σ := σ) (b := b) (h := h)
  · intro K k
    unfold qw_L_citeAt
    rw [qx_rv H]
    exact qe_X11_citeAt H w (qx_pq.pm (qy_pm ho (qy_x2 (qq_citeAt_le _ _ _) rfl rfl (by decide +kernel)) k))
  intro h1 f1 H1 fr o1 ev
  refine ⟨v1, v2, ?_⟩
  have HM1 := fr.m HM
  rw [qk_rv HM1]
  refine qe_X12_citeAt HM1 R fun h2 M2 x H2 f2 q0 => ?_
  have q := qk_pq.pm A q0
  exact qc_end (Nat.lt_of_le_of_lt (qq_citeAt_le _ _ _) (by decide)) H1 o1 ev (fr.d hd) (I.mono (by omega)) hk H2 f2 q
theorem qc_32 (W : qy_at σ h b M S) (I : qi_S S N) (hN : N + 13 < 2 ^ 20) (hi : i + 4 ≤ L9) (hL : L9 ≤ 2048) (hk : qy_c σ b N i k28) : qw_L_law_2070 σ L9 xs9 a0 Q X k28 (some b) (some (b + 780)) (some (b + 790)) (some (b + 791)) (nI i) h := by
  obtain ⟨v1, v2, v3⟩ := qc_v hi hL
  obtain ⟨H, ⟨HM, A⟩, ho, hd⟩ := id W
  have w := I.1.1
  have hN2 : N < 2 ^ 20 := by omega
  have R := A.1.1
  have HP := A.1.2.1
  unfold qw_L_law_2070
  rw [qx_rv H]
  refine qe_X11_brokenCites H w fun h1 H1 fr => ?_
  obtain ⟨f0, o0⟩ := ho
  have o1 := (fr.2 _ (by omega) (by omega)).trans o0
  have HM1 := fr.y.m HM
  rw [qk_rv HM1]
  refine qe_X12_brokenCites HM1 R (w.sunok hN2) fun h2 M2 x H2 f2 q0 => ?_
  refine qp_iT (q0.2.2.2 rfl).symm ?_
  exact qc_next (r := (0, x, S)) (x := x) H1 o1 (fr.y.d hd) (I.mono (by omega)) hk H2 f2 (A.pq q0)
theorem qc_33 (W : qy_at σ h b M S) (I : qi_S S N) (hN : N + 13 < 2 ^ 20) (hi : i + 4 ≤ L9) (hL : L9 ≤ 2048) (hk : qy_c σ b N i k28) : qw_L_law_2083 σ L9 xs9 a0 Q X k28 (some b) (some (b + 780)) (some (b + 790)) (some (b + 791)) (nI i) h := by
  obtain ⟨v1, v2, v3⟩ := qc_v hi hL
  obtain ⟨H, ⟨HM, A⟩, ho, hd⟩ := id W
  have w := I.1.1
  have hN2 : N < 2 ^ 20 := by omega
  have R := A.1.1
  have HP := A.1.2.1
  unfold qw_L_law_2083 qw_L_law_2149
  refine ⟨v1, v2, ?_⟩
  apply qy_use (σ := σ) (b := b) (h := h)
  · intro K k
    unfold qw_L_citesIndirectly
    rw [qx_rv H]
    exact qe_X11_citesIndirectly H w (qx_pq.pm (qy_pmB ho (qy_x1 (qq_reach_le _ _ _) rfl) (fun _ => qq_reach_b _ _ _) k))
  intro h1 f1 H1 fr o1 ev
  refine ⟨v1, v2, ?_⟩
  have HM1 := fr.m HM
  rw [qk_rv HM1]
  unfold qw_X12_citesIndirectly
  rw [qk_rv HM1]
  refine qe_X12_isReachedB HM1 R w.1.1 fun h2 M2 p H2 f2 q0 => ?_
  have q := qk_pq.pm A q0
  refine ⟨qp_bz p, ?_⟩
  exact qc_endB (Nat.lt_of_le_of_lt (qq_reach_le _ _ _) (by decide)) (fun _ => qq_reach_b _ _ _) H1 o1 ev (fr.d hd) (I.mono (by omega)) hk H2 f2 q
theorem qc_34 (W : qy_at σ h b M S) (I : qi_S S N) (hN : N + 13 < 2 ^ 20) (hi : i + 4 ≤ L9) (hL : L9 ≤ 2048) (hk : qy_c σ b N i k28) : qw_L_law_2158 σ L9 xs9 a0 Q X k28 (some b) (some (b + 780)) (some (b + 790)) (some (b + 791)) (nI i) h := by
  obtain ⟨v1, v2, v3⟩ := qc_v hi hL
  obtain ⟨H, ⟨HM, A⟩, ho, hd⟩ := id W
  have w := I.1.1
  have hN2 : N < 2 ^ 20 := by omega
  have R := A.1.1
  have HP := A.1.2.1
  unfold qw_L_law_2158 qw_L_law_2224
  refine ⟨v1, v2, ?_⟩
  apply qy_use (σ := σ) (b := b) (h := h)
  · intro K k
    unfold qw_L_citesByClosure
    rw [qx_rv H]
    exact qe_X11_citesByClosure H w (qx_pq.pm (qy_pmB ho (qy_x1 (qq_reach_le _ _ _) rfl) (fun _ => qq_reach_b _ _ _) k))
  intro h1 f1 H1 fr o1 ev
  refine ⟨v1, v2, ?_⟩
  have HM1 := fr.m HM
  rw [qk_rv HM1]
  unfold qw_X12_citesByClosure
  rw [qk_rv HM1]
  refine qe_X12_isReachedB HM1 R w.1.1 fun h2 M2 p H2 f2 q0 => ?_
  have q := qk_pq.pm A q0
  refine ⟨qp_bz p, ?_⟩
  exact qc_endB (Nat.lt_of_le_of_lt (qq_reach_le _ _ _) (by decide)) (fun _ => qq_reach_b _ _ _) H1 o1 ev (fr.d hd) (I.mono (by omega)) hk H2 f2 q
theorem qc_35 (W : qy_at σ h b M S) (I : qi_S S N) (hN : N + 13 < 2 ^ 20) (hi : i + 4 ≤ L9) (hL : L9 ≤ 2048) (hk : qy_c σ b N i k28) : qw_L_law_2233 σ L9 xs9 a0 Q X k28 (some b) (some (b + 780)) (some (b + 790)) (some (b + 791)) (nI i) h := by
  obtain ⟨v1, v2, v3⟩ := qc_v hi hL
  obtain ⟨H, ⟨HM, A⟩, ho, hd⟩ := id W
  have w := I.1.1
  have hN2 : N < 2 ^ 20 := by omega
  have R := A.1.1
  have HP := A.1.2.1
  unfold qw_L_law_2233
  refine ⟨v1, ?_⟩
  apply qy_use (σ := σ) (b := b) (h := h)
  · intro K k
    unfold qw_L_clauseByCites
    rw [qx_rv H]
    exact qe_X11_clauseByCites H w (qx_pq.pm (qy_pm ho (qy_x1 (qa_ans_le _ _) rfl) k))
  intro h1 f1 H1 fr o1 ev
  refine ⟨v1, ?_⟩
  have HM1 := fr.m HM
  rw [qk_rv HM1]
  refine qe_X12_clauseByCites HM1 R fun h2 M2 x H2 f2 q0 => ?_
  have q := qk_pq.pm A q0
  exact qc_end (Nat.lt_of_le_of_lt (qa_ans_le _ _) (by decide)) H1 o1 ev (fr.d hd) (I.mono (by omega)) hk H2 f2 q
theorem qc_36 (W : qy_at σ h b M S) (I : qi_S S N) (hN : N + 13 < 2 ^ 20) (hi : i + 4 ≤ L9) (hL : L9 ≤ 2048) (hk : qy_c σ b N i k28) : qw_L_law_2289 σ L9 xs9 a0 Q X k28 (some b) (some (b + 780)) (some (b + 790)) (some (b + 791)) (nI i) h := by
  obtain ⟨v1, v2, v3⟩ := qc_v hi hL
  obtain ⟨H, ⟨HM, A⟩, ho, hd⟩ := id W
  have w := I.1.1
  have hN2 : N < 2 ^ 20 := by omega
  have R := A.1.1
  have HP := A.1.2.1
  unfold qw_L_law_2289
  rw [qx_rv H]
  refine qe_X11_addedTotal H fun h1 H1 fr => ?_
  obtain ⟨f0, o0⟩ := ho
  have o1 := (fr.2 _ (by omega) (by omega)).trans o0
  have HM1 := fr.y.m HM
  rw [qk_rv HM1]
  unfold qw_X12_addedTotal
  refine qk_num HM1 (j := 1) R.1.2.2.1 (by decide) rfl fun h2 M2 x H2 f2 q0 => ?_
  refine qp_iT (q0.2.2.2 rfl).symm ?_
  exact qc_next (r := (0, x, S)) (x := x) H1 o1 (fr.y.d hd) (I.mono (by omega)) hk H2 f2 (A.pq q0)
theorem qc_37 (W : qy_at σ h b M S) (I : qi_S S N) (hN : N + 13 < 2 ^ 20) (hi : i + 4 ≤ L9) (hL : L9 ≤ 2048) (hk : qy_c σ b N i k28) : qw_L_law_2302 σ L9 xs9 a0 Q X k28 (some b) (some (b + 780)) (some (b + 790)) (some (b + 791)) (nI i) h := by
  obtain ⟨v1, v2, v3⟩ := qc_v hi hL
  obtain ⟨H, ⟨HM, A⟩, ho, hd⟩ := id W
  have w := I.1.1
  have hN2 : N < 2 ^ 20 := by omega
  have R := A.1.1
  have HP := A.1.2.1
  unfold qw_L_law_2302
  rw [qx_rv H]
  refine qe_X11_amendmentTotal H fun h1 H1 fr => ?_
  obtain ⟨f0, o0⟩ := ho
  have o1 := (fr.2 _ (by omega) (by omega)).trans o0
  have HM1 := fr.y.m HM
  rw [qk_rv HM1]
  unfold qw_X12_amendmentTotal
  refine qk_num HM1 (j := 3) R.1.2.2.2.2.1 (by decide) rfl fun h2 M2 x H2 f2 q0 => ?_
  refine qp_iT (q0.2.2.2 rfl).symm ?_
  exact qc_next (r := (0, x, S)) (x := x) H1 o1 (fr.y.d hd) (I.mono (by omega)) hk H2 f2 (A.pq q0)
theorem qc_38 (W : qy_at σ h b M S) (I : qi_S S N) (hN : N + 13 < 2 ^ 20) (hi : i + 4 ≤ L9) (hL : L9 ≤ 2048) (hk : qy_c σ b N i k28) : qw_L_law_2315 σ L9 xs9 a0 Q X k28 (some b) (some (b + 780)) (some (b + 790)) (some (b + 791)) (nI i) h := by
  obtain ⟨v1, v2, v3⟩ := qc_v hi hL
  obtain ⟨H, ⟨HM, A⟩, ho, hd⟩ := id W
  have w := I.1.1
  have hN2 : N < 2 ^ 20 := by omega
  have R := A.1.1
  have HP := A.1.2.1
  unfold qw_L_law_2315
  rw [qx_rv H]
  refine qe_X11_repealedTotal H fun h1 H1 fr => ?_
  obtain ⟨f0, o0⟩ := ho
  have o1 := (fr.2 _ (by omega) (by omega)).trans o0
  have HM1 := fr.y.m HM
  rw [qk_rv HM1]
  unfold qw_X12_repealedTotal
  refine qk_num HM1 (j := 4) R.1.2.2.2.2.2.1 (by decide) rfl fun h2 M2 x H2 f2 q0 => ?_
  refine qp_iT (q0.2.2.2 rfl).symm ?_
  exact qc_next (r := (0, x, S)) (x := x) H1 o1 (fr.y.d hd) (I.mono (by omega)) hk H2 f2 (A.pq q0)
theorem qc_39 (W : qy_at σ h b M S) (I : qi_S S N) (hN : N + 13 < 2 ^ 20) (hi : i + 4 ≤ L9) (hL : L9 ≤ 2048) (hk : qy_c σ b N i k28) : qw_L_law_2328 σ L9 xs9 a0 Q X k28 (some b) (some (b + 780)) (some (b + 790)) (some (b + 791)) (nI i) h := by
  obtain ⟨v1, v2, v3⟩ := qc_v hi hL
  obtain ⟨H, ⟨HM, A⟩, ho, hd⟩ := id W
  have w := I.1.1
  have hN2 : N < 2 ^ 20 := by omega
  have R := A.1.1
  have HP := A.1.2.1
  unfold qw_L_law_2328
  rw [qx_rv H]
  refine qe_X11_consolidatedTotal H fun h1 H1 fr => ?_
  obtain ⟨f0, o0⟩ := ho
  have o1 := (fr.2 _ (by omega) (by omega)).trans o0
  have HM1 := fr.y.m HM
  rw [qk_rv HM1]
  unfold qw_X12_consolidatedTotal
  refine qk_num HM1 (j := 5) R.1.2.2.2.2.2.2.1 (by decide) rfl fun h2 M2 x H2 f2 q0 => ?_
  refine qp_iT (q0.2.2.2 rfl).symm ?_
  exact qc_next (r := (0, x, S)) (x := x) H1 o1 (fr.y.d hd) (I.mono (by omega)) hk H2 f2 (A.pq q0)
theorem qc_40 (W : qy_at σ h b M S) (I : qi_S S N) (hN : N + 13 < 2 ^ 20) (hi : i + 4 ≤ L9) (hL : L9 ≤ 2048) (hk : qy_c σ b N i k28) : qw_L_law_2341 σ L9 xs9 a0 Q X k28 (some b) (some (b + 780)) (some (b + 790)) (some (b + 791)) (nI i) h := by
  obtain ⟨v1, v2, v3⟩ := qc_v hi hL
  obtain ⟨H, ⟨HM, A⟩, ho, hd⟩ := id W
  have w := I.1.1
  have hN2 : N < 2 ^ 20 := by omega
  have R := A.1.1
  have HP := A.1.2.1
  unfold qw_L_law_2341
  rw [qx_rv H]
  refine qe_X11_editionCount H fun h1 H1 fr => ?_
  obtain ⟨f0, o0⟩ := ho
  have o1 := (fr.2 _ (by omega) (by omega)).trans o0
  have HM1 := fr.y.m HM
  rw [qk_rv HM1]
  unfold qw_X12_editionCount
  refine qk_num HM1 (j := 6) R.1.2.2.2.2.2.2.2 (by decide) rfl fun h2 M2 x H2 f2 q0 => ?_
  refine qp_iT (q0.2.2.2 rfl).symm ?_
  exact qc_next (r := (0, x, S)) (x := x) H1 o1 (fr.y.d hd) (I.mono (by omega)) hk H2 f2 (A.pq q0)
theorem qc_41 (W : qy_at σ h b M S) (I : qi_S S N) (hN : N + 13 < 2 ^ 20) (hi : i + 4 ≤ L9) (hL : L9 ≤ 2048) (hk : qy_c σ b N i k28) : qw_L_law_2354 σ L9 xs9 a0 Q X k28 (some b) (some (b + 780)) (some (b + 790)) (some (b + 791)) (nI i) h := by
  obtain ⟨v1, v2, v3⟩ := qc_v hi hL
  obtain ⟨H, ⟨HM, A⟩, ho, hd⟩ := id W
  have w := I.1.1
  have hN2 : N < 2 ^ 20 := by omega
  have R := A.1.1
  have HP := A.1.2.1
  obtain ⟨e, he, ee⟩ := w.2.2.2
  unfold qw_L_law_2354
  refine ⟨v1, ?_⟩
  apply qy_use (σ := σ) (b := b) (h := h)
  · intro K k
    unfold qw_L_editionDay
    rw [qx_rv H]
    exact qe_X11_editionDay H w hN2 (qx_pq.pm (qy_pm ho (qy_x1 (qq_edition_le _ _) rfl) k))
  intro h1 f1 H1 fr o1 ev
  refine ⟨v1, ?_⟩
  have HM1 := fr.m HM
  rw [qk_rv HM1]
  refine qe_X12_editionDay HM1 R (e := e) (by omega) ee fun h2 M2 x H2 f2 q0 => ?_
  have q := qk_pq.pm A q0
  exact qc_end (Nat.lt_of_le_of_lt (qq_edition_le _ _) (by decide)) H1 o1 ev (fr.d hd) (I.mono (by omega)) hk H2 f2 q
theorem qc_42 (W : qy_at σ h b M S) (I : qi_S S N) (hN : N + 13 < 2 ^ 20) (hi : i + 4 ≤ L9) (hL : L9 ≤ 2048) (hk : qy_c σ b N i k28) : qw_L_law_2410 σ L9 xs9 a0 Q X k28 (some b) (some (b + 780)) (some (b + 790)) (some (b + 791)) (nI i) h := by
  obtain ⟨v1, v2, v3⟩ := qc_v hi hL
  obtain ⟨H, ⟨HM, A⟩, ho, hd⟩ := id W
  have w := I.1.1
  have hN2 : N < 2 ^ 20 := by omega
  have R := A.1.1
  have HP := A.1.2.1
  have t12 := qk_t12 R
  have l16 := R.1.1
  obtain ⟨f0, o0⟩ := id ho
  obtain ⟨g0, d0⟩ := id hd
  unfold qw_L_law_2410 qw_L_meanLength
  rw [qx_rv H]
  refine qe_X11_meanLength H (fun ne => ?_) (fun z n9 hn => ?_) t12
  · refine Eq.mpr (qp_sD (j := 0) d0 (by decide) (by decide)) ?_
    have H1 := H.out (o := .inl (4, 1, .inr (.inr (.inr (.inl (vf_upd g0 0 (FP.ddiv (FP.i2d (nI (qa_notes S.1.1))) (FP.i2d (nI S.1.1.length))))))))) (Or.inr rfl)
    have HM1 : qk_at (ql_up h (b + 791) (.inl (4, 1, .inr (.inr (.inr (.inl (vf_upd g0 0 (FP.ddiv (FP.i2d (nI (qa_notes S.1.1))) (FP.i2d (nI S.1.1.length)))))))))) (b + 780) M := HM.kept fun q h1 h2 => qp_up_n (by omega)
    have d9 : (ql_up h (b + 791) (.inl (4, 1, .inr (.inr (.inr (.inl (vf_upd g0 0 (FP.ddiv (FP.i2d (nI (qa_notes S.1.1))) (FP.i2d (nI S.1.1.length)))))))))).2 (b + 791) = some (.inl (4, 1, .inr (.inr (.inr (.inl (vf_upd g0 0 (FP.ddiv (FP.i2d (nI (qa_notes S.1.1))) (FP.i2d (nI S.1.1.length))))))))) := qp_up_s
    have o9 : (ql_up h (b + 791) (.inl (4, 1, .inr (.inr (.inr (.inl (vf_upd g0 0 (FP.ddiv (FP.i2d (nI (qa_notes S.1.1))) (FP.i2d (nI S.1.1.length)))))))))).2 (b + 790) = some (.inl (1, 1, .inr (.inl f0))) := (qp_up_n (by omega)).trans o0
    generalize ql_up h (b + 791) (.inl (4, 1, .inr (.inr (.inr (.inl (vf_upd g0 0 (FP.ddiv (FP.i2d (nI (qa_notes S.1.1))) (FP.i2d (nI S.1.1.length))))))))) = g1 at H1 HM1 d9 o9 ⊢
    dsimp only
    rw [qk_rv HM1]
    refine qe_X12_meanLength HM1 R (fun z => absurd z ne) fun _ h2 M2 H2 f2 q0 => ?_
    rw [qk_rv H2]
    refine qe_X12_thrown H2 ?_
    rw [q0.1]
    refine qp_iT rfl (qp_iT rfl ?_)
    have d2 : h2.2 (b + 791) = some (.inl (4, 1, .inr (.inr (.inr (.inl (vf_upd g0 0 (FP.ddiv (FP.i2d (nI (qa_notes S.1.1))) (FP.i2d (nI S.1.1.length))))))))) := (f2.2 _ (by omega)).trans d9
    refine Eq.mpr (qp_lD (j := 0) d2 (by decide) (by decide)) ?_
    rw [show vf_upd g0 0 (FP.ddiv (FP.i2d (nI (qa_notes S.1.1))) (FP.i2d (nI S.1.1.length))) 0 = FP.ddiv (FP.i2d (nI (qa_notes S.1.1))) (FP.i2d (nI S.1.1.length)) from if_pos rfl]
    have hn := qa_notes_le l16 t12
    refine qp_iT (qf_mean S.1.1.length (by omega) (by omega) (qa_notes S.1.1) (by omega)).2 ?_
    have o1 := o9
    exact qc_next (r := (0, 0, S)) (x := 0) H1 o1 ⟨_, d9⟩ (I.mono (by omega)) hk H2 f2 (A.pq q0)
  · refine qp_iT rfl ?_
    have H1 := H.low hn
    have HM1 : qk_at (n9, h.2) (b + 780) M := HM.kept fun _ _ _ => rfl
    dsimp only
    rw [qk_rv HM1]
    refine qe_X12_meanLength HM1 R (fun _ h2 M2 H2 f2 q0 => ?_) fun ne => absurd z ne
    rw [qk_rv H2]
    refine qe_X12_thrown H2 ?_
    rw [q0.1]
    refine qp_iT rfl (qp_iF qp_1 ?_)
    exact qc_next (r := (0, 0, S)) (x := 0) H1 o0 ⟨_, d0⟩ (I.mono (by omega)) hk H2 f2 (A.pq q0)
theorem qc_43 (W : qy_at σ h b M S) (I : qi_S S N) (hN : N + 13 < 2 ^ 20) (hi : i + 4 ≤ L9) (hL : L9 ≤ 2048) (hk : qy_c σ b N i k28) : qw_L_law_2475 σ L9 xs9 a0 Q X k28 (some b) (some (b + 780)) (some (b + 790)) (some (b + 791)) (nI i) h := by
  obtain ⟨v1, v2, v3⟩ := qc_v hi hL
  obtain ⟨H, ⟨HM, A⟩, ho, hd⟩ := id W
  have w := I.1.1
  have hN2 : N < 2 ^ 20 := by omega
  have R := A.1.1
  have HP := A.1.2.1
  have l16 := R.1.1
  obtain ⟨f0, o0⟩ := id ho
  obtain ⟨g0, d0⟩ := id hd
  have hv : qa_valid S.1.1 (S.1.2.1 2) ≤ S.1.1.length := List.countP_le_length
  unfold qw_L_law_2475 qw_L_inForceShare
  rw [qx_rv H]
  refine qe_X11_inForceShare H (fun ne => ?_) (fun z n9 hn => ?_)
  · have sh := qf_share S.1.1.length (by omega) (by omega) (qa_valid S.1.1 (S.1.2.1 2)) (by omega)
    refine ⟨sh.2.1, ?_⟩
    refine Eq.mpr (qp_sD (j := 0) d0 (by decide) (by decide)) ?_
    have H1 := H.out (o := .inl (4, 1, .inr (.inr (.inr (.inl (vf_upd g0 0 (FP.f2d (FP.fdiv (FP.i2f (nI (qa_valid S.1.1 (S.1.2.1 2)))) (FP.i2f (nI S.1.1.length)))))))))) (Or.inr rfl)
    have HM1 : qk_at (ql_up h (b + 791) (.inl (4, 1, .inr (.inr (.inr (.inl (vf_upd g0 0 (FP.f2d (FP.fdiv (FP.i2f (nI (qa_valid S.1.1 (S.1.2.1 2)))) (FP.i2f (nI S.1.1.length))))))))))) (b + 780) M := HM.kept fun q h1 h2 => qp_up_n (by omega)
    have d9 : (ql_up h (b + 791) (.inl (4, 1, .inr (.inr (.inr (.inl (vf_upd g0 0 (FP.f2d (FP.fdiv (FP.i2f (nI (qa_valid S.1.1 (S.1.2.1 2)))) (FP.i2f (nI S.1.1.length))))))))))).2 (b + 791) = some (.inl (4, 1, .inr (.inr (.inr (.inl (vf_upd g0 0 (FP.f2d (FP.fdiv (FP.i2f (nI (qa_valid S.1.1 (S.1.2.1 2)))) (FP.i2f (nI S.1.1.length)))))))))) := qp_up_s
    have o9 : (ql_up h (b + 791) (.inl (4, 1, .inr (.inr (.inr (.inl (vf_upd g0 0 (FP.f2d (FP.fdiv (FP.i2f (nI (qa_valid S.1.1 (S.1.2.1 2)))) (FP.i2f (nI S.1.1.length))))))))))).2 (b + 790) = some (.inl (1, 1, .inr (.inl f0))) := (qp_up_n (by omega)).trans o0
    generalize ql_up h (b + 791) (.inl (4, 1, .inr (.inr (.inr (.inl (vf_upd g0 0 (FP.f2d (FP.fdiv (FP.i2f (nI (qa_valid S.1.1 (S.1.2.1 2)))) (FP.i2f (nI S.1.1.length)))))))))) = g1 at H1 HM1 d9 o9 ⊢
    dsimp only
    rw [qk_rv HM1]
    refine qe_X12_inForceShare HM1 R (w.sunok hN2) (fun z => absurd z ne) fun _ h2 M2 H2 f2 q0 => ?_
    rw [qk_rv H2]
    refine qe_X12_thrown H2 ?_
    rw [q0.1]
    refine qp_iT rfl (qp_iT rfl ?_)
    have d2 : h2.2 (b + 791) = some (.inl (4, 1, .inr (.inr (.inr (.inl (vf_upd g0 0 (FP.f2d (FP.fdiv (FP.i2f (nI (qa_valid S.1.1 (S.1.2.1 2)))) (FP.i2f (nI S.1.1.length)))))))))) := (f2.2 _ (by omega)).trans d9
    refine Eq.mpr (qp_lD (j := 0) d2 (by decide) (by decide)) ?_
    rw [show vf_upd g0 0 (FP.f2d (FP.fdiv (FP.i2f (nI (qa_valid S.1.1 (S.1.2.1 2)))) (FP.i2f (nI S.1.1.length)))) 0 = (FP.f2d (FP.fdiv (FP.i2f (nI (qa_valid S.1.1 (S.1.2.1 2)))) (FP.i2f (nI S.1.1.length)))) from if_pos rfl]
    refine ⟨sh.2.1, qp_iT sh.2.2 ?_⟩
    have o1 := o9
    exact qc_next (r := (0, 0, S)) (x := 0) H1 o1 ⟨_, d9⟩ (I.mono (by omega)) hk H2 f2 (A.pq q0)
  · refine qp_iT rfl ?_
    have H1 := H.low hn
    have HM1 : qk_at (n9, h.2) (b + 780) M := HM.kept fun _ _ _ => rfl
    dsimp only
    rw [qk_rv HM1]
    refine qe_X12_inForceShare HM1 R (w.sunok hN2) (fun _ h2 M2 H2 f2 q0 => ?_) fun ne => absurd z ne
    rw [qk_rv H2]
    refine qe_X12_thrown H2 ?_
    rw [q0.1]
    refine qp_iT rfl (qp_iF qp_1 ?_)
    exact qc_next (r := (0, 0, S)) (x := 0) H1 o0 ⟨_, d0⟩ (I.mono (by omega)) hk H2 f2 (A.pq q0)
theorem qc_44 (W : qy_at σ h b M S) (I : qi_S S N) (hN : N + 13 < 2 ^ 20) (hi : i + 4 ≤ L9) (hL : L9 ≤ 2048) (hk : qy_c σ b N i k28) : qw_L_law_2541 σ L9 xs9 a0 Q X k28 (some b) (some (b + 780)) (some (b + 790)) (some (b + 791)) (nI i) h := by
  obtain ⟨v1, v2, v3⟩ := qc_v hi hL
  obtain ⟨H, ⟨HM, A⟩, ho, hd⟩ := id W
  have w := I.1.1
  have hN2 : N < 2 ^ 20 := by omega
  have R := A.1.1
  have HP := A.1.2.1
  unfold qw_L_law_2541
  rw [qx_rv H]
  refine qe_X11_isConsistent H w fun h1 H1 fr => ?_
  obtain ⟨f0, o0⟩ := ho
  have o1 := (fr.2 _ (by omega) (by omega)).trans o0
  have HM1 := fr.y.m HM
  rw [qk_rv HM1]
  refine qe_X12_isConsistent HM1 R fun h2 M2 x H2 f2 q0 => ?_
  refine qp_iT (q0.2.2.2 rfl).symm ?_
  exact qc_next (r := (0, x, S)) (x := x) H1 o1 (fr.y.d hd) (I.mono (by omega)) hk H2 f2 (A.pq q0)
theorem qc_45 (W : qy_at σ h b M S) (I : qi_S S N) (hN : N + 13 < 2 ^ 20) (hi : i + 4 ≤ L9) (hL : L9 ≤ 2048) (hk : qy_c σ b N i k28) : qw_L_law_2554 σ L9 xs9 a0 Q X k28 (some b) (some (b + 780)) (some (b + 790)) (some (b + 791)) (nI i) h := by
  obtain ⟨v1, v2, v3⟩ := qc_v hi hL
  obtain ⟨H, ⟨HM, A⟩, ho, hd⟩ := id W
  have w := I.1.1
  have hN2 : N < 2 ^ 20 := by omega
  have R := A.1.1
  have HP := A.1.2.1
  unfold qw_L_law_2554
  refine ⟨v1, ?_⟩
  apply qy_use (σ := σ) (b := b) (h := h)
  · intro K k
    unfold qw_L_renderClause
    rw [qx_rv H]
    exact qe_X11_renderClause H w hN2 (qy_pm ho (qy_x1 (qm_render_le _ _) rfl) k)
  intro h1 f1 H1 fr o1 ev
  refine ⟨v1, ?_⟩
  have HM1 := fr.m HM
  rw [qk_rv HM1]
  refine qe_X12_renderClause HM1 A w hN2 fun h2 M2 x H2 f2 q0 => ?_
  have q := q0
  exact qc_end (Nat.lt_of_le_of_lt (qm_render_le _ _) (by decide)) H1 o1 ev (fr.d hd) (I.render A.tx) hk H2 f2 q
theorem qc_46 (W : qy_at σ h b M S) (I : qi_S S N) (hN : N + 13 < 2 ^ 20) (hi : i + 4 ≤ L9) (hL : L9 ≤ 2048) (hk : qy_c σ b N i k28) : qw_L_law_2610 σ L9 xs9 a0 Q X k28 (some b) (some (b + 780)) (some (b + 790)) (some (b + 791)) (nI i) h := by
  obtain ⟨v1, v2, v3⟩ := qc_v hi hL
  obtain ⟨H, ⟨HM, A⟩, ho, hd⟩ := id W
  have w := I.1.1
  have hN2 : N < 2 ^ 20 := by omega
  have R := A.1.1
  have HP := A.1.2.1
  unfold qw_L_law_2610
  refine ⟨v1, ?_⟩
  apply qy_use (σ := σ) (b := b) (h := h)
  · intro K k
    unfold qw_L_outputAt
    rw [qx_rv H]
    exact qe_X11_outputAt H I.2.2.2.1 I.2.2.2.2 (qx_pq.pm (qy_pm ho (qy_x1 (qm_outAt_le _ _) rfl) k))
  intro h1 f1 H1 fr o1 ev
  refine ⟨v1, ?_⟩
  have HM1 := fr.m HM
  rw [qk_rv HM1]
  refine qe_X12_outputAt HM1 A I.2.2.2.2 fun h2 M2 x H2 f2 q0 => ?_
  have q := qk_pq.pm A q0
  exact qc_end (Nat.lt_of_le_of_lt (qm_outAt_le _ _) (by decide)) H1 o1 ev (fr.d hd) (I.mono (by omega)) hk H2 f2 q
theorem qc_47 (W : qy_at σ h b M S) (I : qi_S S N) (hN : N + 13 < 2 ^ 20) (hi : i + 4 ≤ L9) (hL : L9 ≤ 2048) (hk : qy_c σ b N i k28) : qw_L_law_2666 σ L9 xs9 a0 Q X k28 (some b) (some (b + 780)) (some (b + 790)) (some (b + 791)) (nI i) h := by
  obtain ⟨v1, v2, v3⟩ := qc_v hi hL
  obtain ⟨H, ⟨HM, A⟩, ho, hd⟩ := id W
  have w := I.1.1
  have hN2 : N < 2 ^ 20 := by omega
  have R := A.1.1
  have HP := A.1.2.1
  unfold qw_L_law_2666
  refine ⟨v1, ?_⟩
  rw [pk_char]
  generalize hc : (xs9 (nI i + (1 : Int32)).toNatClampNeg).toBitVec.toNat % 65536 = c
  have c16 : c < 65536 := by omega
  apply qy_use (σ := σ) (b := b) (h := h)
  · intro K k
    unfold qw_L_type
    rw [qx_rv H]
    exact qe_X11_type H I.2.1.1 c16 (qy_pm ho (qy_x2 (qm_type_le _ _) rfl rfl (by decide +kernel)) k)
  intro h1 f1 H1 fr o1 ev
  refine ⟨v1, ?_⟩
  have HM1 := fr.m HM
  rw [qk_rv HM1]
  refine qe_X12_type HM1 A c16 fun h2 M2 x H2 f2 q => ?_
  exact qc_end (Nat.lt_of_le_of_lt (qm_type_le _ _) (by decide)) H1 o1 ev (fr.d hd) (I.type c16) hk H2 f2 q
theorem qc_48 (W : qy_at σ h b M S) (I : qi_S S N) (hN : N + 13 < 2 ^ 20) (hi : i + 4 ≤ L9) (hL : L9 ≤ 2048) (hk : qy_c σ b N i k28) : qw_L_law_2724 σ L9 xs9 a0 Q X k28 (some b) (some (b + 780)) (some (b + 790)) (some (b + 791)) (nI i) h := by
  obtain ⟨v1, v2, v3⟩ := qc_v hi hL
  obtain ⟨H, ⟨HM, A⟩, ho, hd⟩ := id W
  have w := I.1.1
  have hN2 : N < 2 ^ 20 := by omega
  have R := A.1.1
  have HP := A.1.2.1
  unfold qw_L_law_2724
  apply qy_use (σ := σ) (b := b) (h := h)
  · intro K k
    unfold qw_L_runScript
    rw [qx_rv H]
    exact qe_X11_runScript H w (by omega) I.2.1.2 (qy_pm ho (qy_x2 (qm_run_le _) rfl rfl (by decide +kernel)) k)
  intro h1 f1 H1 fr o1 ev
  have HM1 := fr.m HM
  rw [qk_rv HM1]
  refine qe_X12_runScript HM1 A I.2.1.2 w (by omega) fun h2 M2 x H2 f2 q0 => ?_
  have q := q0
  exact qc_end (Nat.lt_of_le_of_lt (qm_run_le _) (by decide)) H1 o1 ev (fr.d hd) (I.run hN) hk H2 f2 q
theorem qc_49 (W : qy_at σ h b M S) (I : qi_S S N) (hN : N + 13 < 2 ^ 20) (hi : i + 4 ≤ L9) (hL : L9 ≤ 2048) (hk : qy_c σ b N i k28) : qw_L_law_2768 σ L9 xs9 a0 Q X k28 (some b) (some (b + 780)) (some (b + 790)) (some (b + 791)) (nI i) h := by
  obtain ⟨v1, v2, v3⟩ := qc_v hi hL
  obtain ⟨H, ⟨HM, A⟩, ho, hd⟩ := id W
  have w := I.1.1
  have hN2 : N < 2 ^ 20 := by omega
  have R := A.1.1
  have HP := A.1.2.1
  unfold qw_L_law_2768
  apply qy_use (σ := σ) (b := b) (h := h)
  · intro K k
    unfold qw_L_errorPosition
    rw [qx_rv H]
    exact qe_X11_errorPosition H I.2.2.1.1 (qx_pq.pm (qy_pm ho (qy_x1 (qm_err_le _) rfl) k))
  intro h1 f1 H1 fr o1 ev
  have HM1 := fr.m HM
  rw [qk_rv HM1]
  refine qe_X12_errorPosition HM1 A fun h2 M2 x H2 f2 q0 => ?_
  have q := qk_pq.pm A q0
  exact qc_end (Nat.lt_of_le_of_lt (qm_err_le _) (by decide)) H1 o1 ev (fr.d hd) (I.mono (by omega)) hk H2 f2 q
theorem qc_50 (W : qy_at σ h b M S) (I : qi_S S N) (hN : N + 13 < 2 ^ 20) (hi : i + 4 ≤ L9) (hL : L9 ≤ 2048) (hk : qy_c σ b N i k28) : qw_L_law_2812 σ L9 xs9 a0 Q X k28 (some b) (some (b + 780)) (some (b + 790)) (some (b + 791)) (nI i) h := by
  obtain ⟨v1, v2, v3⟩ := qc_v hi hL
  obtain ⟨H, ⟨HM, A⟩, ho, hd⟩ := id W
  have w := I.1.1
  have hN2 : N < 2 ^ 20 := by omega
  have R := A.1.1
  have HP := A.1.2.1
  unfold qw_L_law_2812
  apply qy_use (σ := σ) (b := b) (h := h)
  · intro K k
    unfold qw_L_failedCommand
    rw [qx_rv H]
    exact qe_X11_failedCommand H I.2.2.1.2 (qx_pq.pm (qy_pm ho (qy_x1 (qm_err_le _) rfl) k))
  intro h1 f1 H1 fr o1 ev
  have HM1 := fr.m HM
  rw [qk_rv HM1]
  refine qe_X12_failedCommand HM1 A fun h2 M2 x H2 f2 q0 => ?_
  have q := qk_pq.pm A q0
  exact qc_end (Nat.lt_of_le_of_lt (qm_err_le _) (by decide)) H1 o1 ev (fr.d hd) (I.mono (by omega)) hk H2 f2 q
theorem qc_51 (W : qy_at σ h b M S) (I : qi_S S N) (hN : N + 13 < 2 ^ 20) (hi : i + 4 ≤ L9) (hL : L9 ≤ 2048) (hk : qy_c σ b N i k28) : qw_L_law_2856 σ L9 xs9 a0 Q X k28 (some b) (some (b + 780)) (some (b + 790)) (some (b + 791)) (nI i) h := by
  obtain ⟨v1, v2, v3⟩ := qc_v hi hL
  obtain ⟨H, ⟨HM, A⟩, ho, hd⟩ := id W
  have w := I.1.1
  have hN2 : N < 2 ^ 20 := by omega
  have R := A.1.1
  have HP := A.1.2.1
  unfold qw_L_law_2856
  apply qy_use (σ := σ) (b := b) (h := h)
  · intro K k
    unfold qw_L_undo
    rw [qx_rv H]
    exact qe_X11_undo H (qy_pm ho (qy_x1 (qm_undo_le _) rfl) k)
  intro h1 f1 H1 fr o1 ev
  have HM1 := fr.m HM
  rw [qk_rv HM1]
  refine qe_X12_undo HM1 A fun h2 M2 x H2 f2 q0 => ?_
  have q := q0
  exact qc_end (Nat.lt_of_le_of_lt (qm_undo_le _) (by decide)) H1 o1 ev (fr.d hd) (I.undo) hk H2 f2 q
theorem qc_52 (W : qy_at σ h b M S) (I : qi_S S N) (hN : N + 13 < 2 ^ 20) (hi : i + 4 ≤ L9) (hL : L9 ≤ 2048) (hk : qy_c σ b N i k28) : qw_L_law_2900 σ L9 xs9 a0 Q X k28 (some b) (some (b + 780)) (some (b + 790)) (some (b + 791)) (nI i) h := by
  obtain ⟨v1, v2, v3⟩ := qc_v hi hL
  obtain ⟨H, ⟨HM, A⟩, ho, hd⟩ := id W
  have w := I.1.1
  have hN2 : N < 2 ^ 20 := by omega
  have R := A.1.1
  have HP := A.1.2.1
  unfold qw_L_law_2900
  rw [qx_rv H]
  refine qe_X11_save H fun h1 H1 fr => ?_
  obtain ⟨f0, o0⟩ := ho
  have o1 := (fr.2 _ (by omega) (by omega)).trans o0
  have HM1 := fr.y.m HM
  rw [qk_rv HM1]
  refine qe_X12_save HM1 A fun h2 M2 H2 f2 A2 => qp_iT rfl ?_
  exact qc_next (r := (0, 0, qm_save S)) (x := 0) H1 o1 (fr.y.d hd) I.save hk H2 f2 A2
theorem qc_53 (W : qy_at σ h b M S) (I : qi_S S N) (hN : N + 13 < 2 ^ 20) (hi : i + 4 ≤ L9) (hL : L9 ≤ 2048) (hk : qy_c σ b N i k28) : qw_L_law_2913 σ L9 xs9 a0 Q X k28 (some b) (some (b + 780)) (some (b + 790)) (some (b + 791)) (nI i) h := by
  obtain ⟨v1, v2, v3⟩ := qc_v hi hL
  obtain ⟨H, ⟨HM, A⟩, ho, hd⟩ := id W
  have w := I.1.1
  have hN2 : N < 2 ^ 20 := by omega
  have R := A.1.1
  have HP := A.1.2.1
  unfold qw_L_law_2913
  apply qy_use (σ := σ) (b := b) (h := h)
  · intro K k
    unfold qw_L_restore
    rw [qx_rv H]
    exact qe_X11_restore H (qy_pm ho (qy_x1 (qm_restore_le _) rfl) k)
  intro h1 f1 H1 fr o1 ev
  have HM1 := fr.m HM
  rw [qk_rv HM1]
  refine qe_X12_restore HM1 A fun h2 M2 x H2 f2 q0 => ?_
  have q := q0
  exact qc_end (Nat.lt_of_le_of_lt (qm_restore_le _) (by decide)) H1 o1 ev (fr.d hd) (I.restore) hk H2 f2 q
end QCS
