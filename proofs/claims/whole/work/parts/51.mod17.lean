/-! The reference's reading: all commands; the script. -/
section QKD
variable {h hh h1 : ql_H} {m n p : Nat} {M MM M1 : qk_T} {l s : List Nat} {σ : Nat → Nat} {R R2 : Bool × Nat × qz_C} {C : qz_C} {Q : Int32 → ql_H → Prop}
theorem qk_ce.as (K : qk_ce h m M l n R Q) (e : R.1 = R2.1 ∧ R.2.1 = R2.2.1 ∧ (R.1 = true → R = R2)) : qk_ce h m M l n R2 Q := fun h1 M1 D t => by
  have := K h1 M1 (by rw [e.2.1]; exact D) fun z => by rw [e.2.2 z]; exact t (by rw [← e.1]; exact z)
  rw [e.1] at this
  exact this
theorem qz_is_ne {a c : Nat} (h : qz_is l p c = true) (n : a ≠ c) : qz_is l p a = false := by
  cases e : qz_is l p a with
  | false => rfl
  | true => exact absurd (Option.some.inj ((of_decide_eq_true e).symm.trans (of_decide_eq_true h))) n
theorem qz_cs_0 {v : List Nat} {c : Nat} (h : qz_is l p c = true) (n : v.head? ≠ some c) : qz_cs l p v = 0 := by
  cases v with
  | nil => rfl
  | cons a v => exact qz_cs_no (qz_is_ne h fun e => n (by rw [e]; rfl))
theorem qz_H {c i : Nat} {w : List Nat} (h : qz_is l p c = true) (hd : ∀ j (hj : j < 10), j ≠ i → (qz_kw[j]'hj).head? ≠ some c) : ∀ j (hj : j < 10), j ≠ i → qz_cs l p (qz_kw[j]'hj) ≠ (qz_kw[j]'hj).length ∧ qz_cs l p (qz_kw[j]'hj) ≤ qz_cs l p w := fun j hj n => by
  have a := (qz_kw_ch _ (List.getElem_mem (l := qz_kw) hj)).2
  rw [qz_cs_0 h (hd j hj n)]
  exact ⟨fun e => a e.symm, Nat.zero_le _⟩
theorem qz_H2 {c x i : Nat} {w : List Nat} (h : qz_is l p c = true) (hx : qz_is l (p + 1) x = false) (hd : ∀ j (hj : j < 10), j ≠ i → (qz_kw[j]'hj).head? ≠ some c ∨ (qz_kw[j]'hj).take 2 = [c, x]) : ∀ j (hj : j < 10), j ≠ i → qz_cs l p (qz_kw[j]'hj) ≠ (qz_kw[j]'hj).length ∧ qz_cs l p (qz_kw[j]'hj) ≤ qz_cs l p (c :: w) := fun j hj n => by
  have a := (qz_kw_ch _ (List.getElem_mem (l := qz_kw) hj)).2
  rcases hd j hj n with d | d
  · rw [qz_cs_0 h d]
    exact ⟨fun e => a e.symm, Nat.zero_le _⟩
  · generalize qz_kw[j]'hj = v at d
    match v, d with
    | u1 :: u2 :: v, d =>
      obtain ⟨rfl, d2⟩ := List.cons.inj d
      obtain ⟨rfl, _⟩ := List.cons.inj d2
      rw [qz_cs_yes h, qz_cs_no hx, qz_cs_yes h]
      exact ⟨(fun e => by simp at e), by omega⟩
theorem qk_cA (T : qk_ty M l) (hn : M.1 18 = nI n) (hn2 : n ≤ 12) (D : qk_sd h m M l n hh MM p) (K : qk_ce h m M l n R Q) {k i : Nat} (hk : k < 25) {w : List Nat} (ew : qz_s k = w) (hw : ∀ c ∈ w, c < 1000) (eR : R = qz_seq l (w ++ 32 :: 1049 :: 32 :: 1110 :: []) p (i, 0, 0, 0)) (hf : qz_fm.getD i [] = [1049, 32, 1110]) : ql_rv hh (some m) 13 fun b60 => qw_X12_isWord σ b60 (nI i) (some (σ (200 + k))) hh (fun x60 h =>
if x60 = 0 then (ql_nz .boolean (0 : Int32) ∧ Q (0 : Int32) h) else (ql_rv h (some m) 13 fun b62 => qw_X12_figures b62 (((4 : Int32) * nI n) + (1 : Int32)) h (fun x62 h =>
if x62 = 0 then (ql_nz .boolean (0 : Int32) ∧ Q (0 : Int32) h) else (ql_rv h (some m) 13 fun b64 => qw_X12_skips b64 (32 : Int32) h (fun x64 h =>
if x64 = 0 then (ql_nz .boolean (0 : Int32) ∧ Q (0 : Int32) h) else (ql_rv h (some m) 13 fun b66 => qw_X12_noteHere b66 ((((4 : Int32) * nI n) + (1 : Int32)) + (2 : Int32)) h (fun x66 h =>
if x66 = 0 then (ql_nz .boolean (0 : Int32) ∧ Q (0 : Int32) h) else (ql_nz .boolean (1 : Int32) ∧ Q (1 : Int32) h)))))))) := by
  rw [qk_rv D.1]
  refine qk_word T hn hn2 D hk ew hw eR (fun h1 M1 q D1 e => qp_iT rfl ⟨ql_nz0, K.no D1 e⟩) fun h1 M1 q D1 t0 e1 => qp_iF qp_1 ?_
  rw [qk_rv D1.1, qk_x1]
  refine qk_fig1 T hn2 D1 e1 (fun h2 M2 q2 C' D2 e => qp_iT rfl ⟨ql_nz0, K.no D2 e⟩) fun h2 M2 q2 x D2 o2 v2 e2 => qp_iF qp_1 ?_
  rw [qk_rv D2.1]
  refine qk_skip T D2 (c := 32) (by omega) (fun D3 _ e => qp_iT rfl ⟨ql_nz0, K.no D3 (by rw [e2, e])⟩) fun h3 M3 D3 o3 _ e3 => qp_iF qp_1 ?_
  rw [qk_rv D3.1, qk_x3]
  refine qk_noteN T hn2 D3 (e2.trans (e3 _ _)) (fun h4 M4 q4 C' D4 e => qp_iT rfl ⟨ql_nz0, K.no D4 e⟩) fun h4 M4 q4 y D4 o4 v4 e4 => qp_iF qp_1 ⟨ql_nz1, K.ok D4 e4 ⟨?_, fun _ => ?_, fun z => ?_, fun _ => v4⟩⟩
  · rw [o4 _ (by omega), o3, o2 _ (by omega)]
    exact t0
  · rw [o4 _ (by omega), o3]
    exact v2
  · rw [hf] at z
    exact absurd z (by decide)
theorem qk_cB (T : qk_ty M l) (hn : M.1 18 = nI n) (hn2 : n ≤ 12) (D : qk_sd h m M l n hh MM p) (K : qk_ce h m M l n R Q) {k i : Nat} (hk : k < 25) {w : List Nat} (ew : qz_s k = w) (hw : ∀ c ∈ w, c < 1000) (eR : R = qz_seq l (w ++ 32 :: 1049 :: 32 :: 1050 :: 1110 :: []) p (i, 0, 0, 0)) : ql_rv hh (some m) 13 fun b60 => qw_X12_isWord σ b60 (nI i) (some (σ (200 + k))) hh (fun x60 h =>
if x60 = 0 then (ql_nz .boolean (0 : Int32) ∧ Q (0 : Int32) h) else (ql_rv h (some m) 13 fun b62 => qw_X12_bothHere b62 (((4 : Int32) * nI n) + (1 : Int32)) h (fun x62 h =>
if x62 = 0 then (ql_nz .boolean (0 : Int32) ∧ Q (0 : Int32) h) else (ql_rv h (some m) 13 fun b66 => qw_X12_noteHere b66 ((((4 : Int32) * nI n) + (1 : Int32)) + (2 : Int32)) h (fun x66 h =>
if x66 = 0 then (ql_nz .boolean (0 : Int32) ∧ Q (0 : Int32) h) else (ql_nz .boolean (1 : Int32) ∧ Q (1 : Int32) h)))))) := by
  rw [qk_rv D.1]
  refine qk_word T hn hn2 D hk ew hw eR (fun h1 M1 q D1 e => qp_iT rfl ⟨ql_nz0, K.no D1 e⟩) fun h1 M1 q D1 t0 e1 => qp_iF qp_1 ?_
  rw [qk_rv D1.1, qk_x1]
  refine qk_both T hn2 D1 e1 (fun h2 M2 q2 C' D2 e => qp_iT rfl ⟨ql_nz0, K.no D2 e⟩) fun h2 M2 q2 x y D2 o2 v2 v3 e2 => qp_iF qp_1 ?_
  rw [qk_rv D2.1, qk_x3]
  refine qk_noteN T hn2 D2 e2 (fun h4 M4 q4 C' D4 e => qp_iT rfl ⟨ql_nz0, K.no D4 e⟩) fun h4 M4 q4 z D4 o4 v4 e4 => qp_iF qp_1 ⟨ql_nz1, K.ok D4 e4 ⟨?_, fun _ => ?_, fun _ => ?_, fun _ => v4⟩⟩
  · rw [o4 _ (by omega), o2]
    exact t0
  · rw [o4 _ (by omega)]
    exact v2
  · rw [o4 _ (by omega)]
    exact v3
theorem qk_cC (T : qk_ty M l) (hn : M.1 18 = nI n) (hn2 : n ≤ 12) (D : qk_sd h m M l n hh MM p) (K : qk_ce h m M l n R Q) {k i : Nat} (hk : k < 25) {w : List Nat} (ew : qz_s k = w) (hw : ∀ c ∈ w, c < 1000) (eR : R = qz_seq l (w ++ 32 :: 1049 :: 32 :: 1050 :: []) p (i, 0, 0, 0)) (hf : qz_fm.getD i [] = [1049, 32, 1050]) : ql_rv hh (some m) 13 fun b60 => qw_X12_isWord σ b60 (nI i) (some (σ (200 + k))) hh (fun x60 h =>
if x60 = 0 then (ql_nz .boolean (0 : Int32) ∧ Q (0 : Int32) h) else (ql_rv h (some m) 13 fun b62 => qw_X12_bothHere b62 (((4 : Int32) * nI n) + (1 : Int32)) h (fun x62 h =>
if x62 = 0 then (ql_nz .boolean (0 : Int32) ∧ Q (0 : Int32) h) else (ql_nz .boolean (1 : Int32) ∧ Q (1 : Int32) h)))) := by
  rw [qk_rv D.1]
  refine qk_word T hn hn2 D hk ew hw eR (fun h1 M1 q D1 e => qp_iT rfl ⟨ql_nz0, K.no D1 e⟩) fun h1 M1 q D1 t0 e1 => qp_iF qp_1 ?_
  rw [qk_rv D1.1, qk_x1]
  refine qk_both T hn2 D1 e1 (fun h2 M2 q2 C' D2 e => qp_iT rfl ⟨ql_nz0, K.no D2 e⟩) fun h2 M2 q2 x y D2 o2 v2 v3 e2 => qp_iF qp_1 ⟨ql_nz1, K.ok D2 e2 ⟨o2.trans t0, fun _ => v2, fun _ => v3, fun z => ?_⟩⟩
  rw [hf] at z
  exact absurd z (by decide)
theorem qk_cD (T : qk_ty M l) (hn : M.1 18 = nI n) (hn2 : n ≤ 12) (D : qk_sd h m M l n hh MM p) (K : qk_ce h m M l n R Q) {k i : Nat} (hk : k < 25) {w : List Nat} (ew : qz_s k = w) (hw : ∀ c ∈ w, c < 1000) (eR : R = qz_seq l (w ++ 32 :: 1049 :: []) p (i, 0, 0, 0)) (hf : qz_fm.getD i [] = [1049]) : ql_rv hh (some m) 13 fun b60 => qw_X12_isWord σ b60 (nI i) (some (σ (200 + k))) hh (fun x60 h =>
if x60 = 0 then (ql_nz .boolean (0 : Int32) ∧ Q (0 : Int32) h) else (ql_rv h (some m) 13 fun b62 => qw_X12_figures b62 (((4 : Int32) * nI n) + (1 : Int32)) h (fun x62 h =>
if x62 = 0 then (ql_nz .boolean (0 : Int32) ∧ Q (0 : Int32) h) else (ql_nz .boolean (1 : Int32) ∧ Q (1 : Int32) h)))) := by
  rw [qk_rv D.1]
  refine qk_word T hn hn2 D hk ew hw eR (fun h1 M1 q D1 e => qp_iT rfl ⟨ql_nz0, K.no D1 e⟩) fun h1 M1 q D1 t0 e1 => qp_iF qp_1 ?_
  rw [qk_rv D1.1, qk_x1]
  refine qk_fig1 T hn2 D1 e1 (fun h2 M2 q2 C' D2 e => qp_iT rfl ⟨ql_nz0, K.no D2 e⟩) fun h2 M2 q2 x D2 o2 v2 e2 => qp_iF qp_1 ⟨ql_nz1, K.ok D2 e2 ⟨(o2 _ (by omega)).trans t0, fun _ => v2, fun z => ?_, fun z => ?_⟩⟩
  · rw [hf] at z
    exact absurd z (by decide)
  · rw [hf] at z
    exact absurd z (by decide)
theorem qk_cE (T : qk_ty M l) (hn : M.1 18 = nI n) (hn2 : n ≤ 12) (D : qk_sd h m M l n hh MM p) (K : qk_ce h m M l n R Q) {k i : Nat} (hk : k < 25) {w : List Nat} (ew : qz_s k = w) (hw : ∀ c ∈ w, c < 1000) (eR : R = qz_seq l (w ++ []) p (i, 0, 0, 0)) (hf : qz_fm.getD i [] = []) : ql_rv hh (some m) 13 fun b60 => qw_X12_isWord σ b60 (nI i) (some (σ (200 + k))) hh (fun x60 h =>
ql_nz .boolean x60 ∧ Q x60 h) := by
  rw [qk_rv D.1]
  refine qk_word T hn hn2 D hk ew hw eR (fun h1 M1 q D1 e => ⟨ql_nz0, K.no D1 e⟩) fun h1 M1 q D1 t0 e1 => ⟨ql_nz1, K.ok D1 e1 ⟨t0, fun z => ?_, fun z => ?_, fun z => ?_⟩⟩
  · rw [hf] at z
    cases z
  · rw [hf] at z
    cases z
  · rw [hf] at z
    cases z
theorem qe_X12_commandHere (H : qk_at h m M) (T : qk_ty M l) (hn : M.1 18 = nI n) (hn2 : n ≤ 12) (e : M.1 16 = nI p) (hp : p ≤ l.length) (K : qk_ce h m M l n (qz_cmd l p) Q) : qw_X12_commandHere σ m h Q := by
  have D : qk_sd h m M l n h M p := ⟨H, qp_fr.rf, qk_pz.rf e, fun _ _ => rfl, hp⟩
  unfold qw_X12_commandHere
  rw [qk_f H 18, hn, qk_rv H]
  refine qk_skip T D (c := 97) (by omega) (fun _ z97 _ => qp_iT rfl ?_) fun h1 M1 D1 o1 z97 e1 => qp_iF qp_1 ?_
  rotate_left
  · exact qk_cA T hn hn2 D1 (K.as (qz_cmd_pick (i := 0) (by omega) rfl rfl (qz_H z97 (by decide)))) (k := 0) (i := 0) (by omega) rfl (w := [100, 100]) (by decide) (e1 _ _) rfl
  rw [qk_rv H]
  refine qk_skip T D (c := 112) (by omega) (fun _ z112 _ => qp_iT rfl ?_) fun h1 M1 D1 o1 z112 e1 => qp_iF qp_1 ?_
  rotate_left
  · exact qk_cB T hn hn2 D1 (K.as (qz_cmd_pick (i := 1) (by omega) rfl rfl (qz_H z112 (by decide)))) (k := 1) (i := 1) (by omega) rfl (w := [117, 116]) (by decide) (e1 _ _)
  rw [qk_rv H]
  refine qk_skip T D (c := 115) (by omega) (fun _ z115 _ => qp_iT rfl ?_) fun h1 M1 D1 o1 z115 e1 => qp_iF qp_1 ?_
  rotate_left
  · rw [qk_rv D1.1]
    refine qk_skip T D1 (c := 117) (by omega) (fun _ y _ => qp_iT rfl ?_) fun h2 M2 D2 o2 y e2 => qp_iF qp_1 ?_
    · exact qk_cB T hn hn2 D1 (K.as (qz_cmd_pick (i := 2) (by omega) rfl rfl (qz_H2 (x := 117) z115 y (by decide)))) (k := 3) (i := 2) (by omega) rfl (w := [101, 116]) (by decide) (e1 _ _)
    · exact qk_cC T hn hn2 D2 (K.as (qz_cmd_pick (i := 4) (by omega) rfl rfl (qz_H2 (x := 101) z115 (qz_is_ne y (by decide)) (by decide)))) (k := 2) (i := 4) (by omega) rfl (w := [110, 115, 101, 116]) (by decide) ((e1 _ _).trans (e2 _ _)) rfl
  rw [qk_rv H]
  refine qk_skip T D (c := 99) (by omega) (fun _ z99 _ => qp_iT rfl ?_) fun h1 M1 D1 o1 z99 e1 => qp_iF qp_1 ?_
  rotate_left
  · rw [qk_rv D1.1]
    refine qk_skip T D1 (c := 117) (by omega) (fun _ y _ => qp_iT rfl ?_) fun h2 M2 D2 o2 y e2 => qp_iF qp_1 ?_
    · exact qk_cC T hn hn2 D1 (K.as (qz_cmd_pick (i := 5) (by omega) rfl rfl (qz_H2 (x := 117) z99 y (by decide)))) (k := 5) (i := 5) (by omega) rfl (w := [105, 116, 101]) (by decide) (e1 _ _) rfl
    · exact qk_cC T hn hn2 D2 (K.as (qz_cmd_pick (i := 3) (by omega) rfl rfl (qz_H2 (x := 105) z99 (qz_is_ne y (by decide)) (by decide)))) (k := 4) (i := 3) (by omega) rfl (w := [116]) (by decide) ((e1 _ _).trans (e2 _ _)) rfl
  rw [qk_rv H]
  refine qk_skip T D (c := 117) (by omega) (fun _ z117 _ => qp_iT rfl ?_) fun h1 M1 D1 o1 z117 e1 => qp_iF qp_1 ?_
  rotate_left
  · exact qk_cC T hn hn2 D1 (K.as (qz_cmd_pick (i := 6) (by omega) rfl rfl (qz_H z117 (by decide)))) (k := 6) (i := 6) (by omega) rfl (w := [110, 99, 105, 116, 101]) (by decide) (e1 _ _) rfl
  rw [qk_rv H]
  refine qk_skip T D (c := 114) (by omega) (fun _ z114 _ => qp_iT rfl ?_) fun h1 M1 D1 o1 z114 e1 => qp_iF qp_1 ?_
  rotate_left
  · exact qk_cD T hn hn2 D1 (K.as (qz_cmd_pick (i := 7) (by omega) rfl rfl (qz_H z114 (by decide)))) (k := 7) (i := 7) (by omega) rfl (w := [101, 112, 101, 97, 108]) (by decide) (e1 _ _) rfl
  rw [qk_rv H]
  refine qk_skip T D (c := 101) (by omega) (fun _ z101 _ => qp_iT rfl ?_) fun h1 M1 D1 o1 z101 e1 => qp_iF qp_1 ?_
  rotate_left
  · exact qk_cE T hn hn2 D1 (K.as (qz_cmd_pick (i := 8) (by omega) rfl rfl (qz_H z101 (by decide)))) (k := 8) (i := 8) (by omega) rfl (w := [100, 105, 116]) (by decide) (e1 _ _) rfl
  rw [qk_rv H]
  refine qk_skip T D (c := 119) (by omega) (fun _ z119 _ => qp_iT rfl ?_) fun h1 M1 D1 o1 z119 e1 => qp_iF qp_1 ?_
  rotate_left
  · exact qk_cD T hn hn2 D1 (K.as (qz_cmd_pick (i := 9) (by omega) rfl rfl (qz_H z119 (by decide)))) (k := 9) (i := 9) (by omega) rfl (w := [97, 105, 116]) (by decide) (e1 _ _) rfl
  have ek : qz_key l p qz_kw 0 0 = (none, p) := by
    refine qz_key_none qz_kw 0 fun w hw => ⟨?_, (qz_kw_ch w hw).2⟩
    have hd : ∀ w ∈ qz_kw, ∃ c, c ∈ [97, 112, 115, 99, 117, 114, 101, 119] ∧ w.head? = some c := by decide
    obtain ⟨c, hc, eh⟩ := hd w hw
    have zc : qz_is l p c = false := by
      rcases List.mem_cons.mp hc with rfl | hc
      · exact z97
      rcases List.mem_cons.mp hc with rfl | hc
      · exact z112
      rcases List.mem_cons.mp hc with rfl | hc
      · exact z115
      rcases List.mem_cons.mp hc with rfl | hc
      · exact z99
      rcases List.mem_cons.mp hc with rfl | hc
      · exact z117
      rcases List.mem_cons.mp hc with rfl | hc
      · exact z114
      rcases List.mem_cons.mp hc with rfl | hc
      · exact z101
      rcases List.mem_cons.mp hc with rfl | hc
      · exact z119
      cases hc
    cases w with
    | nil => cases eh
    | cons a w =>
      obtain rfl := Option.some.inj eh
      exact qz_cs_no zc
  refine ⟨ql_nz0, K.no D (C' := (0, 0, 0, 0)) ?_⟩
  unfold qz_cmd
  rw [ek]
end QKD
