/-! THE CONSTRUCTORS -/
/-- n objects are made; of their references those of pend are not set yet -/
def k_Pt (n : Int) (pend : List (Int × Int)) (S : gj_S) : Prop := S.1 = n ∧ (∀ z : Int, 0 ≤ z → z < n → S.2.1 z = gj_sh0 z) ∧ ∀ z i : Int, 0 ≤ z → z < n → 0 ≤ i → (z, i) ∉ pend → S.2.2 z i = gj_rf0 z i
def k_mF (F : List Int) (c : Bool) : gj_M := fun z i => if (z ∈ F ∧ 0 ≤ i ∧ i < 8) ∨ (c = true ∧ z = 79 ∧ i = 37) then -1 else 0
theorem k_Pt.put {n : Int} {pend : List (Int × Int)} {S : gj_S} (h : k_Pt n pend S) {z i w : Int} (pend' : List (Int × Int)) (hw : gj_rf0 z i = w) (hp : ∀ q ∈ pend, q = (z, i) ∨ q ∈ pend') : k_Pt n pend' (gj_upS S z i w) := by
  refine ⟨h.1, h.2.1, fun a b h1 h2 h3 h4 => ?_⟩
  show (if a = z ∧ b = i then w else S.2.2 a b) = _
  by_cases e : a = z ∧ b = i
  · rw [if_pos e, e.1, e.2, hw]
  · rw [if_neg e]
    refine h.2.2 a b h1 h2 h3 (fun q => ?_)
    rcases hp _ q with q | q
    · exact e ⟨congrArg Prod.fst q, congrArg Prod.snd q⟩
    · exact h4 q
theorem k_Pt.new {n : Int} {pend : List (Int × Int)} {S : gj_S} (h : k_Pt n pend S) {kd : Nat} {len : Int} (pend' : List (Int × Int)) (hsh : gj_sh0 n = (kd, len)) (hp : ∀ q ∈ pend, q ∈ pend') (hl : (gj_rfl.getD n.toNat []).length ≤ 60) (hr : (List.range 60).all (fun i => decide ((n, (i : Int)) ∈ pend') || decide (gj_rf0 n i = -1)) = true) : k_Pt (n + 1) pend' (gj_nS S kd len) := by
  refine ⟨by show S.1 + 1 = n + 1; rw [h.1], fun z h1 h2 => ?_, fun z i h1 h2 h3 h4 => ?_⟩
  · show (if z = S.1 then (kd, len) else S.2.1 z) = _
    rw [h.1]
    by_cases e : z = n
    · rw [if_pos e, e, hsh]
    · rw [if_neg e]
      exact h.2.1 z h1 (by omega)
  · show (if z = S.1 then -1 else S.2.2 z i) = _
    rw [h.1]
    by_cases e : z = n
    · rw [if_pos e]
      subst e
      by_cases hi : i.toNat < 60
      · have h5 := List.all_eq_true.mp hr i.toNat (List.mem_range.mpr hi)
        rw [Bool.or_eq_true, gj_pN h3] at h5
        rcases h5 with h5 | h5
        · exact absurd (of_decide_eq_true h5) h4
        · exact (of_decide_eq_true h5).symm
      · unfold gj_rf0
        rw [if_pos h3, List.getD_eq_getElem?_getD, List.getElem?_eq_none (by omega)]
        rfl
    · rw [if_neg e]
      exact h.2.2 z i h1 (by omega) h3 (fun q => h4 (hp _ q))
theorem k_Pt.new2 {n : Int} {pend : List (Int × Int)} {S : gj_S} (h : k_Pt n pend S) {a b : Int} (ha : 0 ≤ a) (hsh : gj_sh0 n = (6, a)) (hs2 : ∀ z, n < z → z < n + 1 + a → gj_sh0 z = (0, b)) (hl : ∀ z, n ≤ z → z < n + 1 + a → ∀ i : Int, 0 ≤ i → gj_rf0 z i = if z = n then (if 0 ≤ i ∧ i < a then n + 1 + i else -1) else -1) : k_Pt (n + 1 + a) pend (gj_mS S a b) := by
  refine ⟨by show S.1 + 1 + a = n + 1 + a; rw [h.1], fun z h1 h2 => ?_, fun z i h1 h2 h3 h4 => ?_⟩
  · show (if z = S.1 then (6, a) else if S.1 < z ∧ z < S.1 + 1 + a then (0, b) else S.2.1 z) = _
    rw [h.1]
    by_cases e : z = n
    · rw [if_pos e, e, hsh]
    · rw [if_neg e]
      by_cases e2 : n < z ∧ z < n + 1 + a
      · rw [if_pos e2, hs2 z e2.1 e2.2]
      · rw [if_neg e2]
        exact h.2.1 z h1 (by omega)
  · show (if z = S.1 then (if 0 ≤ i ∧ i < a then S.1 + 1 + i else -1) else if S.1 < z ∧ z < S.1 + 1 + a then -1 else S.2.2 z i) = _
    rw [h.1]
    by_cases e : n ≤ z
    · rw [hl z e h2 i h3]
      by_cases e1 : z = n
      · rw [if_pos e1, if_pos e1]
      · rw [if_neg e1, if_neg e1, if_pos ⟨by omega, h2⟩]
    · rw [if_neg (by omega), if_neg (by omega)]
      exact h.2.2 z i h1 (by omega) h3 h4
theorem k_rfN (z : Int) (l : List Int) (hz : gj_rfl.getD z.toNat [] = l) (i : Int) (hi : 0 ≤ i) : gj_rf0 z i = l.getD i.toNat (-1) := by
  unfold gj_rf0
  rw [if_pos hi, hz]
theorem k_nM {n : Int} {pend : List (Int × Int)} {S : gj_S} (h : k_Pt n pend S) {F : List Int} {c : Bool} (hF : n ∉ F) (h79 : ¬ (c = true ∧ n = 79)) : gj_nM S (k_mF F c) = k_mF F c := by
  funext z i
  unfold gj_nM k_mF
  try dsimp only
  rw [h.1]
  by_cases e : z = n
  · subst e
    rw [if_pos rfl, if_neg]
    rintro (q | q)
    · exact hF q.1
    · exact h79 ⟨q.1, q.2.1⟩
  · rw [if_neg e]
theorem k_mM {n a : Int} {pend : List (Int × Int)} {S : gj_S} (h : k_Pt n pend S) {F : List Int} {c : Bool} (hF : ∀ z ∈ F, z < n) (h79 : 79 < n) : gj_mM S (k_mF F c) a = k_mF F c := by
  funext z i
  unfold gj_mM k_mF
  try dsimp only
  rw [h.1]
  by_cases e : n ≤ z ∧ z < n + 1 + a
  · rw [if_pos e, if_neg]
    rintro (q | q)
    · have := hF z q.1
      omega
    · omega
  · rw [if_neg e]
theorem k_fill {F : List Int} {c : Bool} {z : Int} (hz : z ≠ 79) : f_fill (k_mF F c) z 8 (-1) = k_mF (z :: F) c := by
  funext a b
  unfold f_fill k_mF
  try dsimp only
  by_cases e : a = z ∧ 0 ≤ b ∧ b < 8
  · rw [if_pos e, if_pos (Or.inl ⟨List.mem_cons.mpr (Or.inl e.1), e.2.1, e.2.2⟩)]
  · rw [if_neg e]
    by_cases h : (a ∈ F ∧ 0 ≤ b ∧ b < 8) ∨ (c = true ∧ a = 79 ∧ b = 37)
    · rw [if_pos h, if_pos]
      rcases h with h | h
      · exact Or.inl ⟨List.mem_cons_of_mem _ h.1, h.2⟩
      · exact Or.inr h
    · rw [if_neg h, if_neg]
      rintro (q | q)
      · rcases List.mem_cons.mp q.1 with q1 | q1
        · exact e ⟨q1, q.2⟩
        · exact h (Or.inl ⟨q1, q.2⟩)
      · exact h (Or.inr q)
theorem k_never {F : List Int} (h : 79 ∉ F) : gj_up (k_mF F false) 79 37 (-1) = k_mF F true := by
  funext a b
  unfold gj_up k_mF
  try dsimp only
  by_cases e : a = 79 ∧ b = 37
  · rw [if_pos e, if_pos (Or.inr ⟨rfl, e⟩)]
  · rw [if_neg e]
    by_cases h2 : a ∈ F ∧ 0 ≤ b ∧ b < 8
    · rw [if_pos (Or.inl h2), if_pos (Or.inl h2)]
    · rw [if_neg, if_neg]
      · rintro (q | q)
        · exact h2 q
        · exact e q.2
      · rintro (q | q)
        · exact h2 q
        · exact absurd q.1 (by decide)
section GJK
variable {G : gj_G} {l : Launch} {d mc ms : Nat} {y : MethodName} {cc : ByteArray} {nL : Nat} {ret : Option FieldType} {Q : Option gj_V → gj_S → gj_M → Prop} {k n pc q : Nat} {ls : List (Nat × gj_V)} {st st' : List gj_V} {S : gj_S} {M : gj_M}
theorem k_absS (K : ∀ S', S' = S → gj_W G l d mc ms y cc nL ret Q k n pc ls st S' M) : gj_W G l d mc ms y cc nL ret Q k n pc ls st S M := K S rfl
theorem k_made {z : Int} {pend : List (Int × Int)} (hp : k_Pt z pend S) {kd : Nat} {len : Int} {F : List Int} {c : Bool} (pend' : List (Int × Int)) (hsh : gj_sh0 z = (kd, len)) (hpp : ∀ q ∈ pend, q ∈ pend') (hl : (gj_rfl.getD z.toNat []).length ≤ 60) (hr : (List.range 60).all (fun i => decide ((z, (i : Int)) ∈ pend') || decide (gj_rf0 z i = -1)) = true) (hF : z ∉ F) (h79 : ¬ (c = true ∧ z = 79))
    (K : ∀ S', k_Pt (z + 1) pend' S' → gj_W G l d mc ms y cc nL ret Q k n pc ls (jR z :: st) S' (k_mF F c)) : gj_W G l d mc ms y cc nL ret Q k n pc ls (jR S.1 :: st) (gj_nS S kd len) (gj_nM S (k_mF F c)) := by
  rw [k_nM hp hF h79, hp.1]
  exact K _ (hp.new pend' hsh hpp hl hr)
theorem k_made2 {z : Int} {pend : List (Int × Int)} (hp : k_Pt z pend S) {a b : Int} {F : List Int} {c : Bool} (ha : 0 ≤ a) (hsh : gj_sh0 z = (6, a)) (hs2 : ∀ w, z < w → w < z + 1 + a → gj_sh0 w = (0, b)) (hl : ∀ w, z ≤ w → w < z + 1 + a → ∀ i : Int, 0 ≤ i → gj_rf0 w i = if w = z then (if 0 ≤ i ∧ i < a then z + 1 + i else -1) else -1) (hF : ∀ w ∈ F, w < z) (h79 : 79 < z)
    (K : ∀ S', k_Pt (z + 1 + a) pend S' → gj_W G l d mc ms y cc nL ret Q k n pc ls (jR z :: st) S' (k_mF F c)) : gj_W G l d mc ms y cc nL ret Q k n pc ls (jR S.1 :: st) (gj_mS S a b) (gj_mM S (k_mF F c) a) := by
  rw [k_mM hp hF h79, hp.1]
  exact K _ (hp.new2 ha hsh hs2 hl)

set_option maxHeartbeats 4000000 in
set_option maxRecDepth 20000 in
theorem k_X9_init_1 (hp : k_Pt 2 [(0, 0), (0, 1), (0, 2), (0, 3), (0, 4), (0, 5), (0, 6), (0, 7), (0, 8), (0, 9), (0, 10), (0, 11), (1, 0)] S) : gj_C G l 2 1 500 yX9_init cX9_init 1 none [jR 1] S (k_mF [] false) (gj_qV fun S' M' => k_Pt 3 [(0, 0), (0, 1), (0, 2), (0, 3), (0, 4), (0, 5), (0, 6), (0, 7), (0, 8), (0, 9), (0, 10), (0, 11)] S' ∧ k_mF [] false = M') := by
  refine gj_Cof (by decide +kernel) (Nat.le_of_ble_eq_true rfl) ?_
  refine gj_aload_n (q := 1) (gj_dk okX9_init 0 rfl) rfl rfl ?_
  refine gj_objInit (q := 4) (gj_dk okX9_init 1 rfl) (by decide) ml_X9_3 ki_Obj_init kd_Obj_init ⟨by decide, Nat.le_of_ble_eq_true rfl⟩ rfl ?_
  refine gj_aload_n (q := 5) (gj_dk okX9_init 2 rfl) rfl rfl ?_
  refine gj_sipush (q := 8) (gj_dk okX9_init 3 rfl) (by decide) rfl rfl ?_
  refine gj_newarr (q := 10) (kd := 0) (gj_dk okX9_init 4 rfl) (by decide) rfl ka_int (by decide) (by decide) (by decide) (by decide) rfl ?_
  refine k_made hp [(0, 0), (0, 1), (0, 2), (0, 3), (0, 4), (0, 5), (0, 6), (0, 7), (0, 8), (0, 9), (0, 10), (0, 11), (1, 0)] (by decide) (by decide) (by decide) (by decide) (by decide) (by decide) (fun S1 hp1 => ?_)
  replace hp1 : k_Pt 3 [(0, 0), (0, 1), (0, 2), (0, 3), (0, 4), (0, 5), (0, 6), (0, 7), (0, 8), (0, 9), (0, 10), (0, 11), (1, 0)] S1 := hp1
  refine gj_putR (q := 13) (i := 0) (gj_dk okX9_init 5 rfl) ff_X9_9 (by exact hp1.2.1 1 (by decide) (by decide)) (by decide) rfl rfl (by first | exact Or.inl ⟨_, rfl⟩ | exact Or.inr ⟨_, rfl⟩) rfl ?_
  refine k_absS (fun S2 e2 => ?_)
  have hp2 : k_Pt 3 [(0, 0), (0, 1), (0, 2), (0, 3), (0, 4), (0, 5), (0, 6), (0, 7), (0, 8), (0, 9), (0, 10), (0, 11)] S2 := by rw [e2]; exact hp1.put _ (by decide) (by decide)
  clear e2
  exact gj_vret (gj_dk okX9_init 6 rfl) rfl ⟨rfl, hp2, rfl⟩
set_option maxHeartbeats 4000000 in
set_option maxRecDepth 20000 in
theorem k_X5_init_3 (hp : k_Pt 4 [(0, 1), (0, 2), (0, 3), (0, 4), (0, 5), (0, 6), (0, 7), (0, 8), (0, 9), (0, 10), (0, 11), (3, 10), (3, 11), (3, 12), (3, 13), (3, 14), (3, 15)] S) : gj_C G l 2 6 920 yX5_init cX5_init 1 none [jR 3] S (k_mF [] false) (gj_qV fun S' M' => k_Pt 10 [(0, 1), (0, 2), (0, 3), (0, 4), (0, 5), (0, 6), (0, 7), (0, 8), (0, 9), (0, 10), (0, 11)] S' ∧ k_mF [] false = M') := by
  refine gj_Cof (by decide +kernel) (Nat.le_of_ble_eq_true rfl) ?_
  refine gj_aload_n (q := 1) (gj_dk okX5_init 0 rfl) rfl rfl ?_
  refine gj_objInit (q := 4) (gj_dk okX5_init 1 rfl) (by decide) ml_X5_3 ki_Obj_init kd_Obj_init ⟨by decide, Nat.le_of_ble_eq_true rfl⟩ rfl ?_
  refine gj_aload_n (q := 5) (gj_dk okX5_init 2 rfl) rfl rfl ?_
  refine gj_bipush (q := 7) (gj_dk okX5_init 3 rfl) (by decide) rfl rfl ?_
  refine gj_newarr (q := 9) (kd := 0) (gj_dk okX5_init 4 rfl) (by decide) rfl ka_int (by decide) (by decide) (by decide) (by decide) rfl ?_
  refine k_made hp [(0, 1), (0, 2), (0, 3), (0, 4), (0, 5), (0, 6), (0, 7), (0, 8), (0, 9), (0, 10), (0, 11), (3, 10), (3, 11), (3, 12), (3, 13), (3, 14), (3, 15)] (by decide) (by decide) (by decide) (by decide) (by decide) (by decide) (fun S1 hp1 => ?_)
  replace hp1 : k_Pt 5 [(0, 1), (0, 2), (0, 3), (0, 4), (0, 5), (0, 6), (0, 7), (0, 8), (0, 9), (0, 10), (0, 11), (3, 10), (3, 11), (3, 12), (3, 13), (3, 14), (3, 15)] S1 := hp1
  refine gj_putR (q := 12) (i := 10) (gj_dk okX5_init 5 rfl) ff_X5_9 (by exact hp1.2.1 3 (by decide) (by decide)) (by decide) rfl rfl (by first | exact Or.inl ⟨_, rfl⟩ | exact Or.inr ⟨_, rfl⟩) rfl ?_
  refine k_absS (fun S2 e2 => ?_)
  have hp2 : k_Pt 5 [(0, 1), (0, 2), (0, 3), (0, 4), (0, 5), (0, 6), (0, 7), (0, 8), (0, 9), (0, 10), (0, 11), (3, 11), (3, 12), (3, 13), (3, 14), (3, 15)] S2 := by rw [e2]; exact hp1.put _ (by decide) (by decide)
  clear e2
  refine gj_aload_n (q := 13) (gj_dk okX5_init 6 rfl) rfl rfl ?_
  refine gj_bipush (q := 15) (gj_dk okX5_init 7 rfl) (by decide) rfl rfl ?_
  refine gj_newarr (q := 17) (kd := 0) (gj_dk okX5_init 8 rfl) (by decide) rfl ka_int (by decide) (by decide) (by decide) (by decide) rfl ?_
  refine k_made hp2 [(0, 1), (0, 2), (0, 3), (0, 4), (0, 5), (0, 6), (0, 7), (0, 8), (0, 9), (0, 10), (0, 11), (3, 11), (3, 12), (3, 13), (3, 14), (3, 15)] (by decide) (by decide) (by decide) (by decide) (by decide) (by decide) (fun S3 hp3 => ?_)
  replace hp3 : k_Pt 6 [(0, 1), (0, 2), (0, 3), (0, 4), (0, 5), (0, 6), (0, 7), (0, 8), (0, 9), (0, 10), (0, 11), (3, 11), (3, 12), (3, 13), (3, 14), (3, 15)] S3 := hp3
  refine gj_putR (q := 20) (i := 11) (gj_dk okX5_init 9 rfl) ff_X5_15 (by exact hp3.2.1 3 (by decide) (by decide)) (by decide) rfl rfl (by first | exact Or.inl ⟨_, rfl⟩ | exact Or.inr ⟨_, rfl⟩) rfl ?_
  refine k_absS (fun S4 e4 => ?_)
  have hp4 : k_Pt 6 [(0, 1), (0, 2), (0, 3), (0, 4), (0, 5), (0, 6), (0, 7), (0, 8), (0, 9), (0, 10), (0, 11), (3, 12), (3, 13), (3, 14), (3, 15)] S4 := by rw [e4]; exact hp3.put _ (by decide) (by decide)
  clear e4
  refine gj_aload_n (q := 21) (gj_dk okX5_init 10 rfl) rfl rfl ?_
  refine gj_bipush (q := 23) (gj_dk okX5_init 11 rfl) (by decide) rfl rfl ?_
  refine gj_newarr (q := 25) (kd := 0) (gj_dk okX5_init 12 rfl) (by decide) rfl ka_int (by decide) (by decide) (by decide) (by decide) rfl ?_
  refine k_made hp4 [(0, 1), (0, 2), (0, 3), (0, 4), (0, 5), (0, 6), (0, 7), (0, 8), (0, 9), (0, 10), (0, 11), (3, 12), (3, 13), (3, 14), (3, 15)] (by decide) (by decide) (by decide) (by decide) (by decide) (by decide) (fun S5 hp5 => ?_)
  replace hp5 : k_Pt 7 [(0, 1), (0, 2), (0, 3), (0, 4), (0, 5), (0, 6), (0, 7), (0, 8), (0, 9), (0, 10), (0, 11), (3, 12), (3, 13), (3, 14), (3, 15)] S5 := hp5
  refine gj_putR (q := 28) (i := 12) (gj_dk okX5_init 13 rfl) ff_X5_18 (by exact hp5.2.1 3 (by decide) (by decide)) (by decide) rfl rfl (by first | exact Or.inl ⟨_, rfl⟩ | exact Or.inr ⟨_, rfl⟩) rfl ?_
  refine k_absS (fun S6 e6 => ?_)
  have hp6 : k_Pt 7 [(0, 1), (0, 2), (0, 3), (0, 4), (0, 5), (0, 6), (0, 7), (0, 8), (0, 9), (0, 10), (0, 11), (3, 13), (3, 14), (3, 15)] S6 := by rw [e6]; exact hp5.put _ (by decide) (by decide)
  clear e6
  refine gj_aload_n (q := 29) (gj_dk okX5_init 14 rfl) rfl rfl ?_
  refine gj_bipush (q := 31) (gj_dk okX5_init 15 rfl) (by decide) rfl rfl ?_
  refine gj_newarr (q := 33) (kd := 0) (gj_dk okX5_init 16 rfl) (by decide) rfl ka_int (by decide) (by decide) (by decide) (by decide) rfl ?_
  refine k_made hp6 [(0, 1), (0, 2), (0, 3), (0, 4), (0, 5), (0, 6), (0, 7), (0, 8), (0, 9), (0, 10), (0, 11), (3, 13), (3, 14), (3, 15)] (by decide) (by decide) (by decide) (by decide) (by decide) (by decide) (fun S7 hp7 => ?_)
  replace hp7 : k_Pt 8 [(0, 1), (0, 2), (0, 3), (0, 4), (0, 5), (0, 6), (0, 7), (0, 8), (0, 9), (0, 10), (0, 11), (3, 13), (3, 14), (3, 15)] S7 := hp7
  refine gj_putR (q := 36) (i := 13) (gj_dk okX5_init 17 rfl) ff_X5_21 (by exact hp7.2.1 3 (by decide) (by decide)) (by decide) rfl rfl (by first | exact Or.inl ⟨_, rfl⟩ | exact Or.inr ⟨_, rfl⟩) rfl ?_
  refine k_absS (fun S8 e8 => ?_)
  have hp8 : k_Pt 8 [(0, 1), (0, 2), (0, 3), (0, 4), (0, 5), (0, 6), (0, 7), (0, 8), (0, 9), (0, 10), (0, 11), (3, 14), (3, 15)] S8 := by rw [e8]; exact hp7.put _ (by decide) (by decide)
  clear e8
  refine gj_aload_n (q := 37) (gj_dk okX5_init 18 rfl) rfl rfl ?_
  refine gj_bipush (q := 39) (gj_dk okX5_init 19 rfl) (by decide) rfl rfl ?_
  refine gj_newarr (q := 41) (kd := 0) (gj_dk okX5_init 20 rfl) (by decide) rfl ka_int (by decide) (by decide) (by decide) (by decide) rfl ?_
  refine k_made hp8 [(0, 1), (0, 2), (0, 3), (0, 4), (0, 5), (0, 6), (0, 7), (0, 8), (0, 9), (0, 10), (0, 11), (3, 14), (3, 15)] (by decide) (by decide) (by decide) (by decide) (by decide) (by decide) (fun S9 hp9 => ?_)
  replace hp9 : k_Pt 9 [(0, 1), (0, 2), (0, 3), (0, 4), (0, 5), (0, 6), (0, 7), (0, 8), (0, 9), (0, 10), (0, 11), (3, 14), (3, 15)] S9 := hp9
  refine gj_putR (q := 44) (i := 14) (gj_dk okX5_init 21 rfl) ff_X5_24 (by exact hp9.2.1 3 (by decide) (by decide)) (by decide) rfl rfl (by first | exact Or.inl ⟨_, rfl⟩ | exact Or.inr ⟨_, rfl⟩) rfl ?_
  refine k_absS (fun S10 e10 => ?_)
  have hp10 : k_Pt 9 [(0, 1), (0, 2), (0, 3), (0, 4), (0, 5), (0, 6), (0, 7), (0, 8), (0, 9), (0, 10), (0, 11), (3, 15)] S10 := by rw [e10]; exact hp9.put _ (by decide) (by decide)
  clear e10
  refine gj_aload_n (q := 45) (gj_dk okX5_init 22 rfl) rfl rfl ?_
  refine gj_sipush (q := 48) (gj_dk okX5_init 23 rfl) (by decide) rfl rfl ?_
  refine gj_newarr (q := 50) (kd := 0) (gj_dk okX5_init 24 rfl) (by decide) rfl ka_int (by decide) (by decide) (by decide) (by decide) rfl ?_
  refine k_made hp10 [(0, 1), (0, 2), (0, 3), (0, 4), (0, 5), (0, 6), (0, 7), (0, 8), (0, 9), (0, 10), (0, 11), (3, 15)] (by decide) (by decide) (by decide) (by decide) (by decide) (by decide) (fun S11 hp11 => ?_)
  replace hp11 : k_Pt 10 [(0, 1), (0, 2), (0, 3), (0, 4), (0, 5), (0, 6), (0, 7), (0, 8), (0, 9), (0, 10), (0, 11), (3, 15)] S11 := hp11
  refine gj_putR (q := 53) (i := 15) (gj_dk okX5_init 25 rfl) ff_X5_27 (by exact hp11.2.1 3 (by decide) (by decide)) (by decide) rfl rfl (by first | exact Or.inl ⟨_, rfl⟩ | exact Or.inr ⟨_, rfl⟩) rfl ?_
  refine k_absS (fun S12 e12 => ?_)
  have hp12 : k_Pt 10 [(0, 1), (0, 2), (0, 3), (0, 4), (0, 5), (0, 6), (0, 7), (0, 8), (0, 9), (0, 10), (0, 11)] S12 := by rw [e12]; exact hp11.put _ (by decide) (by decide)
  clear e12
  exact gj_vret (gj_dk okX5_init 26 rfl) rfl ⟨rfl, hp12, rfl⟩
set_option maxHeartbeats 4000000 in
set_option maxRecDepth 20000 in
theorem k_X6_init_10 (hp : k_Pt 11 [(0, 2), (0, 3), (0, 4), (0, 5), (0, 6), (0, 7), (0, 8), (0, 9), (0, 10), (0, 11), (10, 0), (10, 1), (10, 2), (10, 3), (10, 4)] S) : gj_C G l 2 3 56 yX6_init cX6_init 3 none [jR 10, jR 1, jR 3] S (k_mF [] false) (gj_qV fun S' M' => k_Pt 14 [(0, 2), (0, 3), (0, 4), (0, 5), (0, 6), (0, 7), (0, 8), (0, 9), (0, 10), (0, 11)] S' ∧ k_mF [] false = M') := by
  refine gj_Cof (by decide +kernel) (Nat.le_of_ble_eq_true rfl) ?_
  refine gj_aload_n (q := 1) (gj_dk okX6_init 0 rfl) rfl rfl ?_
  refine gj_objInit (q := 4) (gj_dk okX6_init 1 rfl) (by decide) ml_X6_3 ki_Obj_init kd_Obj_init ⟨by decide, Nat.le_of_ble_eq_true rfl⟩ rfl ?_
  refine gj_aload_n (q := 5) (gj_dk okX6_init 2 rfl) rfl rfl ?_
  refine gj_bipush (q := 7) (gj_dk okX6_init 3 rfl) (by decide) rfl rfl ?_
  refine gj_newarr (q := 9) (kd := 1) (gj_dk okX6_init 4 rfl) (by decide) rfl ka_long (by decide) (by decide) (by decide) (by decide) rfl ?_
  refine k_made hp [(0, 2), (0, 3), (0, 4), (0, 5), (0, 6), (0, 7), (0, 8), (0, 9), (0, 10), (0, 11), (10, 0), (10, 1), (10, 2), (10, 3), (10, 4)] (by decide) (by decide) (by decide) (by decide) (by decide) (by decide) (fun S1 hp1 => ?_)
  replace hp1 : k_Pt 12 [(0, 2), (0, 3), (0, 4), (0, 5), (0, 6), (0, 7), (0, 8), (0, 9), (0, 10), (0, 11), (10, 0), (10, 1), (10, 2), (10, 3), (10, 4)] S1 := hp1
  refine gj_putR (q := 12) (i := 2) (gj_dk okX6_init 5 rfl) ff_X6_9 (by exact hp1.2.1 10 (by decide) (by decide)) (by decide) rfl rfl (by first | exact Or.inl ⟨_, rfl⟩ | exact Or.inr ⟨_, rfl⟩) rfl ?_
  refine k_absS (fun S2 e2 => ?_)
  have hp2 : k_Pt 12 [(0, 2), (0, 3), (0, 4), (0, 5), (0, 6), (0, 7), (0, 8), (0, 9), (0, 10), (0, 11), (10, 0), (10, 1), (10, 3), (10, 4)] S2 := by rw [e2]; exact hp1.put _ (by decide) (by decide)
  clear e2
  refine gj_aload_n (q := 13) (gj_dk okX6_init 6 rfl) rfl rfl ?_
  refine gj_bipush (q := 15) (gj_dk okX6_init 7 rfl) (by decide) rfl rfl ?_
  refine gj_newarr (q := 17) (kd := 3) (gj_dk okX6_init 8 rfl) (by decide) rfl ka_boolean (by decide) (by decide) (by decide) (by decide) rfl ?_
  refine k_made hp2 [(0, 2), (0, 3), (0, 4), (0, 5), (0, 6), (0, 7), (0, 8), (0, 9), (0, 10), (0, 11), (10, 0), (10, 1), (10, 3), (10, 4)] (by decide) (by decide) (by decide) (by decide) (by decide) (by decide) (fun S3 hp3 => ?_)
  replace hp3 : k_Pt 13 [(0, 2), (0, 3), (0, 4), (0, 5), (0, 6), (0, 7), (0, 8), (0, 9), (0, 10), (0, 11), (10, 0), (10, 1), (10, 3), (10, 4)] S3 := hp3
  refine gj_putR (q := 20) (i := 3) (gj_dk okX6_init 9 rfl) ff_X6_15 (by exact hp3.2.1 10 (by decide) (by decide)) (by decide) rfl rfl (by first | exact Or.inl ⟨_, rfl⟩ | exact Or.inr ⟨_, rfl⟩) rfl ?_
  refine k_absS (fun S4 e4 => ?_)
  have hp4 : k_Pt 13 [(0, 2), (0, 3), (0, 4), (0, 5), (0, 6), (0, 7), (0, 8), (0, 9), (0, 10), (0, 11), (10, 0), (10, 1), (10, 4)] S4 := by rw [e4]; exact hp3.put _ (by decide) (by decide)
  clear e4
  refine gj_aload_n (q := 21) (gj_dk okX6_init 10 rfl) rfl rfl ?_
  refine gj_bipush (q := 23) (gj_dk okX6_init 11 rfl) (by decide) rfl rfl ?_
  refine gj_newarr (q := 25) (kd := 3) (gj_dk okX6_init 12 rfl) (by decide) rfl ka_boolean (by decide) (by decide) (by decide) (by decide) rfl ?_
  refine k_made hp4 [(0, 2), (0, 3), (0, 4), (0, 5), (0, 6), (0, 7), (0, 8), (0, 9), (0, 10), (0, 11), (10, 0), (10, 1), (10, 4)] (by decide) (by decide) (by decide) (by decide) (by decide) (by decide) (fun S5 hp5 => ?_)
  replace hp5 : k_Pt 14 [(0, 2), (0, 3), (0, 4), (0, 5), (0, 6), (0, 7), (0, 8), (0, 9), (0, 10), (0, 11), (10, 0), (10, 1), (10, 4)] S5 := hp5
  refine gj_putR (q := 28) (i := 4) (gj_dk okX6_init 13 rfl) ff_X6_19 (by exact hp5.2.1 10 (by decide) (by decide)) (by decide) rfl rfl (by first | exact Or.inl ⟨_, rfl⟩ | exact Or.inr ⟨_, rfl⟩) rfl ?_
  refine k_absS (fun S6 e6 => ?_)
  have hp6 : k_Pt 14 [(0, 2), (0, 3), (0, 4), (0, 5), (0, 6), (0, 7), (0, 8), (0, 9), (0, 10), (0, 11), (10, 0), (10, 1)] S6 := by rw [e6]; exact hp5.put _ (by decide) (by decide)
  clear e6
  refine gj_aload_n (q := 29) (gj_dk okX6_init 14 rfl) rfl rfl ?_
  refine gj_aload_n (q := 30) (gj_dk okX6_init 15 rfl) rfl rfl ?_
  refine gj_putR (q := 33) (i := 0) (gj_dk okX6_init 16 rfl) ff_X6_22 (by exact hp6.2.1 10 (by decide) (by decide)) (by decide) rfl rfl (by first | exact Or.inl ⟨_, rfl⟩ | exact Or.inr ⟨_, rfl⟩) rfl ?_
  refine k_absS (fun S7 e7 => ?_)
  have hp7 : k_Pt 14 [(0, 2), (0, 3), (0, 4), (0, 5), (0, 6), (0, 7), (0, 8), (0, 9), (0, 10), (0, 11), (10, 1)] S7 := by rw [e7]; exact hp6.put _ (by decide) (by decide)
  clear e7
  refine gj_aload_n (q := 34) (gj_dk okX6_init 17 rfl) rfl rfl ?_
  refine gj_aload_n (q := 35) (gj_dk okX6_init 18 rfl) rfl rfl ?_
  refine gj_putR (q := 38) (i := 1) (gj_dk okX6_init 19 rfl) ff_X6_26 (by exact hp7.2.1 10 (by decide) (by decide)) (by decide) rfl rfl (by first | exact Or.inl ⟨_, rfl⟩ | exact Or.inr ⟨_, rfl⟩) rfl ?_
  refine k_absS (fun S8 e8 => ?_)
  have hp8 : k_Pt 14 [(0, 2), (0, 3), (0, 4), (0, 5), (0, 6), (0, 7), (0, 8), (0, 9), (0, 10), (0, 11)] S8 := by rw [e8]; exact hp7.put _ (by decide) (by decide)
  clear e8
  exact gj_vret (gj_dk okX6_init 20 rfl) rfl ⟨rfl, hp8, rfl⟩
set_option maxHeartbeats 4000000 in
set_option maxRecDepth 20000 in
theorem k_X5_init_14 (hp : k_Pt 15 [(0, 3), (0, 4), (0, 5), (0, 6), (0, 7), (0, 8), (0, 9), (0, 10), (0, 11), (14, 10), (14, 11), (14, 12), (14, 13), (14, 14), (14, 15)] S) : gj_C G l 2 6 920 yX5_init cX5_init 1 none [jR 14] S (k_mF [] false) (gj_qV fun S' M' => k_Pt 21 [(0, 3), (0, 4), (0, 5), (0, 6), (0, 7), (0, 8), (0, 9), (0, 10), (0, 11)] S' ∧ k_mF [] false = M') := by
  refine gj_Cof (by decide +kernel) (Nat.le_of_ble_eq_true rfl) ?_
  refine gj_aload_n (q := 1) (gj_dk okX5_init 0 rfl) rfl rfl ?_
  refine gj_objInit (q := 4) (gj_dk okX5_init 1 rfl) (by decide) ml_X5_3 ki_Obj_init kd_Obj_init ⟨by decide, Nat.le_of_ble_eq_true rfl⟩ rfl ?_
  refine gj_aload_n (q := 5) (gj_dk okX5_init 2 rfl) rfl rfl ?_
  refine gj_bipush (q := 7) (gj_dk okX5_init 3 rfl) (by decide) rfl rfl ?_
  refine gj_newarr (q := 9) (kd := 0) (gj_dk okX5_init 4 rfl) (by decide) rfl ka_int (by decide) (by decide) (by decide) (by decide) rfl ?_
  refine k_made hp [(0, 3), (0, 4), (0, 5), (0, 6), (0, 7), (0, 8), (0, 9), (0, 10), (0, 11), (14, 10), (14, 11), (14, 12), (14, 13), (14, 14), (14, 15)] (by decide) (by decide) (by decide) (by decide) (by decide) (by decide) (fun S1 hp1 => ?_)
  replace hp1 : k_Pt 16 [(0, 3), (0, 4), (0, 5), (0, 6), (0, 7), (0, 8), (0, 9), (0, 10), (0, 11), (14, 10), (14, 11), (14, 12), (14, 13), (14, 14), (14, 15)] S1 := hp1
  refine gj_putR (q := 12) (i := 10) (gj_dk okX5_init 5 rfl) ff_X5_9 (by exact hp1.2.1 14 (by decide) (by decide)) (by decide) rfl rfl (by first | exact Or.inl ⟨_, rfl⟩ | exact Or.inr ⟨_, rfl⟩) rfl ?_
  refine k_absS (fun S2 e2 => ?_)
  have hp2 : k_Pt 16 [(0, 3), (0, 4), (0, 5), (0, 6), (0, 7), (0, 8), (0, 9), (0, 10), (0, 11), (14, 11), (14, 12), (14, 13), (14, 14), (14, 15)] S2 := by rw [e2]; exact hp1.put _ (by decide) (by decide)
  clear e2
  refine gj_aload_n (q := 13) (gj_dk okX5_init 6 rfl) rfl rfl ?_
  refine gj_bipush (q := 15) (gj_dk okX5_init 7 rfl) (by decide) rfl rfl ?_
  refine gj_newarr (q := 17) (kd := 0) (gj_dk okX5_init 8 rfl) (by decide) rfl ka_int (by decide) (by decide) (by decide) (by decide) rfl ?_
  refine k_made hp2 [(0, 3), (0, 4), (0, 5), (0, 6), (0, 7), (0, 8), (0, 9), (0, 10), (0, 11), (14, 11), (14, 12), (14, 13), (14, 14), (14, 15)] (by decide) (by decide) (by decide) (by decide) (by decide) (by decide) (fun S3 hp3 => ?_)
  replace hp3 : k_Pt 17 [(0, 3), (0, 4), (0, 5), (0, 6), (0, 7), (0, 8), (0, 9), (0, 10), (0, 11), (14, 11), (14, 12), (14, 13), (14, 14), (14, 15)] S3 := hp3
  refine gj_putR (q := 20) (i := 11) (gj_dk okX5_init 9 rfl) ff_X5_15 (by exact hp3.2.1 14 (by decide) (by decide)) (by decide) rfl rfl (by first | exact Or.inl ⟨_, rfl⟩ | exact Or.inr ⟨_, rfl⟩) rfl ?_
  refine k_absS (fun S4 e4 => ?_)
  have hp4 : k_Pt 17 [(0, 3), (0, 4), (0, 5), (0, 6), (0, 7), (0, 8), (0, 9), (0, 10), (0, 11), (14, 12), (14, 13), (14, 14), (14, 15)] S4 := by rw [e4]; exact hp3.put _ (by decide) (by decide)
  clear e4
  refine gj_aload_n (q := 21) (gj_dk okX5_init 10 rfl) rfl rfl ?_
  refine gj_bipush (q := 23) (gj_dk okX5_init 11 rfl) (by decide) rfl rfl ?_
  refine gj_newarr (q := 25) (kd := 0) (gj_dk okX5_init 12 rfl) (by decide) rfl ka_int (by decide) (by decide) (by decide) (by decide) rfl ?_
  refine k_made hp4 [(0, 3), (0, 4), (0, 5), (0, 6), (0, 7), (0, 8), (0, 9), (0, 10), (0, 11), (14, 12), (14, 13), (14, 14), (14, 15)] (by decide) (by decide) (by decide) (by decide) (by decide) (by decide) (fun S5 hp5 => ?_)
  replace hp5 : k_Pt 18 [(0, 3), (0, 4), (0, 5), (0, 6), (0, 7), (0, 8), (0, 9), (0, 10), (0, 11), (14, 12), (14, 13), (14, 14), (14, 15)] S5 := hp5
  refine gj_putR (q := 28) (i := 12) (gj_dk okX5_init 13 rfl) ff_X5_18 (by exact hp5.2.1 14 (by decide) (by decide)) (by decide) rfl rfl (by first | exact Or.inl ⟨_, rfl⟩ | exact Or.inr ⟨_, rfl⟩) rfl ?_
  refine k_absS (fun S6 e6 => ?_)
  have hp6 : k_Pt 18 [(0, 3), (0, 4), (0, 5), (0, 6), (0, 7), (0, 8), (0, 9), (0, 10), (0, 11), (14, 13), (14, 14), (14, 15)] S6 := by rw [e6]; exact hp5.put _ (by decide) (by decide)
  clear e6
  refine gj_aload_n (q := 29) (gj_dk okX5_init 14 rfl) rfl rfl ?_
  refine gj_bipush (q := 31) (gj_dk okX5_init 15 rfl) (by decide) rfl rfl ?_
  refine gj_newarr (q := 33) (kd := 0) (gj_dk okX5_init 16 rfl) (by decide) rfl ka_int (by decide) (by decide) (by decide) (by decide) rfl ?_
  refine k_made hp6 [(0, 3), (0, 4), (0, 5), (0, 6), (0, 7), (0, 8), (0, 9), (0, 10), (0, 11), (14, 13), (14, 14), (14, 15)] (by decide) (by decide) (by decide) (by decide) (by decide) (by decide) (fun S7 hp7 => ?_)
  replace hp7 : k_Pt 19 [(0, 3), (0, 4), (0, 5), (0, 6), (0, 7), (0, 8), (0, 9), (0, 10), (0, 11), (14, 13), (14, 14), (14, 15)] S7 := hp7
  refine gj_putR (q := 36) (i := 13) (gj_dk okX5_init 17 rfl) ff_X5_21 (by exact hp7.2.1 14 (by decide) (by decide)) (by decide) rfl rfl (by first | exact Or.inl ⟨_, rfl⟩ | exact Or.inr ⟨_, rfl⟩) rfl ?_
  refine k_absS (fun S8 e8 => ?_)
  have hp8 : k_Pt 19 [(0, 3), (0, 4), (0, 5), (0, 6), (0, 7), (0, 8), (0, 9), (0, 10), (0, 11), (14, 14), (14, 15)] S8 := by rw [e8]; exact hp7.put _ (by decide) (by decide)
  clear e8
  refine gj_aload_n (q := 37) (gj_dk okX5_init 18 rfl) rfl rfl ?_
  refine gj_bipush (q := 39) (gj_dk okX5_init 19 rfl) (by decide) rfl rfl ?_
  refine gj_newarr (q := 41) (kd := 0) (gj_dk okX5_init 20 rfl) (by decide) rfl ka_int (by decide) (by decide) (by decide) (by decide) rfl ?_
  refine k_made hp8 [(0, 3), (0, 4), (0, 5), (0, 6), (0, 7), (0, 8), (0, 9), (0, 10), (0, 11), (14, 14), (14, 15)] (by decide) (by decide) (by decide) (by decide) (by decide) (by decide) (fun S9 hp9 => ?_)
  replace hp9 : k_Pt 20 [(0, 3), (0, 4), (0, 5), (0, 6), (0, 7), (0, 8), (0, 9), (0, 10), (0, 11), (14, 14), (14, 15)] S9 := hp9
  refine gj_putR (q := 44) (i := 14) (gj_dk okX5_init 21 rfl) ff_X5_24 (by exact hp9.2.1 14 (by decide) (by decide)) (by decide) rfl rfl (by first | exact Or.inl ⟨_, rfl⟩ | exact Or.inr ⟨_, rfl⟩) rfl ?_
  refine k_absS (fun S10 e10 => ?_)
  have hp10 : k_Pt 20 [(0, 3), (0, 4), (0, 5), (0, 6), (0, 7), (0, 8), (0, 9), (0, 10), (0, 11), (14, 15)] S10 := by rw [e10]; exact hp9.put _ (by decide) (by decide)
  clear e10
  refine gj_aload_n (q := 45) (gj_dk okX5_init 22 rfl) rfl rfl ?_
  refine gj_sipush (q := 48) (gj_dk okX5_init 23 rfl) (by decide) rfl rfl ?_
  refine gj_newarr (q := 50) (kd := 0) (gj_dk okX5_init 24 rfl) (by decide) rfl ka_int (by decide) (by decide) (by decide) (by decide) rfl ?_
  refine k_made hp10 [(0, 3), (0, 4), (0, 5), (0, 6), (0, 7), (0, 8), (0, 9), (0, 10), (0, 11), (14, 15)] (by decide) (by decide) (by decide) (by decide) (by decide) (by decide) (fun S11 hp11 => ?_)
  replace hp11 : k_Pt 21 [(0, 3), (0, 4), (0, 5), (0, 6), (0, 7), (0, 8), (0, 9), (0, 10), (0, 11), (14, 15)] S11 := hp11
  refine gj_putR (q := 53) (i := 15) (gj_dk okX5_init 25 rfl) ff_X5_27 (by exact hp11.2.1 14 (by decide) (by decide)) (by decide) rfl rfl (by first | exact Or.inl ⟨_, rfl⟩ | exact Or.inr ⟨_, rfl⟩) rfl ?_
  refine k_absS (fun S12 e12 => ?_)
  have hp12 : k_Pt 21 [(0, 3), (0, 4), (0, 5), (0, 6), (0, 7), (0, 8), (0, 9), (0, 10), (0, 11)] S12 := by rw [e12]; exact hp11.put _ (by decide) (by decide)
  clear e12
  exact gj_vret (gj_dk okX5_init 26 rfl) rfl ⟨rfl, hp12, rfl⟩
set_option maxHeartbeats 4000000 in
set_option maxRecDepth 20000 in
theorem k_X1_init_29 (hp : k_Pt 30 [(0, 4), (0, 5), (0, 6), (0, 7), (0, 8), (0, 9), (0, 10), (0, 11), (21, 10), (29, 0)] S) : gj_C G l 2 1 200 yX1_init cX1_init 1 none [jR 29] S (k_mF [] false) (gj_qV fun S' M' => k_Pt 31 [(0, 4), (0, 5), (0, 6), (0, 7), (0, 8), (0, 9), (0, 10), (0, 11), (21, 10)] S' ∧ k_mF [] false = M') := by
  refine gj_Cof (by decide +kernel) (Nat.le_of_ble_eq_true rfl) ?_
  refine gj_aload_n (q := 1) (gj_dk okX1_init 0 rfl) rfl rfl ?_
  refine gj_objInit (q := 4) (gj_dk okX1_init 1 rfl) (by decide) ml_X1_3 ki_Obj_init kd_Obj_init ⟨by decide, Nat.le_of_ble_eq_true rfl⟩ rfl ?_
  refine gj_aload_n (q := 5) (gj_dk okX1_init 2 rfl) rfl rfl ?_
  refine gj_sipush (q := 8) (gj_dk okX1_init 3 rfl) (by decide) rfl rfl ?_
  refine gj_newarr (q := 10) (kd := 0) (gj_dk okX1_init 4 rfl) (by decide) rfl ka_int (by decide) (by decide) (by decide) (by decide) rfl ?_
  refine k_made hp [(0, 4), (0, 5), (0, 6), (0, 7), (0, 8), (0, 9), (0, 10), (0, 11), (21, 10), (29, 0)] (by decide) (by decide) (by decide) (by decide) (by decide) (by decide) (fun S1 hp1 => ?_)
  replace hp1 : k_Pt 31 [(0, 4), (0, 5), (0, 6), (0, 7), (0, 8), (0, 9), (0, 10), (0, 11), (21, 10), (29, 0)] S1 := hp1
  refine gj_putR (q := 13) (i := 0) (gj_dk okX1_init 5 rfl) ff_X1_11 (by exact hp1.2.1 29 (by decide) (by decide)) (by decide) rfl rfl (by first | exact Or.inl ⟨_, rfl⟩ | exact Or.inr ⟨_, rfl⟩) rfl ?_
  refine k_absS (fun S2 e2 => ?_)
  have hp2 : k_Pt 31 [(0, 4), (0, 5), (0, 6), (0, 7), (0, 8), (0, 9), (0, 10), (0, 11), (21, 10)] S2 := by rw [e2]; exact hp1.put _ (by decide) (by decide)
  clear e2
  exact gj_vret (gj_dk okX1_init 6 rfl) rfl ⟨rfl, hp2, rfl⟩
set_option maxHeartbeats 4000000 in
set_option maxRecDepth 20000 in
theorem k_X3_init_21 (hp : k_Pt 22 [(0, 4), (0, 5), (0, 6), (0, 7), (0, 8), (0, 9), (0, 10), (0, 11), (21, 3), (21, 4), (21, 5), (21, 6), (21, 7), (21, 8), (21, 9), (21, 10)] S) : gj_C G l 3 9 283 yX3_init cX3_init 1 none [jR 21] S (k_mF [] false) (gj_qV fun S' M' => k_Pt 31 [(0, 4), (0, 5), (0, 6), (0, 7), (0, 8), (0, 9), (0, 10), (0, 11)] S' ∧ k_mF [22] false = M') := by
  refine gj_Cof (by decide +kernel) (Nat.le_of_ble_eq_true rfl) ?_
  refine gj_aload_n (q := 1) (gj_dk okX3_init 0 rfl) rfl rfl ?_
  refine gj_objInit (q := 4) (gj_dk okX3_init 1 rfl) (by decide) ml_X3_3 ki_Obj_init kd_Obj_init ⟨by decide, Nat.le_of_ble_eq_true rfl⟩ rfl ?_
  refine gj_aload_n (q := 5) (gj_dk okX3_init 2 rfl) rfl rfl ?_
  refine gj_bipush (q := 7) (gj_dk okX3_init 3 rfl) (by decide) rfl rfl ?_
  refine gj_newarr (q := 9) (kd := 0) (gj_dk okX3_init 4 rfl) (by decide) rfl ka_int (by decide) (by decide) (by decide) (by decide) rfl ?_
  refine k_made hp [(0, 4), (0, 5), (0, 6), (0, 7), (0, 8), (0, 9), (0, 10), (0, 11), (21, 3), (21, 4), (21, 5), (21, 6), (21, 7), (21, 8), (21, 9), (21, 10)] (by decide) (by decide) (by decide) (by decide) (by decide) (by decide) (fun S1 hp1 => ?_)
  replace hp1 : k_Pt 23 [(0, 4), (0, 5), (0, 6), (0, 7), (0, 8), (0, 9), (0, 10), (0, 11), (21, 3), (21, 4), (21, 5), (21, 6), (21, 7), (21, 8), (21, 9), (21, 10)] S1 := hp1
  refine gj_putR (q := 12) (i := 3) (gj_dk okX3_init 5 rfl) ff_X3_9 (by exact hp1.2.1 21 (by decide) (by decide)) (by decide) rfl rfl (by first | exact Or.inl ⟨_, rfl⟩ | exact Or.inr ⟨_, rfl⟩) rfl ?_
  refine k_absS (fun S2 e2 => ?_)
  have hp2 : k_Pt 23 [(0, 4), (0, 5), (0, 6), (0, 7), (0, 8), (0, 9), (0, 10), (0, 11), (21, 4), (21, 5), (21, 6), (21, 7), (21, 8), (21, 9), (21, 10)] S2 := by rw [e2]; exact hp1.put _ (by decide) (by decide)
  clear e2
  refine gj_aload_n (q := 13) (gj_dk okX3_init 6 rfl) rfl rfl ?_
  refine gj_bipush (q := 15) (gj_dk okX3_init 7 rfl) (by decide) rfl rfl ?_
  refine gj_newarr (q := 17) (kd := 0) (gj_dk okX3_init 8 rfl) (by decide) rfl ka_int (by decide) (by decide) (by decide) (by decide) rfl ?_
  refine k_made hp2 [(0, 4), (0, 5), (0, 6), (0, 7), (0, 8), (0, 9), (0, 10), (0, 11), (21, 4), (21, 5), (21, 6), (21, 7), (21, 8), (21, 9), (21, 10)] (by decide) (by decide) (by decide) (by decide) (by decide) (by decide) (fun S3 hp3 => ?_)
  replace hp3 : k_Pt 24 [(0, 4), (0, 5), (0, 6), (0, 7), (0, 8), (0, 9), (0, 10), (0, 11), (21, 4), (21, 5), (21, 6), (21, 7), (21, 8), (21, 9), (21, 10)] S3 := hp3
  refine gj_putR (q := 20) (i := 4) (gj_dk okX3_init 9 rfl) ff_X3_15 (by exact hp3.2.1 21 (by decide) (by decide)) (by decide) rfl rfl (by first | exact Or.inl ⟨_, rfl⟩ | exact Or.inr ⟨_, rfl⟩) rfl ?_
  refine k_absS (fun S4 e4 => ?_)
  have hp4 : k_Pt 24 [(0, 4), (0, 5), (0, 6), (0, 7), (0, 8), (0, 9), (0, 10), (0, 11), (21, 5), (21, 6), (21, 7), (21, 8), (21, 9), (21, 10)] S4 := by rw [e4]; exact hp3.put _ (by decide) (by decide)
  clear e4
  refine gj_aload_n (q := 21) (gj_dk okX3_init 10 rfl) rfl rfl ?_
  refine gj_bipush (q := 23) (gj_dk okX3_init 11 rfl) (by decide) rfl rfl ?_
  refine gj_newarr (q := 25) (kd := 0) (gj_dk okX3_init 12 rfl) (by decide) rfl ka_int (by decide) (by decide) (by decide) (by decide) rfl ?_
  refine k_made hp4 [(0, 4), (0, 5), (0, 6), (0, 7), (0, 8), (0, 9), (0, 10), (0, 11), (21, 5), (21, 6), (21, 7), (21, 8), (21, 9), (21, 10)] (by decide) (by decide) (by decide) (by decide) (by decide) (by decide) (fun S5 hp5 => ?_)
  replace hp5 : k_Pt 25 [(0, 4), (0, 5), (0, 6), (0, 7), (0, 8), (0, 9), (0, 10), (0, 11), (21, 5), (21, 6), (21, 7), (21, 8), (21, 9), (21, 10)] S5 := hp5
  refine gj_putR (q := 28) (i := 5) (gj_dk okX3_init 13 rfl) ff_X3_18 (by exact hp5.2.1 21 (by decide) (by decide)) (by decide) rfl rfl (by first | exact Or.inl ⟨_, rfl⟩ | exact Or.inr ⟨_, rfl⟩) rfl ?_
  refine k_absS (fun S6 e6 => ?_)
  have hp6 : k_Pt 25 [(0, 4), (0, 5), (0, 6), (0, 7), (0, 8), (0, 9), (0, 10), (0, 11), (21, 6), (21, 7), (21, 8), (21, 9), (21, 10)] S6 := by rw [e6]; exact hp5.put _ (by decide) (by decide)
  clear e6
  refine gj_aload_n (q := 29) (gj_dk okX3_init 14 rfl) rfl rfl ?_
  refine gj_bipush (q := 31) (gj_dk okX3_init 15 rfl) (by decide) rfl rfl ?_
  refine gj_newarr (q := 33) (kd := 0) (gj_dk okX3_init 16 rfl) (by decide) rfl ka_int (by decide) (by decide) (by decide) (by decide) rfl ?_
  refine k_made hp6 [(0, 4), (0, 5), (0, 6), (0, 7), (0, 8), (0, 9), (0, 10), (0, 11), (21, 6), (21, 7), (21, 8), (21, 9), (21, 10)] (by decide) (by decide) (by decide) (by decide) (by decide) (by decide) (fun S7 hp7 => ?_)
  replace hp7 : k_Pt 26 [(0, 4), (0, 5), (0, 6), (0, 7), (0, 8), (0, 9), (0, 10), (0, 11), (21, 6), (21, 7), (21, 8), (21, 9), (21, 10)] S7 := hp7
  refine gj_putR (q := 36) (i := 6) (gj_dk okX3_init 17 rfl) ff_X3_21 (by exact hp7.2.1 21 (by decide) (by decide)) (by decide) rfl rfl (by first | exact Or.inl ⟨_, rfl⟩ | exact Or.inr ⟨_, rfl⟩) rfl ?_
  refine k_absS (fun S8 e8 => ?_)
  have hp8 : k_Pt 26 [(0, 4), (0, 5), (0, 6), (0, 7), (0, 8), (0, 9), (0, 10), (0, 11), (21, 7), (21, 8), (21, 9), (21, 10)] S8 := by rw [e8]; exact hp7.put _ (by decide) (by decide)
  clear e8
  refine gj_aload_n (q := 37) (gj_dk okX3_init 18 rfl) rfl rfl ?_
  refine gj_bipush (q := 39) (gj_dk okX3_init 19 rfl) (by decide) rfl rfl ?_
  refine gj_newarr (q := 41) (kd := 0) (gj_dk okX3_init 20 rfl) (by decide) rfl ka_int (by decide) (by decide) (by decide) (by decide) rfl ?_
  refine k_made hp8 [(0, 4), (0, 5), (0, 6), (0, 7), (0, 8), (0, 9), (0, 10), (0, 11), (21, 7), (21, 8), (21, 9), (21, 10)] (by decide) (by decide) (by decide) (by decide) (by decide) (by decide) (fun S9 hp9 => ?_)
  replace hp9 : k_Pt 27 [(0, 4), (0, 5), (0, 6), (0, 7), (0, 8), (0, 9), (0, 10), (0, 11), (21, 7), (21, 8), (21, 9), (21, 10)] S9 := hp9
  refine gj_putR (q := 44) (i := 7) (gj_dk okX3_init 21 rfl) ff_X3_24 (by exact hp9.2.1 21 (by decide) (by decide)) (by decide) rfl rfl (by first | exact Or.inl ⟨_, rfl⟩ | exact Or.inr ⟨_, rfl⟩) rfl ?_
  refine k_absS (fun S10 e10 => ?_)
  have hp10 : k_Pt 27 [(0, 4), (0, 5), (0, 6), (0, 7), (0, 8), (0, 9), (0, 10), (0, 11), (21, 8), (21, 9), (21, 10)] S10 := by rw [e10]; exact hp9.put _ (by decide) (by decide)
  clear e10
  refine gj_aload_n (q := 45) (gj_dk okX3_init 22 rfl) rfl rfl ?_
  refine gj_bipush (q := 47) (gj_dk okX3_init 23 rfl) (by decide) rfl rfl ?_
  refine gj_newarr (q := 49) (kd := 0) (gj_dk okX3_init 24 rfl) (by decide) rfl ka_int (by decide) (by decide) (by decide) (by decide) rfl ?_
  refine k_made hp10 [(0, 4), (0, 5), (0, 6), (0, 7), (0, 8), (0, 9), (0, 10), (0, 11), (21, 8), (21, 9), (21, 10)] (by decide) (by decide) (by decide) (by decide) (by decide) (by decide) (fun S11 hp11 => ?_)
  replace hp11 : k_Pt 28 [(0, 4), (0, 5), (0, 6), (0, 7), (0, 8), (0, 9), (0, 10), (0, 11), (21, 8), (21, 9), (21, 10)] S11 := hp11
  refine gj_putR (q := 52) (i := 8) (gj_dk okX3_init 25 rfl) ff_X3_27 (by exact hp11.2.1 21 (by decide) (by decide)) (by decide) rfl rfl (by first | exact Or.inl ⟨_, rfl⟩ | exact Or.inr ⟨_, rfl⟩) rfl ?_
  refine k_absS (fun S12 e12 => ?_)
  have hp12 : k_Pt 28 [(0, 4), (0, 5), (0, 6), (0, 7), (0, 8), (0, 9), (0, 10), (0, 11), (21, 9), (21, 10)] S12 := by rw [e12]; exact hp11.put _ (by decide) (by decide)
  clear e12
  refine gj_aload_n (q := 53) (gj_dk okX3_init 26 rfl) rfl rfl ?_
  refine gj_bipush (q := 55) (gj_dk okX3_init 27 rfl) (by decide) rfl rfl ?_
  refine gj_newarr (q := 57) (kd := 0) (gj_dk okX3_init 28 rfl) (by decide) rfl ka_int (by decide) (by decide) (by decide) (by decide) rfl ?_
  refine k_made hp12 [(0, 4), (0, 5), (0, 6), (0, 7), (0, 8), (0, 9), (0, 10), (0, 11), (21, 9), (21, 10)] (by decide) (by decide) (by decide) (by decide) (by decide) (by decide) (fun S13 hp13 => ?_)
  replace hp13 : k_Pt 29 [(0, 4), (0, 5), (0, 6), (0, 7), (0, 8), (0, 9), (0, 10), (0, 11), (21, 9), (21, 10)] S13 := hp13
  refine gj_putR (q := 60) (i := 9) (gj_dk okX3_init 29 rfl) ff_X3_30 (by exact hp13.2.1 21 (by decide) (by decide)) (by decide) rfl rfl (by first | exact Or.inl ⟨_, rfl⟩ | exact Or.inr ⟨_, rfl⟩) rfl ?_
  refine k_absS (fun S14 e14 => ?_)
  have hp14 : k_Pt 29 [(0, 4), (0, 5), (0, 6), (0, 7), (0, 8), (0, 9), (0, 10), (0, 11), (21, 10)] S14 := by rw [e14]; exact hp13.put _ (by decide) (by decide)
  clear e14
  refine gj_aload_n (q := 61) (gj_dk okX3_init 30 rfl) rfl rfl ?_
  refine gj_new (q := 64) (ci := 1) (gj_dk okX3_init 31 rfl) rfl cl_X3_33 ins_X1 ini_X1 (by decide) (by decide) (by decide) rfl ?_
  refine k_made hp14 [(0, 4), (0, 5), (0, 6), (0, 7), (0, 8), (0, 9), (0, 10), (0, 11), (21, 10), (29, 0)] (by decide) (by decide) (by decide) (by decide) (by decide) (by decide) (fun S15 hp15 => ?_)
  replace hp15 : k_Pt 30 [(0, 4), (0, 5), (0, 6), (0, 7), (0, 8), (0, 9), (0, 10), (0, 11), (21, 10), (29, 0)] S15 := hp15
  refine gj_dup (q := 65) (gj_dk okX3_init 32 rfl) rfl rfl ?_
  refine gj_callN (q := 68) [] rfl (k_X1_init_29 hp15) (gj_dk okX3_init 33 rfl) mn_X3_35 me_X1_init (by decide) (gj_nm rfl) rfl (gj_kV fun S16 M16 h16 => ?_)
  obtain ⟨hp16, eM⟩ := h16; subst eM
  refine gj_putR (q := 71) (i := 10) (gj_dk okX3_init 34 rfl) ff_X3_36 (by exact hp16.2.1 21 (by decide) (by decide)) (by decide) rfl rfl (by first | exact Or.inl ⟨_, rfl⟩ | exact Or.inr ⟨_, rfl⟩) rfl ?_
  refine k_absS (fun S17 e17 => ?_)
  have hp17 : k_Pt 31 [(0, 4), (0, 5), (0, 6), (0, 7), (0, 8), (0, 9), (0, 10), (0, 11)] S17 := by rw [e17]; exact hp16.put _ (by decide) (by decide)
  clear e17
  refine gj_aload_n (q := 72) (gj_dk okX3_init 35 rfl) rfl rfl ?_
  refine gj_gR (q := 75) (j := 3) (w := 22) (gj_dk okX3_init 36 rfl) ff_X3_9 (by exact hp17.2.1 21 (by decide) (by decide)) (by decide) rfl (by exact hp17.2.2 21 3 (by decide) (by decide) (by decide) (by decide)) rfl ?_
  refine gj_iconst (q := 76) (gj_dk okX3_init 37 rfl) (by decide) rfl ?_
  refine gj_callS (q := 79) [jR 22, jI (-1)] rfl (c_X7_fill (by exact hp17.2.1 22 (by decide) (by decide)) (by decide) (by decide) _) (gj_dk okX3_init 38 rfl) ml_X3_40 me_X7_fill (gj_nm rfl) rfl (gj_kV fun S2 M2 h2 => ?_)
  obtain ⟨eS, eM⟩ := h2; subst eS; rw [k_fill (by decide)] at eM; subst eM
  exact gj_vret (gj_dk okX3_init 39 rfl) rfl ⟨rfl, hp17, rfl⟩
set_option maxHeartbeats 4000000 in
set_option maxRecDepth 20000 in
theorem k_X4_init_31 (hp : k_Pt 32 [(0, 5), (0, 6), (0, 7), (0, 8), (0, 9), (0, 10), (0, 11), (31, 0), (31, 1), (31, 2), (31, 3), (31, 4)] S) : gj_C G l 2 3 12 yX4_init cX4_init 3 none [jR 31, jR 14, jR 21] S (k_mF [22] false) (gj_qV fun S' M' => k_Pt 35 [(0, 5), (0, 6), (0, 7), (0, 8), (0, 9), (0, 10), (0, 11)] S' ∧ k_mF [22] false = M') := by
  refine gj_Cof (by decide +kernel) (Nat.le_of_ble_eq_true rfl) ?_
  refine gj_aload_n (q := 1) (gj_dk okX4_init 0 rfl) rfl rfl ?_
  refine gj_objInit (q := 4) (gj_dk okX4_init 1 rfl) (by decide) ml_X4_3 ki_Obj_init kd_Obj_init ⟨by decide, Nat.le_of_ble_eq_true rfl⟩ rfl ?_
  refine gj_aload_n (q := 5) (gj_dk okX4_init 2 rfl) rfl rfl ?_
  refine gj_iconst (q := 6) (gj_dk okX4_init 3 rfl) (by decide) rfl ?_
  refine gj_newarr (q := 8) (kd := 0) (gj_dk okX4_init 4 rfl) (by decide) rfl ka_int (by decide) (by decide) (by decide) (by decide) rfl ?_
  refine k_made hp [(0, 5), (0, 6), (0, 7), (0, 8), (0, 9), (0, 10), (0, 11), (31, 0), (31, 1), (31, 2), (31, 3), (31, 4)] (by decide) (by decide) (by decide) (by decide) (by decide) (by decide) (fun S1 hp1 => ?_)
  replace hp1 : k_Pt 33 [(0, 5), (0, 6), (0, 7), (0, 8), (0, 9), (0, 10), (0, 11), (31, 0), (31, 1), (31, 2), (31, 3), (31, 4)] S1 := hp1
  refine gj_putR (q := 11) (i := 2) (gj_dk okX4_init 5 rfl) ff_X4_9 (by exact hp1.2.1 31 (by decide) (by decide)) (by decide) rfl rfl (by first | exact Or.inl ⟨_, rfl⟩ | exact Or.inr ⟨_, rfl⟩) rfl ?_
  refine k_absS (fun S2 e2 => ?_)
  have hp2 : k_Pt 33 [(0, 5), (0, 6), (0, 7), (0, 8), (0, 9), (0, 10), (0, 11), (31, 0), (31, 1), (31, 3), (31, 4)] S2 := by rw [e2]; exact hp1.put _ (by decide) (by decide)
  clear e2
  refine gj_aload_n (q := 12) (gj_dk okX4_init 6 rfl) rfl rfl ?_
  refine gj_iconst (q := 13) (gj_dk okX4_init 7 rfl) (by decide) rfl ?_
  refine gj_newarr (q := 15) (kd := 0) (gj_dk okX4_init 8 rfl) (by decide) rfl ka_int (by decide) (by decide) (by decide) (by decide) rfl ?_
  refine k_made hp2 [(0, 5), (0, 6), (0, 7), (0, 8), (0, 9), (0, 10), (0, 11), (31, 0), (31, 1), (31, 3), (31, 4)] (by decide) (by decide) (by decide) (by decide) (by decide) (by decide) (fun S3 hp3 => ?_)
  replace hp3 : k_Pt 34 [(0, 5), (0, 6), (0, 7), (0, 8), (0, 9), (0, 10), (0, 11), (31, 0), (31, 1), (31, 3), (31, 4)] S3 := hp3
  refine gj_putR (q := 18) (i := 3) (gj_dk okX4_init 9 rfl) ff_X4_15 (by exact hp3.2.1 31 (by decide) (by decide)) (by decide) rfl rfl (by first | exact Or.inl ⟨_, rfl⟩ | exact Or.inr ⟨_, rfl⟩) rfl ?_
  refine k_absS (fun S4 e4 => ?_)
  have hp4 : k_Pt 34 [(0, 5), (0, 6), (0, 7), (0, 8), (0, 9), (0, 10), (0, 11), (31, 0), (31, 1), (31, 4)] S4 := by rw [e4]; exact hp3.put _ (by decide) (by decide)
  clear e4
  refine gj_aload_n (q := 19) (gj_dk okX4_init 10 rfl) rfl rfl ?_
  refine gj_iconst (q := 20) (gj_dk okX4_init 11 rfl) (by decide) rfl ?_
  refine gj_newarr (q := 22) (kd := 0) (gj_dk okX4_init 12 rfl) (by decide) rfl ka_int (by decide) (by decide) (by decide) (by decide) rfl ?_
  refine k_made hp4 [(0, 5), (0, 6), (0, 7), (0, 8), (0, 9), (0, 10), (0, 11), (31, 0), (31, 1), (31, 4)] (by decide) (by decide) (by decide) (by decide) (by decide) (by decide) (fun S5 hp5 => ?_)
  replace hp5 : k_Pt 35 [(0, 5), (0, 6), (0, 7), (0, 8), (0, 9), (0, 10), (0, 11), (31, 0), (31, 1), (31, 4)] S5 := hp5
  refine gj_putR (q := 25) (i := 4) (gj_dk okX4_init 13 rfl) ff_X4_18 (by exact hp5.2.1 31 (by decide) (by decide)) (by decide) rfl rfl (by first | exact Or.inl ⟨_, rfl⟩ | exact Or.inr ⟨_, rfl⟩) rfl ?_
  refine k_absS (fun S6 e6 => ?_)
  have hp6 : k_Pt 35 [(0, 5), (0, 6), (0, 7), (0, 8), (0, 9), (0, 10), (0, 11), (31, 0), (31, 1)] S6 := by rw [e6]; exact hp5.put _ (by decide) (by decide)
  clear e6
  refine gj_aload_n (q := 26) (gj_dk okX4_init 14 rfl) rfl rfl ?_
  refine gj_aload_n (q := 27) (gj_dk okX4_init 15 rfl) rfl rfl ?_
  refine gj_putR (q := 30) (i := 0) (gj_dk okX4_init 16 rfl) ff_X4_21 (by exact hp6.2.1 31 (by decide) (by decide)) (by decide) rfl rfl (by first | exact Or.inl ⟨_, rfl⟩ | exact Or.inr ⟨_, rfl⟩) rfl ?_
  refine k_absS (fun S7 e7 => ?_)
  have hp7 : k_Pt 35 [(0, 5), (0, 6), (0, 7), (0, 8), (0, 9), (0, 10), (0, 11), (31, 1)] S7 := by rw [e7]; exact hp6.put _ (by decide) (by decide)
  clear e7
  refine gj_aload_n (q := 31) (gj_dk okX4_init 17 rfl) rfl rfl ?_
  refine gj_aload_n (q := 32) (gj_dk okX4_init 18 rfl) rfl rfl ?_
  refine gj_putR (q := 35) (i := 1) (gj_dk okX4_init 19 rfl) ff_X4_25 (by exact hp7.2.1 31 (by decide) (by decide)) (by decide) rfl rfl (by first | exact Or.inl ⟨_, rfl⟩ | exact Or.inr ⟨_, rfl⟩) rfl ?_
  refine k_absS (fun S8 e8 => ?_)
  have hp8 : k_Pt 35 [(0, 5), (0, 6), (0, 7), (0, 8), (0, 9), (0, 10), (0, 11)] S8 := by rw [e8]; exact hp7.put _ (by decide) (by decide)
  clear e8
  exact gj_vret (gj_dk okX4_init 20 rfl) rfl ⟨rfl, hp8, rfl⟩
set_option maxHeartbeats 4000000 in
set_option maxRecDepth 20000 in
theorem k_X2_init_35 (hp : k_Pt 36 [(0, 6), (0, 7), (0, 8), (0, 9), (0, 10), (0, 11), (35, 0), (35, 1), (35, 2), (35, 3), (35, 4), (35, 5), (35, 6)] S) : gj_C G l 2 5 80 yX2_init cX2_init 3 none [jR 35, jR 14, jR 21] S (k_mF [22] false) (gj_qV fun S' M' => k_Pt 41 [(0, 6), (0, 7), (0, 8), (0, 9), (0, 10), (0, 11)] S' ∧ k_mF [22] false = M') := by
  refine gj_Cof (by decide +kernel) (Nat.le_of_ble_eq_true rfl) ?_
  refine gj_aload_n (q := 1) (gj_dk okX2_init 0 rfl) rfl rfl ?_
  refine gj_objInit (q := 4) (gj_dk okX2_init 1 rfl) (by decide) ml_X2_3 ki_Obj_init kd_Obj_init ⟨by decide, Nat.le_of_ble_eq_true rfl⟩ rfl ?_
  refine gj_aload_n (q := 5) (gj_dk okX2_init 2 rfl) rfl rfl ?_
  refine gj_bipush (q := 7) (gj_dk okX2_init 3 rfl) (by decide) rfl rfl ?_
  refine gj_newarr (q := 9) (kd := 0) (gj_dk okX2_init 4 rfl) (by decide) rfl ka_int (by decide) (by decide) (by decide) (by decide) rfl ?_
  refine k_made hp [(0, 6), (0, 7), (0, 8), (0, 9), (0, 10), (0, 11), (35, 0), (35, 1), (35, 2), (35, 3), (35, 4), (35, 5), (35, 6)] (by decide) (by decide) (by decide) (by decide) (by decide) (by decide) (fun S1 hp1 => ?_)
  replace hp1 : k_Pt 37 [(0, 6), (0, 7), (0, 8), (0, 9), (0, 10), (0, 11), (35, 0), (35, 1), (35, 2), (35, 3), (35, 4), (35, 5), (35, 6)] S1 := hp1
  refine gj_putR (q := 12) (i := 2) (gj_dk okX2_init 5 rfl) ff_X2_9 (by exact hp1.2.1 35 (by decide) (by decide)) (by decide) rfl rfl (by first | exact Or.inl ⟨_, rfl⟩ | exact Or.inr ⟨_, rfl⟩) rfl ?_
  refine k_absS (fun S2 e2 => ?_)
  have hp2 : k_Pt 37 [(0, 6), (0, 7), (0, 8), (0, 9), (0, 10), (0, 11), (35, 0), (35, 1), (35, 3), (35, 4), (35, 5), (35, 6)] S2 := by rw [e2]; exact hp1.put _ (by decide) (by decide)
  clear e2
  refine gj_aload_n (q := 13) (gj_dk okX2_init 6 rfl) rfl rfl ?_
  refine gj_bipush (q := 15) (gj_dk okX2_init 7 rfl) (by decide) rfl rfl ?_
  refine gj_newarr (q := 17) (kd := 3) (gj_dk okX2_init 8 rfl) (by decide) rfl ka_boolean (by decide) (by decide) (by decide) (by decide) rfl ?_
  refine k_made hp2 [(0, 6), (0, 7), (0, 8), (0, 9), (0, 10), (0, 11), (35, 0), (35, 1), (35, 3), (35, 4), (35, 5), (35, 6)] (by decide) (by decide) (by decide) (by decide) (by decide) (by decide) (fun S3 hp3 => ?_)
  replace hp3 : k_Pt 38 [(0, 6), (0, 7), (0, 8), (0, 9), (0, 10), (0, 11), (35, 0), (35, 1), (35, 3), (35, 4), (35, 5), (35, 6)] S3 := hp3
  refine gj_putR (q := 20) (i := 3) (gj_dk okX2_init 9 rfl) ff_X2_15 (by exact hp3.2.1 35 (by decide) (by decide)) (by decide) rfl rfl (by first | exact Or.inl ⟨_, rfl⟩ | exact Or.inr ⟨_, rfl⟩) rfl ?_
  refine k_absS (fun S4 e4 => ?_)
  have hp4 : k_Pt 38 [(0, 6), (0, 7), (0, 8), (0, 9), (0, 10), (0, 11), (35, 0), (35, 1), (35, 4), (35, 5), (35, 6)] S4 := by rw [e4]; exact hp3.put _ (by decide) (by decide)
  clear e4
  refine gj_aload_n (q := 21) (gj_dk okX2_init 10 rfl) rfl rfl ?_
  refine gj_bipush (q := 23) (gj_dk okX2_init 11 rfl) (by decide) rfl rfl ?_
  refine gj_newarr (q := 25) (kd := 3) (gj_dk okX2_init 12 rfl) (by decide) rfl ka_boolean (by decide) (by decide) (by decide) (by decide) rfl ?_
  refine k_made hp4 [(0, 6), (0, 7), (0, 8), (0, 9), (0, 10), (0, 11), (35, 0), (35, 1), (35, 4), (35, 5), (35, 6)] (by decide) (by decide) (by decide) (by decide) (by decide) (by decide) (fun S5 hp5 => ?_)
  replace hp5 : k_Pt 39 [(0, 6), (0, 7), (0, 8), (0, 9), (0, 10), (0, 11), (35, 0), (35, 1), (35, 4), (35, 5), (35, 6)] S5 := hp5
  refine gj_putR (q := 28) (i := 4) (gj_dk okX2_init 13 rfl) ff_X2_19 (by exact hp5.2.1 35 (by decide) (by decide)) (by decide) rfl rfl (by first | exact Or.inl ⟨_, rfl⟩ | exact Or.inr ⟨_, rfl⟩) rfl ?_
  refine k_absS (fun S6 e6 => ?_)
  have hp6 : k_Pt 39 [(0, 6), (0, 7), (0, 8), (0, 9), (0, 10), (0, 11), (35, 0), (35, 1), (35, 5), (35, 6)] S6 := by rw [e6]; exact hp5.put _ (by decide) (by decide)
  clear e6
  refine gj_aload_n (q := 29) (gj_dk okX2_init 14 rfl) rfl rfl ?_
  refine gj_bipush (q := 31) (gj_dk okX2_init 15 rfl) (by decide) rfl rfl ?_
  refine gj_newarr (q := 33) (kd := 3) (gj_dk okX2_init 16 rfl) (by decide) rfl ka_boolean (by decide) (by decide) (by decide) (by decide) rfl ?_
  refine k_made hp6 [(0, 6), (0, 7), (0, 8), (0, 9), (0, 10), (0, 11), (35, 0), (35, 1), (35, 5), (35, 6)] (by decide) (by decide) (by decide) (by decide) (by decide) (by decide) (fun S7 hp7 => ?_)
  replace hp7 : k_Pt 40 [(0, 6), (0, 7), (0, 8), (0, 9), (0, 10), (0, 11), (35, 0), (35, 1), (35, 5), (35, 6)] S7 := hp7
  refine gj_putR (q := 36) (i := 5) (gj_dk okX2_init 17 rfl) ff_X2_22 (by exact hp7.2.1 35 (by decide) (by decide)) (by decide) rfl rfl (by first | exact Or.inl ⟨_, rfl⟩ | exact Or.inr ⟨_, rfl⟩) rfl ?_
  refine k_absS (fun S8 e8 => ?_)
  have hp8 : k_Pt 40 [(0, 6), (0, 7), (0, 8), (0, 9), (0, 10), (0, 11), (35, 0), (35, 1), (35, 6)] S8 := by rw [e8]; exact hp7.put _ (by decide) (by decide)
  clear e8
  refine gj_aload_n (q := 37) (gj_dk okX2_init 18 rfl) rfl rfl ?_
  refine gj_bipush (q := 39) (gj_dk okX2_init 19 rfl) (by decide) rfl rfl ?_
  refine gj_newarr (q := 41) (kd := 0) (gj_dk okX2_init 20 rfl) (by decide) rfl ka_int (by decide) (by decide) (by decide) (by decide) rfl ?_
  refine k_made hp8 [(0, 6), (0, 7), (0, 8), (0, 9), (0, 10), (0, 11), (35, 0), (35, 1), (35, 6)] (by decide) (by decide) (by decide) (by decide) (by decide) (by decide) (fun S9 hp9 => ?_)
  replace hp9 : k_Pt 41 [(0, 6), (0, 7), (0, 8), (0, 9), (0, 10), (0, 11), (35, 0), (35, 1), (35, 6)] S9 := hp9
  refine gj_putR (q := 44) (i := 6) (gj_dk okX2_init 21 rfl) ff_X2_25 (by exact hp9.2.1 35 (by decide) (by decide)) (by decide) rfl rfl (by first | exact Or.inl ⟨_, rfl⟩ | exact Or.inr ⟨_, rfl⟩) rfl ?_
  refine k_absS (fun S10 e10 => ?_)
  have hp10 : k_Pt 41 [(0, 6), (0, 7), (0, 8), (0, 9), (0, 10), (0, 11), (35, 0), (35, 1)] S10 := by rw [e10]; exact hp9.put _ (by decide) (by decide)
  clear e10
  refine gj_aload_n (q := 45) (gj_dk okX2_init 22 rfl) rfl rfl ?_
  refine gj_aload_n (q := 46) (gj_dk okX2_init 23 rfl) rfl rfl ?_
  refine gj_putR (q := 49) (i := 0) (gj_dk okX2_init 24 rfl) ff_X2_28 (by exact hp10.2.1 35 (by decide) (by decide)) (by decide) rfl rfl (by first | exact Or.inl ⟨_, rfl⟩ | exact Or.inr ⟨_, rfl⟩) rfl ?_
  refine k_absS (fun S11 e11 => ?_)
  have hp11 : k_Pt 41 [(0, 6), (0, 7), (0, 8), (0, 9), (0, 10), (0, 11), (35, 1)] S11 := by rw [e11]; exact hp10.put _ (by decide) (by decide)
  clear e11
  refine gj_aload_n (q := 50) (gj_dk okX2_init 25 rfl) rfl rfl ?_
  refine gj_aload_n (q := 51) (gj_dk okX2_init 26 rfl) rfl rfl ?_
  refine gj_putR (q := 54) (i := 1) (gj_dk okX2_init 27 rfl) ff_X2_32 (by exact hp11.2.1 35 (by decide) (by decide)) (by decide) rfl rfl (by first | exact Or.inl ⟨_, rfl⟩ | exact Or.inr ⟨_, rfl⟩) rfl ?_
  refine k_absS (fun S12 e12 => ?_)
  have hp12 : k_Pt 41 [(0, 6), (0, 7), (0, 8), (0, 9), (0, 10), (0, 11)] S12 := by rw [e12]; exact hp11.put _ (by decide) (by decide)
  clear e12
  exact gj_vret (gj_dk okX2_init 28 rfl) rfl ⟨rfl, hp12, rfl⟩
set_option maxHeartbeats 4000000 in
set_option maxRecDepth 20000 in
theorem k_X0_init_41 (hp : k_Pt 42 [(0, 7), (0, 8), (0, 9), (0, 10), (0, 11), (41, 0), (41, 1), (41, 2)] S) : gj_C G l 2 2 16 yX0_init cX0_init 2 none [jR 41, jR 14] S (k_mF [22] false) (gj_qV fun S' M' => k_Pt 44 [(0, 7), (0, 8), (0, 9), (0, 10), (0, 11)] S' ∧ k_mF [22] false = M') := by
  refine gj_Cof (by decide +kernel) (Nat.le_of_ble_eq_true rfl) ?_
  refine gj_aload_n (q := 1) (gj_dk okX0_init 0 rfl) rfl rfl ?_
  refine gj_objInit (q := 4) (gj_dk okX0_init 1 rfl) (by decide) ml_X0_5 ki_Obj_init kd_Obj_init ⟨by decide, Nat.le_of_ble_eq_true rfl⟩ rfl ?_
  refine gj_aload_n (q := 5) (gj_dk okX0_init 2 rfl) rfl rfl ?_
  refine gj_bipush (q := 7) (gj_dk okX0_init 3 rfl) (by decide) rfl rfl ?_
  refine gj_newarr (q := 9) (kd := 0) (gj_dk okX0_init 4 rfl) (by decide) rfl ka_int (by decide) (by decide) (by decide) (by decide) rfl ?_
  refine k_made hp [(0, 7), (0, 8), (0, 9), (0, 10), (0, 11), (41, 0), (41, 1), (41, 2)] (by decide) (by decide) (by decide) (by decide) (by decide) (by decide) (fun S1 hp1 => ?_)
  replace hp1 : k_Pt 43 [(0, 7), (0, 8), (0, 9), (0, 10), (0, 11), (41, 0), (41, 1), (41, 2)] S1 := hp1
  refine gj_putR (q := 12) (i := 1) (gj_dk okX0_init 5 rfl) ff_X0_11 (by exact hp1.2.1 41 (by decide) (by decide)) (by decide) rfl rfl (by first | exact Or.inl ⟨_, rfl⟩ | exact Or.inr ⟨_, rfl⟩) rfl ?_
  refine k_absS (fun S2 e2 => ?_)
  have hp2 : k_Pt 43 [(0, 7), (0, 8), (0, 9), (0, 10), (0, 11), (41, 0), (41, 2)] S2 := by rw [e2]; exact hp1.put _ (by decide) (by decide)
  clear e2
  refine gj_aload_n (q := 13) (gj_dk okX0_init 6 rfl) rfl rfl ?_
  refine gj_bipush (q := 15) (gj_dk okX0_init 7 rfl) (by decide) rfl rfl ?_
  refine gj_newarr (q := 17) (kd := 0) (gj_dk okX0_init 8 rfl) (by decide) rfl ka_int (by decide) (by decide) (by decide) (by decide) rfl ?_
  refine k_made hp2 [(0, 7), (0, 8), (0, 9), (0, 10), (0, 11), (41, 0), (41, 2)] (by decide) (by decide) (by decide) (by decide) (by decide) (by decide) (fun S3 hp3 => ?_)
  replace hp3 : k_Pt 44 [(0, 7), (0, 8), (0, 9), (0, 10), (0, 11), (41, 0), (41, 2)] S3 := hp3
  refine gj_putR (q := 20) (i := 2) (gj_dk okX0_init 9 rfl) ff_X0_15 (by exact hp3.2.1 41 (by decide) (by decide)) (by decide) rfl rfl (by first | exact Or.inl ⟨_, rfl⟩ | exact Or.inr ⟨_, rfl⟩) rfl ?_
  refine k_absS (fun S4 e4 => ?_)
  have hp4 : k_Pt 44 [(0, 7), (0, 8), (0, 9), (0, 10), (0, 11), (41, 0)] S4 := by rw [e4]; exact hp3.put _ (by decide) (by decide)
  clear e4
  refine gj_aload_n (q := 21) (gj_dk okX0_init 10 rfl) rfl rfl ?_
  refine gj_aload_n (q := 22) (gj_dk okX0_init 11 rfl) rfl rfl ?_
  refine gj_putR (q := 25) (i := 0) (gj_dk okX0_init 12 rfl) ff_X0_18 (by exact hp4.2.1 41 (by decide) (by decide)) (by decide) rfl rfl (by first | exact Or.inl ⟨_, rfl⟩ | exact Or.inr ⟨_, rfl⟩) rfl ?_
  refine k_absS (fun S5 e5 => ?_)
  have hp5 : k_Pt 44 [(0, 7), (0, 8), (0, 9), (0, 10), (0, 11)] S5 := by rw [e5]; exact hp4.put _ (by decide) (by decide)
  clear e5
  exact gj_vret (gj_dk okX0_init 13 rfl) rfl ⟨rfl, hp5, rfl⟩
set_option maxHeartbeats 4000000 in
set_option maxRecDepth 20000 in
theorem k_X8_init_44 (hp : k_Pt 45 [(0, 8), (0, 9), (0, 10), (0, 11), (44, 0), (44, 1), (44, 2), (44, 3), (44, 4)] S) : gj_C G l 2 1 8 yX8_init cX8_init 5 none [jR 44, jR 14, jR 21, jR 31, jR 35] S (k_mF [22] false) (gj_qV fun S' M' => k_Pt 46 [(0, 8), (0, 9), (0, 10), (0, 11)] S' ∧ k_mF [22] false = M') := by
  refine gj_Cof (by decide +kernel) (Nat.le_of_ble_eq_true rfl) ?_
  refine gj_aload_n (q := 1) (gj_dk okX8_init 0 rfl) rfl rfl ?_
  refine gj_objInit (q := 4) (gj_dk okX8_init 1 rfl) (by decide) ml_X8_3 ki_Obj_init kd_Obj_init ⟨by decide, Nat.le_of_ble_eq_true rfl⟩ rfl ?_
  refine gj_aload_n (q := 5) (gj_dk okX8_init 2 rfl) rfl rfl ?_
  refine gj_bipush (q := 7) (gj_dk okX8_init 3 rfl) (by decide) rfl rfl ?_
  refine gj_newarr (q := 9) (kd := 3) (gj_dk okX8_init 4 rfl) (by decide) rfl ka_boolean (by decide) (by decide) (by decide) (by decide) rfl ?_
  refine k_made hp [(0, 8), (0, 9), (0, 10), (0, 11), (44, 0), (44, 1), (44, 2), (44, 3), (44, 4)] (by decide) (by decide) (by decide) (by decide) (by decide) (by decide) (fun S1 hp1 => ?_)
  replace hp1 : k_Pt 46 [(0, 8), (0, 9), (0, 10), (0, 11), (44, 0), (44, 1), (44, 2), (44, 3), (44, 4)] S1 := hp1
  refine gj_putR (q := 12) (i := 4) (gj_dk okX8_init 5 rfl) ff_X8_9 (by exact hp1.2.1 44 (by decide) (by decide)) (by decide) rfl rfl (by first | exact Or.inl ⟨_, rfl⟩ | exact Or.inr ⟨_, rfl⟩) rfl ?_
  refine k_absS (fun S2 e2 => ?_)
  have hp2 : k_Pt 46 [(0, 8), (0, 9), (0, 10), (0, 11), (44, 0), (44, 1), (44, 2), (44, 3)] S2 := by rw [e2]; exact hp1.put _ (by decide) (by decide)
  clear e2
  refine gj_aload_n (q := 13) (gj_dk okX8_init 6 rfl) rfl rfl ?_
  refine gj_aload_n (q := 14) (gj_dk okX8_init 7 rfl) rfl rfl ?_
  refine gj_putR (q := 17) (i := 0) (gj_dk okX8_init 8 rfl) ff_X8_15 (by exact hp2.2.1 44 (by decide) (by decide)) (by decide) rfl rfl (by first | exact Or.inl ⟨_, rfl⟩ | exact Or.inr ⟨_, rfl⟩) rfl ?_
  refine k_absS (fun S3 e3 => ?_)
  have hp3 : k_Pt 46 [(0, 8), (0, 9), (0, 10), (0, 11), (44, 1), (44, 2), (44, 3)] S3 := by rw [e3]; exact hp2.put _ (by decide) (by decide)
  clear e3
  refine gj_aload_n (q := 18) (gj_dk okX8_init 9 rfl) rfl rfl ?_
  refine gj_aload_n (q := 19) (gj_dk okX8_init 10 rfl) rfl rfl ?_
  refine gj_putR (q := 22) (i := 1) (gj_dk okX8_init 11 rfl) ff_X8_19 (by exact hp3.2.1 44 (by decide) (by decide)) (by decide) rfl rfl (by first | exact Or.inl ⟨_, rfl⟩ | exact Or.inr ⟨_, rfl⟩) rfl ?_
  refine k_absS (fun S4 e4 => ?_)
  have hp4 : k_Pt 46 [(0, 8), (0, 9), (0, 10), (0, 11), (44, 2), (44, 3)] S4 := by rw [e4]; exact hp3.put _ (by decide) (by decide)
  clear e4
  refine gj_aload_n (q := 23) (gj_dk okX8_init 12 rfl) rfl rfl ?_
  refine gj_aload_n (q := 24) (gj_dk okX8_init 13 rfl) rfl rfl ?_
  refine gj_putR (q := 27) (i := 2) (gj_dk okX8_init 14 rfl) ff_X8_23 (by exact hp4.2.1 44 (by decide) (by decide)) (by decide) rfl rfl (by first | exact Or.inl ⟨_, rfl⟩ | exact Or.inr ⟨_, rfl⟩) rfl ?_
  refine k_absS (fun S5 e5 => ?_)
  have hp5 : k_Pt 46 [(0, 8), (0, 9), (0, 10), (0, 11), (44, 3)] S5 := by rw [e5]; exact hp4.put _ (by decide) (by decide)
  clear e5
  refine gj_aload_n (q := 28) (gj_dk okX8_init 15 rfl) rfl rfl ?_
  refine gj_aload (q := 30) (gj_dk okX8_init 16 rfl) rfl rfl ?_
  refine gj_putR (q := 33) (i := 3) (gj_dk okX8_init 17 rfl) ff_X8_27 (by exact hp5.2.1 44 (by decide) (by decide)) (by decide) rfl rfl (by first | exact Or.inl ⟨_, rfl⟩ | exact Or.inr ⟨_, rfl⟩) rfl ?_
  refine k_absS (fun S6 e6 => ?_)
  have hp6 : k_Pt 46 [(0, 8), (0, 9), (0, 10), (0, 11)] S6 := by rw [e6]; exact hp5.put _ (by decide) (by decide)
  clear e6
  exact gj_vret (gj_dk okX8_init 18 rfl) rfl ⟨rfl, hp6, rfl⟩
set_option maxHeartbeats 4000000 in
set_option maxRecDepth 20000 in
theorem k_X1_init_55 (hp : k_Pt 56 [(0, 10), (0, 11), (46, 0), (46, 1), (46, 2), (47, 10), (55, 0)] S) : gj_C G l 2 1 200 yX1_init cX1_init 1 none [jR 55] S (k_mF [22] false) (gj_qV fun S' M' => k_Pt 57 [(0, 10), (0, 11), (46, 0), (46, 1), (46, 2), (47, 10)] S' ∧ k_mF [22] false = M') := by
  refine gj_Cof (by decide +kernel) (Nat.le_of_ble_eq_true rfl) ?_
  refine gj_aload_n (q := 1) (gj_dk okX1_init 0 rfl) rfl rfl ?_
  refine gj_objInit (q := 4) (gj_dk okX1_init 1 rfl) (by decide) ml_X1_3 ki_Obj_init kd_Obj_init ⟨by decide, Nat.le_of_ble_eq_true rfl⟩ rfl ?_
  refine gj_aload_n (q := 5) (gj_dk okX1_init 2 rfl) rfl rfl ?_
  refine gj_sipush (q := 8) (gj_dk okX1_init 3 rfl) (by decide) rfl rfl ?_
  refine gj_newarr (q := 10) (kd := 0) (gj_dk okX1_init 4 rfl) (by decide) rfl ka_int (by decide) (by decide) (by decide) (by decide) rfl ?_
  refine k_made hp [(0, 10), (0, 11), (46, 0), (46, 1), (46, 2), (47, 10), (55, 0)] (by decide) (by decide) (by decide) (by decide) (by decide) (by decide) (fun S1 hp1 => ?_)
  replace hp1 : k_Pt 57 [(0, 10), (0, 11), (46, 0), (46, 1), (46, 2), (47, 10), (55, 0)] S1 := hp1
  refine gj_putR (q := 13) (i := 0) (gj_dk okX1_init 5 rfl) ff_X1_11 (by exact hp1.2.1 55 (by decide) (by decide)) (by decide) rfl rfl (by first | exact Or.inl ⟨_, rfl⟩ | exact Or.inr ⟨_, rfl⟩) rfl ?_
  refine k_absS (fun S2 e2 => ?_)
  have hp2 : k_Pt 57 [(0, 10), (0, 11), (46, 0), (46, 1), (46, 2), (47, 10)] S2 := by rw [e2]; exact hp1.put _ (by decide) (by decide)
  clear e2
  exact gj_vret (gj_dk okX1_init 6 rfl) rfl ⟨rfl, hp2, rfl⟩
set_option maxHeartbeats 4000000 in
set_option maxRecDepth 20000 in
theorem k_X3_init_47 (hp : k_Pt 48 [(0, 10), (0, 11), (46, 0), (46, 1), (46, 2), (47, 3), (47, 4), (47, 5), (47, 6), (47, 7), (47, 8), (47, 9), (47, 10)] S) : gj_C G l 3 9 283 yX3_init cX3_init 1 none [jR 47] S (k_mF [22] false) (gj_qV fun S' M' => k_Pt 57 [(0, 10), (0, 11), (46, 0), (46, 1), (46, 2)] S' ∧ k_mF [48, 22] false = M') := by
  refine gj_Cof (by decide +kernel) (Nat.le_of_ble_eq_true rfl) ?_
  refine gj_aload_n (q := 1) (gj_dk okX3_init 0 rfl) rfl rfl ?_
  refine gj_objInit (q := 4) (gj_dk okX3_init 1 rfl) (by decide) ml_X3_3 ki_Obj_init kd_Obj_init ⟨by decide, Nat.le_of_ble_eq_true rfl⟩ rfl ?_
  refine gj_aload_n (q := 5) (gj_dk okX3_init 2 rfl) rfl rfl ?_
  refine gj_bipush (q := 7) (gj_dk okX3_init 3 rfl) (by decide) rfl rfl ?_
  refine gj_newarr (q := 9) (kd := 0) (gj_dk okX3_init 4 rfl) (by decide) rfl ka_int (by decide) (by decide) (by decide) (by decide) rfl ?_
  refine k_made hp [(0, 10), (0, 11), (46, 0), (46, 1), (46, 2), (47, 3), (47, 4), (47, 5), (47, 6), (47, 7), (47, 8), (47, 9), (47, 10)] (by decide) (by decide) (by decide) (by decide) (by decide) (by decide) (fun S1 hp1 => ?_)
  replace hp1 : k_Pt 49 [(0, 10), (0, 11), (46, 0), (46, 1), (46, 2), (47, 3), (47, 4), (47, 5), (47, 6), (47, 7), (47, 8), (47, 9), (47, 10)] S1 := hp1
  refine gj_putR (q := 12) (i := 3) (gj_dk okX3_init 5 rfl) ff_X3_9 (by exact hp1.2.1 47 (by decide) (by decide)) (by decide) rfl rfl (by first | exact Or.inl ⟨_, rfl⟩ | exact Or.inr ⟨_, rfl⟩) rfl ?_
  refine k_absS (fun S2 e2 => ?_)
  have hp2 : k_Pt 49 [(0, 10), (0, 11), (46, 0), (46, 1), (46, 2), (47, 4), (47, 5), (47, 6), (47, 7), (47, 8), (47, 9), (47, 10)] S2 := by rw [e2]; exact hp1.put _ (by decide) (by decide)
  clear e2
  refine gj_aload_n (q := 13) (gj_dk okX3_init 6 rfl) rfl rfl ?_
  refine gj_bipush (q := 15) (gj_dk okX3_init 7 rfl) (by decide) rfl rfl ?_
  refine gj_newarr (q := 17) (kd := 0) (gj_dk okX3_init 8 rfl) (by decide) rfl ka_int (by decide) (by decide) (by decide) (by decide) rfl ?_
  refine k_made hp2 [(0, 10), (0, 11), (46, 0), (46, 1), (46, 2), (47, 4), (47, 5), (47, 6), (47, 7), (47, 8), (47, 9), (47, 10)] (by decide) (by decide) (by decide) (by decide) (by decide) (by decide) (fun S3 hp3 => ?_)
  replace hp3 : k_Pt 50 [(0, 10), (0, 11), (46, 0), (46, 1), (46, 2), (47, 4), (47, 5), (47, 6), (47, 7), (47, 8), (47, 9), (47, 10)] S3 := hp3
  refine gj_putR (q := 20) (i := 4) (gj_dk okX3_init 9 rfl) ff_X3_15 (by exact hp3.2.1 47 (by decide) (by decide)) (by decide) rfl rfl (by first | exact Or.inl ⟨_, rfl⟩ | exact Or.inr ⟨_, rfl⟩) rfl ?_
  refine k_absS (fun S4 e4 => ?_)
  have hp4 : k_Pt 50 [(0, 10), (0, 11), (46, 0), (46, 1), (46, 2), (47, 5), (47, 6), (47, 7), (47, 8), (47, 9), (47, 10)] S4 := by rw [e4]; exact hp3.put _ (by decide) (by decide)
  clear e4
  refine gj_aload_n (q := 21) (gj_dk okX3_init 10 rfl) rfl rfl ?_
  refine gj_bipush (q := 23) (gj_dk okX3_init 11 rfl) (by decide) rfl rfl ?_
  refine gj_newarr (q := 25) (kd := 0) (gj_dk okX3_init 12 rfl) (by decide) rfl ka_int (by decide) (by decide) (by decide) (by decide) rfl ?_
  refine k_made hp4 [(0, 10), (0, 11), (46, 0), (46, 1), (46, 2), (47, 5), (47, 6), (47, 7), (47, 8), (47, 9), (47, 10)] (by decide) (by decide) (by decide) (by decide) (by decide) (by decide) (fun S5 hp5 => ?_)
  replace hp5 : k_Pt 51 [(0, 10), (0, 11), (46, 0), (46, 1), (46, 2), (47, 5), (47, 6), (47, 7), (47, 8), (47, 9), (47, 10)] S5 := hp5
  refine gj_putR (q := 28) (i := 5) (gj_dk okX3_init 13 rfl) ff_X3_18 (by exact hp5.2.1 47 (by decide) (by decide)) (by decide) rfl rfl (by first | exact Or.inl ⟨_, rfl⟩ | exact Or.inr ⟨_, rfl⟩) rfl ?_
  refine k_absS (fun S6 e6 => ?_)
  have hp6 : k_Pt 51 [(0, 10), (0, 11), (46, 0), (46, 1), (46, 2), (47, 6), (47, 7), (47, 8), (47, 9), (47, 10)] S6 := by rw [e6]; exact hp5.put _ (by decide) (by decide)
  clear e6
  refine gj_aload_n (q := 29) (gj_dk okX3_init 14 rfl) rfl rfl ?_
  refine gj_bipush (q := 31) (gj_dk okX3_init 15 rfl) (by decide) rfl rfl ?_
  refine gj_newarr (q := 33) (kd := 0) (gj_dk okX3_init 16 rfl) (by decide) rfl ka_int (by decide) (by decide) (by decide) (by decide) rfl ?_
  refine k_made hp6 [(0, 10), (0, 11), (46, 0), (46, 1), (46, 2), (47, 6), (47, 7), (47, 8), (47, 9), (47, 10)] (by decide) (by decide) (by decide) (by decide) (by decide) (by decide) (fun S7 hp7 => ?_)
  replace hp7 : k_Pt 52 [(0, 10), (0, 11), (46, 0), (46, 1), (46, 2), (47, 6), (47, 7), (47, 8), (47, 9), (47, 10)] S7 := hp7
  refine gj_putR (q := 36) (i := 6) (gj_dk okX3_init 17 rfl) ff_X3_21 (by exact hp7.2.1 47 (by decide) (by decide)) (by decide) rfl rfl (by first | exact Or.inl ⟨_, rfl⟩ | exact Or.inr ⟨_, rfl⟩) rfl ?_
  refine k_absS (fun S8 e8 => ?_)
  have hp8 : k_Pt 52 [(0, 10), (0, 11), (46, 0), (46, 1), (46, 2), (47, 7), (47, 8), (47, 9), (47, 10)] S8 := by rw [e8]; exact hp7.put _ (by decide) (by decide)
  clear e8
  refine gj_aload_n (q := 37) (gj_dk okX3_init 18 rfl) rfl rfl ?_
  refine gj_bipush (q := 39) (gj_dk okX3_init 19 rfl) (by decide) rfl rfl ?_
  refine gj_newarr (q := 41) (kd := 0) (gj_dk okX3_init 20 rfl) (by decide) rfl ka_int (by decide) (by decide) (by decide) (by decide) rfl ?_
  refine k_made hp8 [(0, 10), (0, 11), (46, 0), (46, 1), (46, 2), (47, 7), (47, 8), (47, 9), (47, 10)] (by decide) (by decide) (by decide) (by decide) (by decide) (by decide) (fun S9 hp9 => ?_)
  replace hp9 : k_Pt 53 [(0, 10), (0, 11), (46, 0), (46, 1), (46, 2), (47, 7), (47, 8), (47, 9), (47, 10)] S9 := hp9
  refine gj_putR (q := 44) (i := 7) (gj_dk okX3_init 21 rfl) ff_X3_24 (by exact hp9.2.1 47 (by decide) (by decide)) (by decide) rfl rfl (by first | exact Or.inl ⟨_, rfl⟩ | exact Or.inr ⟨_, rfl⟩) rfl ?_
  refine k_absS (fun S10 e10 => ?_)
  have hp10 : k_Pt 53 [(0, 10), (0, 11), (46, 0), (46, 1), (46, 2), (47, 8), (47, 9), (47, 10)] S10 := by rw [e10]; exact hp9.put _ (by decide) (by decide)
  clear e10
  refine gj_aload_n (q := 45) (gj_dk okX3_init 22 rfl) rfl rfl ?_
  refine gj_bipush (q := 47) (gj_dk okX3_init 23 rfl) (by decide) rfl rfl ?_
  refine gj_newarr (q := 49) (kd := 0) (gj_dk okX3_init 24 rfl) (by decide) rfl ka_int (by decide) (by decide) (by decide) (by decide) rfl ?_
  refine k_made hp10 [(0, 10), (0, 11), (46, 0), (46, 1), (46, 2), (47, 8), (47, 9), (47, 10)] (by decide) (by decide) (by decide) (by decide) (by decide) (by decide) (fun S11 hp11 => ?_)
  replace hp11 : k_Pt 54 [(0, 10), (0, 11), (46, 0), (46, 1), (46, 2), (47, 8), (47, 9), (47, 10)] S11 := hp11
  refine gj_putR (q := 52) (i := 8) (gj_dk okX3_init 25 rfl) ff_X3_27 (by exact hp11.2.1 47 (by decide) (by decide)) (by decide) rfl rfl (by first | exact Or.inl ⟨_, rfl⟩ | exact Or.inr ⟨_, rfl⟩) rfl ?_
  refine k_absS (fun S12 e12 => ?_)
  have hp12 : k_Pt 54 [(0, 10), (0, 11), (46, 0), (46, 1), (46, 2), (47, 9), (47, 10)] S12 := by rw [e12]; exact hp11.put _ (by decide) (by decide)
  clear e12
  refine gj_aload_n (q := 53) (gj_dk okX3_init 26 rfl) rfl rfl ?_
  refine gj_bipush (q := 55) (gj_dk okX3_init 27 rfl) (by decide) rfl rfl ?_
  refine gj_newarr (q := 57) (kd := 0) (gj_dk okX3_init 28 rfl) (by decide) rfl ka_int (by decide) (by decide) (by decide) (by decide) rfl ?_
  refine k_made hp12 [(0, 10), (0, 11), (46, 0), (46, 1), (46, 2), (47, 9), (47, 10)] (by decide) (by decide) (by decide) (by decide) (by decide) (by decide) (fun S13 hp13 => ?_)
  replace hp13 : k_Pt 55 [(0, 10), (0, 11), (46, 0), (46, 1), (46, 2), (47, 9), (47, 10)] S13 := hp13
  refine gj_putR (q := 60) (i := 9) (gj_dk okX3_init 29 rfl) ff_X3_30 (by exact hp13.2.1 47 (by decide) (by decide)) (by decide) rfl rfl (by first | exact Or.inl ⟨_, rfl⟩ | exact Or.inr ⟨_, rfl⟩) rfl ?_
  refine k_absS (fun S14 e14 => ?_)
  have hp14 : k_Pt 55 [(0, 10), (0, 11), (46, 0), (46, 1), (46, 2), (47, 10)] S14 := by rw [e14]; exact hp13.put _ (by decide) (by decide)
  clear e14
  refine gj_aload_n (q := 61) (gj_dk okX3_init 30 rfl) rfl rfl ?_
  refine gj_new (q := 64) (ci := 1) (gj_dk okX3_init 31 rfl) rfl cl_X3_33 ins_X1 ini_X1 (by decide) (by decide) (by decide) rfl ?_
  refine k_made hp14 [(0, 10), (0, 11), (46, 0), (46, 1), (46, 2), (47, 10), (55, 0)] (by decide) (by decide) (by decide) (by decide) (by decide) (by decide) (fun S15 hp15 => ?_)
  replace hp15 : k_Pt 56 [(0, 10), (0, 11), (46, 0), (46, 1), (46, 2), (47, 10), (55, 0)] S15 := hp15
  refine gj_dup (q := 65) (gj_dk okX3_init 32 rfl) rfl rfl ?_
  refine gj_callN (q := 68) [] rfl (k_X1_init_55 hp15) (gj_dk okX3_init 33 rfl) mn_X3_35 me_X1_init (by decide) (gj_nm rfl) rfl (gj_kV fun S16 M16 h16 => ?_)
  obtain ⟨hp16, eM⟩ := h16; subst eM
  refine gj_putR (q := 71) (i := 10) (gj_dk okX3_init 34 rfl) ff_X3_36 (by exact hp16.2.1 47 (by decide) (by decide)) (by decide) rfl rfl (by first | exact Or.inl ⟨_, rfl⟩ | exact Or.inr ⟨_, rfl⟩) rfl ?_
  refine k_absS (fun S17 e17 => ?_)
  have hp17 : k_Pt 57 [(0, 10), (0, 11), (46, 0), (46, 1), (46, 2)] S17 := by rw [e17]; exact hp16.put _ (by decide) (by decide)
  clear e17
  refine gj_aload_n (q := 72) (gj_dk okX3_init 35 rfl) rfl rfl ?_
  refine gj_gR (q := 75) (j := 3) (w := 48) (gj_dk okX3_init 36 rfl) ff_X3_9 (by exact hp17.2.1 47 (by decide) (by decide)) (by decide) rfl (by exact hp17.2.2 47 3 (by decide) (by decide) (by decide) (by decide)) rfl ?_
  refine gj_iconst (q := 76) (gj_dk okX3_init 37 rfl) (by decide) rfl ?_
  refine gj_callS (q := 79) [jR 48, jI (-1)] rfl (c_X7_fill (by exact hp17.2.1 48 (by decide) (by decide)) (by decide) (by decide) _) (gj_dk okX3_init 38 rfl) ml_X3_40 me_X7_fill (gj_nm rfl) rfl (gj_kV fun S2 M2 h2 => ?_)
  obtain ⟨eS, eM⟩ := h2; subst eS; rw [k_fill (by decide)] at eM; subst eM
  exact gj_vret (gj_dk okX3_init 39 rfl) rfl ⟨rfl, hp17, rfl⟩
set_option maxHeartbeats 4000000 in
set_option maxRecDepth 20000 in
theorem k_X1_init_65 (hp : k_Pt 66 [(0, 10), (0, 11), (46, 1), (46, 2), (57, 10), (65, 0)] S) : gj_C G l 2 1 200 yX1_init cX1_init 1 none [jR 65] S (k_mF [48, 22] false) (gj_qV fun S' M' => k_Pt 67 [(0, 10), (0, 11), (46, 1), (46, 2), (57, 10)] S' ∧ k_mF [48, 22] false = M') := by
  refine gj_Cof (by decide +kernel) (Nat.le_of_ble_eq_true rfl) ?_
  refine gj_aload_n (q := 1) (gj_dk okX1_init 0 rfl) rfl rfl ?_
  refine gj_objInit (q := 4) (gj_dk okX1_init 1 rfl) (by decide) ml_X1_3 ki_Obj_init kd_Obj_init ⟨by decide, Nat.le_of_ble_eq_true rfl⟩ rfl ?_
  refine gj_aload_n (q := 5) (gj_dk okX1_init 2 rfl) rfl rfl ?_
  refine gj_sipush (q := 8) (gj_dk okX1_init 3 rfl) (by decide) rfl rfl ?_
  refine gj_newarr (q := 10) (kd := 0) (gj_dk okX1_init 4 rfl) (by decide) rfl ka_int (by decide) (by decide) (by decide) (by decide) rfl ?_
  refine k_made hp [(0, 10), (0, 11), (46, 1), (46, 2), (57, 10), (65, 0)] (by decide) (by decide) (by decide) (by decide) (by decide) (by decide) (fun S1 hp1 => ?_)
  replace hp1 : k_Pt 67 [(0, 10), (0, 11), (46, 1), (46, 2), (57, 10), (65, 0)] S1 := hp1
  refine gj_putR (q := 13) (i := 0) (gj_dk okX1_init 5 rfl) ff_X1_11 (by exact hp1.2.1 65 (by decide) (by decide)) (by decide) rfl rfl (by first | exact Or.inl ⟨_, rfl⟩ | exact Or.inr ⟨_, rfl⟩) rfl ?_
  refine k_absS (fun S2 e2 => ?_)
  have hp2 : k_Pt 67 [(0, 10), (0, 11), (46, 1), (46, 2), (57, 10)] S2 := by rw [e2]; exact hp1.put _ (by decide) (by decide)
  clear e2
  exact gj_vret (gj_dk okX1_init 6 rfl) rfl ⟨rfl, hp2, rfl⟩
set_option maxHeartbeats 4000000 in
set_option maxRecDepth 20000 in
theorem k_X3_init_57 (hp : k_Pt 58 [(0, 10), (0, 11), (46, 1), (46, 2), (57, 3), (57, 4), (57, 5), (57, 6), (57, 7), (57, 8), (57, 9), (57, 10)] S) : gj_C G l 3 9 283 yX3_init cX3_init 1 none [jR 57] S (k_mF [48, 22] false) (gj_qV fun S' M' => k_Pt 67 [(0, 10), (0, 11), (46, 1), (46, 2)] S' ∧ k_mF [58, 48, 22] false = M') := by
  refine gj_Cof (by decide +kernel) (Nat.le_of_ble_eq_true rfl) ?_
  refine gj_aload_n (q := 1) (gj_dk okX3_init 0 rfl) rfl rfl ?_
  refine gj_objInit (q := 4) (gj_dk okX3_init 1 rfl) (by decide) ml_X3_3 ki_Obj_init kd_Obj_init ⟨by decide, Nat.le_of_ble_eq_true rfl⟩ rfl ?_
  refine gj_aload_n (q := 5) (gj_dk okX3_init 2 rfl) rfl rfl ?_
  refine gj_bipush (q := 7) (gj_dk okX3_init 3 rfl) (by decide) rfl rfl ?_
  refine gj_newarr (q := 9) (kd := 0) (gj_dk okX3_init 4 rfl) (by decide) rfl ka_int (by decide) (by decide) (by decide) (by decide) rfl ?_
  refine k_made hp [(0, 10), (0, 11), (46, 1), (46, 2), (57, 3), (57, 4), (57, 5), (57, 6), (57, 7), (57, 8), (57, 9), (57, 10)] (by decide) (by decide) (by decide) (by decide) (by decide) (by decide) (fun S1 hp1 => ?_)
  replace hp1 : k_Pt 59 [(0, 10), (0, 11), (46, 1), (46, 2), (57, 3), (57, 4), (57, 5), (57, 6), (57, 7), (57, 8), (57, 9), (57, 10)] S1 := hp1
  refine gj_putR (q := 12) (i := 3) (gj_dk okX3_init 5 rfl) ff_X3_9 (by exact hp1.2.1 57 (by decide) (by decide)) (by decide) rfl rfl (by first | exact Or.inl ⟨_, rfl⟩ | exact Or.inr ⟨_, rfl⟩) rfl ?_
  refine k_absS (fun S2 e2 => ?_)
  have hp2 : k_Pt 59 [(0, 10), (0, 11), (46, 1), (46, 2), (57, 4), (57, 5), (57, 6), (57, 7), (57, 8), (57, 9), (57, 10)] S2 := by rw [e2]; exact hp1.put _ (by decide) (by decide)
  clear e2
  refine gj_aload_n (q := 13) (gj_dk okX3_init 6 rfl) rfl rfl ?_
  refine gj_bipush (q := 15) (gj_dk okX3_init 7 rfl) (by decide) rfl rfl ?_
  refine gj_newarr (q := 17) (kd := 0) (gj_dk okX3_init 8 rfl) (by decide) rfl ka_int (by decide) (by decide) (by decide) (by decide) rfl ?_
  refine k_made hp2 [(0, 10), (0, 11), (46, 1), (46, 2), (57, 4), (57, 5), (57, 6), (57, 7), (57, 8), (57, 9), (57, 10)] (by decide) (by decide) (by decide) (by decide) (by decide) (by decide) (fun S3 hp3 => ?_)
  replace hp3 : k_Pt 60 [(0, 10), (0, 11), (46, 1), (46, 2), (57, 4), (57, 5), (57, 6), (57, 7), (57, 8), (57, 9), (57, 10)] S3 := hp3
  refine gj_putR (q := 20) (i := 4) (gj_dk okX3_init 9 rfl) ff_X3_15 (by exact hp3.2.1 57 (by decide) (by decide)) (by decide) rfl rfl (by first | exact Or.inl ⟨_, rfl⟩ | exact Or.inr ⟨_, rfl⟩) rfl ?_
  refine k_absS (fun S4 e4 => ?_)
  have hp4 : k_Pt 60 [(0, 10), (0, 11), (46, 1), (46, 2), (57, 5), (57, 6), (57, 7), (57, 8), (57, 9), (57, 10)] S4 := by rw [e4]; exact hp3.put _ (by decide) (by decide)
  clear e4
  refine gj_aload_n (q := 21) (gj_dk okX3_init 10 rfl) rfl rfl ?_
  refine gj_bipush (q := 23) (gj_dk okX3_init 11 rfl) (by decide) rfl rfl ?_
  refine gj_newarr (q := 25) (kd := 0) (gj_dk okX3_init 12 rfl) (by decide) rfl ka_int (by decide) (by decide) (by decide) (by decide) rfl ?_
  refine k_made hp4 [(0, 10), (0, 11), (46, 1), (46, 2), (57, 5), (57, 6), (57, 7), (57, 8), (57, 9), (57, 10)] (by decide) (by decide) (by decide) (by decide) (by decide) (by decide) (fun S5 hp5 => ?_)
  replace hp5 : k_Pt 61 [(0, 10), (0, 11), (46, 1), (46, 2), (57, 5), (57, 6), (57, 7), (57, 8), (57, 9), (57, 10)] S5 := hp5
  refine gj_putR (q := 28) (i := 5) (gj_dk okX3_init 13 rfl) ff_X3_18 (by exact hp5.2.1 57 (by decide) (by decide)) (by decide) rfl rfl (by first | exact Or.inl ⟨_, rfl⟩ | exact Or.inr ⟨_, rfl⟩) rfl ?_
  refine k_absS (fun S6 e6 => ?_)
  have hp6 : k_Pt 61 [(0, 10), (0, 11), (46, 1), (46, 2), (57, 6), (57, 7), (57, 8), (57, 9), (57, 10)] S6 := by rw [e6]; exact hp5.put _ (by decide) (by decide)
  clear e6
  refine gj_aload_n (q := 29) (gj_dk okX3_init 14 rfl) rfl rfl ?_
  refine gj_bipush (q := 31) (gj_dk okX3_init 15 rfl) (by decide) rfl rfl ?_
  refine gj_newarr (q := 33) (kd := 0) (gj_dk okX3_init 16 rfl) (by decide) rfl ka_int (by decide) (by decide) (by decide) (by decide) rfl ?_
  refine k_made hp6 [(0, 10), (0, 11), (46, 1), (46, 2), (57, 6), (57, 7), (57, 8), (57, 9), (57, 10)] (by decide) (by decide) (by decide) (by decide) (by decide) (by decide) (fun S7 hp7 => ?_)
  replace hp7 : k_Pt 62 [(0, 10), (0, 11), (46, 1), (46, 2), (57, 6), (57, 7), (57, 8), (57, 9), (57, 10)] S7 := hp7
  refine gj_putR (q := 36) (i := 6) (gj_dk okX3_init 17 rfl) ff_X3_21 (by exact hp7.2.1 57 (by decide) (by decide)) (by decide) rfl rfl (by first | exact Or.inl ⟨_, rfl⟩ | exact Or.inr ⟨_, rfl⟩) rfl ?_
  refine k_absS (fun S8 e8 => ?_)
  have hp8 : k_Pt 62 [(0, 10), (0, 11), (46, 1), (46, 2), (57, 7), (57, 8), (57, 9), (57, 10)] S8 := by rw [e8]; exact hp7.put _ (by decide) (by decide)
  clear e8
  refine gj_aload_n (q := 37) (gj_dk okX3_init 18 rfl) rfl rfl ?_
  refine gj_bipush (q := 39) (gj_dk okX3_init 19 rfl) (by decide) rfl rfl ?_
  refine gj_newarr (q := 41) (kd := 0) (gj_dk okX3_init 20 rfl) (by decide) rfl ka_int (by decide) (by decide) (by decide) (by decide) rfl ?_
  refine k_made hp8 [(0, 10), (0, 11), (46, 1), (46, 2), (57, 7), (57, 8), (57, 9), (57, 10)] (by decide) (by decide) (by decide) (by decide) (by decide) (by decide) (fun S9 hp9 => ?_)
  replace hp9 : k_Pt 63 [(0, 10), (0, 11), (46, 1), (46, 2), (57, 7), (57, 8), (57, 9), (57, 10)] S9 := hp9
  refine gj_putR (q := 44) (i := 7) (gj_dk okX3_init 21 rfl) ff_X3_24 (by exact hp9.2.1 57 (by decide) (by decide)) (by decide) rfl rfl (by first | exact Or.inl ⟨_, rfl⟩ | exact Or.inr ⟨_, rfl⟩) rfl ?_
  refine k_absS (fun S10 e10 => ?_)
  have hp10 : k_Pt 63 [(0, 10), (0, 11), (46, 1), (46, 2), (57, 8), (57, 9), (57, 10)] S10 := by rw [e10]; exact hp9.put _ (by decide) (by decide)
  clear e10
  refine gj_aload_n (q := 45) (gj_dk okX3_init 22 rfl) rfl rfl ?_
  refine gj_bipush (q := 47) (gj_dk okX3_init 23 rfl) (by decide) rfl rfl ?_
  refine gj_newarr (q := 49) (kd := 0) (gj_dk okX3_init 24 rfl) (by decide) rfl ka_int (by decide) (by decide) (by decide) (by decide) rfl ?_
  refine k_made hp10 [(0, 10), (0, 11), (46, 1), (46, 2), (57, 8), (57, 9), (57, 10)] (by decide) (by decide) (by decide) (by decide) (by decide) (by decide) (fun S11 hp11 => ?_)
  replace hp11 : k_Pt 64 [(0, 10), (0, 11), (46, 1), (46, 2), (57, 8), (57, 9), (57, 10)] S11 := hp11
  refine gj_putR (q := 52) (i := 8) (gj_dk okX3_init 25 rfl) ff_X3_27 (by exact hp11.2.1 57 (by decide) (by decide)) (by decide) rfl rfl (by first | exact Or.inl ⟨_, rfl⟩ | exact Or.inr ⟨_, rfl⟩) rfl ?_
  refine k_absS (fun S12 e12 => ?_)
  have hp12 : k_Pt 64 [(0, 10), (0, 11), (46, 1), (46, 2), (57, 9), (57, 10)] S12 := by rw [e12]; exact hp11.put _ (by decide) (by decide)
  clear e12
  refine gj_aload_n (q := 53) (gj_dk okX3_init 26 rfl) rfl rfl ?_
  refine gj_bipush (q := 55) (gj_dk okX3_init 27 rfl) (by decide) rfl rfl ?_
  refine gj_newarr (q := 57) (kd := 0) (gj_dk okX3_init 28 rfl) (by decide) rfl ka_int (by decide) (by decide) (by decide) (by decide) rfl ?_
  refine k_made hp12 [(0, 10), (0, 11), (46, 1), (46, 2), (57, 9), (57, 10)] (by decide) (by decide) (by decide) (by decide) (by decide) (by decide) (fun S13 hp13 => ?_)
  replace hp13 : k_Pt 65 [(0, 10), (0, 11), (46, 1), (46, 2), (57, 9), (57, 10)] S13 := hp13
  refine gj_putR (q := 60) (i := 9) (gj_dk okX3_init 29 rfl) ff_X3_30 (by exact hp13.2.1 57 (by decide) (by decide)) (by decide) rfl rfl (by first | exact Or.inl ⟨_, rfl⟩ | exact Or.inr ⟨_, rfl⟩) rfl ?_
  refine k_absS (fun S14 e14 => ?_)
  have hp14 : k_Pt 65 [(0, 10), (0, 11), (46, 1), (46, 2), (57, 10)] S14 := by rw [e14]; exact hp13.put _ (by decide) (by decide)
  clear e14
  refine gj_aload_n (q := 61) (gj_dk okX3_init 30 rfl) rfl rfl ?_
  refine gj_new (q := 64) (ci := 1) (gj_dk okX3_init 31 rfl) rfl cl_X3_33 ins_X1 ini_X1 (by decide) (by decide) (by decide) rfl ?_
  refine k_made hp14 [(0, 10), (0, 11), (46, 1), (46, 2), (57, 10), (65, 0)] (by decide) (by decide) (by decide) (by decide) (by decide) (by decide) (fun S15 hp15 => ?_)
  replace hp15 : k_Pt 66 [(0, 10), (0, 11), (46, 1), (46, 2), (57, 10), (65, 0)] S15 := hp15
  refine gj_dup (q := 65) (gj_dk okX3_init 32 rfl) rfl rfl ?_
  refine gj_callN (q := 68) [] rfl (k_X1_init_65 hp15) (gj_dk okX3_init 33 rfl) mn_X3_35 me_X1_init (by decide) (gj_nm rfl) rfl (gj_kV fun S16 M16 h16 => ?_)
  obtain ⟨hp16, eM⟩ := h16; subst eM
  refine gj_putR (q := 71) (i := 10) (gj_dk okX3_init 34 rfl) ff_X3_36 (by exact hp16.2.1 57 (by decide) (by decide)) (by decide) rfl rfl (by first | exact Or.inl ⟨_, rfl⟩ | exact Or.inr ⟨_, rfl⟩) rfl ?_
  refine k_absS (fun S17 e17 => ?_)
  have hp17 : k_Pt 67 [(0, 10), (0, 11), (46, 1), (46, 2)] S17 := by rw [e17]; exact hp16.put _ (by decide) (by decide)
  clear e17
  refine gj_aload_n (q := 72) (gj_dk okX3_init 35 rfl) rfl rfl ?_
  refine gj_gR (q := 75) (j := 3) (w := 58) (gj_dk okX3_init 36 rfl) ff_X3_9 (by exact hp17.2.1 57 (by decide) (by decide)) (by decide) rfl (by exact hp17.2.2 57 3 (by decide) (by decide) (by decide) (by decide)) rfl ?_
  refine gj_iconst (q := 76) (gj_dk okX3_init 37 rfl) (by decide) rfl ?_
  refine gj_callS (q := 79) [jR 58, jI (-1)] rfl (c_X7_fill (by exact hp17.2.1 58 (by decide) (by decide)) (by decide) (by decide) _) (gj_dk okX3_init 38 rfl) ml_X3_40 me_X7_fill (gj_nm rfl) rfl (gj_kV fun S2 M2 h2 => ?_)
  obtain ⟨eS, eM⟩ := h2; subst eS; rw [k_fill (by decide)] at eM; subst eM
  exact gj_vret (gj_dk okX3_init 39 rfl) rfl ⟨rfl, hp17, rfl⟩
set_option maxHeartbeats 4000000 in
set_option maxRecDepth 20000 in
theorem k_X1_init_75 (hp : k_Pt 76 [(0, 10), (0, 11), (46, 2), (67, 10), (75, 0)] S) : gj_C G l 2 1 200 yX1_init cX1_init 1 none [jR 75] S (k_mF [58, 48, 22] false) (gj_qV fun S' M' => k_Pt 77 [(0, 10), (0, 11), (46, 2), (67, 10)] S' ∧ k_mF [58, 48, 22] false = M') := by
  refine gj_Cof (by decide +kernel) (Nat.le_of_ble_eq_true rfl) ?_
  refine gj_aload_n (q := 1) (gj_dk okX1_init 0 rfl) rfl rfl ?_
  refine gj_objInit (q := 4) (gj_dk okX1_init 1 rfl) (by decide) ml_X1_3 ki_Obj_init kd_Obj_init ⟨by decide, Nat.le_of_ble_eq_true rfl⟩ rfl ?_
  refine gj_aload_n (q := 5) (gj_dk okX1_init 2 rfl) rfl rfl ?_
  refine gj_sipush (q := 8) (gj_dk okX1_init 3 rfl) (by decide) rfl rfl ?_
  refine gj_newarr (q := 10) (kd := 0) (gj_dk okX1_init 4 rfl) (by decide) rfl ka_int (by decide) (by decide) (by decide) (by decide) rfl ?_
  refine k_made hp [(0, 10), (0, 11), (46, 2), (67, 10), (75, 0)] (by decide) (by decide) (by decide) (by decide) (by decide) (by decide) (fun S1 hp1 => ?_)
  replace hp1 : k_Pt 77 [(0, 10), (0, 11), (46, 2), (67, 10), (75, 0)] S1 := hp1
  refine gj_putR (q := 13) (i := 0) (gj_dk okX1_init 5 rfl) ff_X1_11 (by exact hp1.2.1 75 (by decide) (by decide)) (by decide) rfl rfl (by first | exact Or.inl ⟨_, rfl⟩ | exact Or.inr ⟨_, rfl⟩) rfl ?_
  refine k_absS (fun S2 e2 => ?_)
  have hp2 : k_Pt 77 [(0, 10), (0, 11), (46, 2), (67, 10)] S2 := by rw [e2]; exact hp1.put _ (by decide) (by decide)
  clear e2
  exact gj_vret (gj_dk okX1_init 6 rfl) rfl ⟨rfl, hp2, rfl⟩
set_option maxHeartbeats 4000000 in
set_option maxRecDepth 20000 in
theorem k_X3_init_67 (hp : k_Pt 68 [(0, 10), (0, 11), (46, 2), (67, 3), (67, 4), (67, 5), (67, 6), (67, 7), (67, 8), (67, 9), (67, 10)] S) : gj_C G l 3 9 283 yX3_init cX3_init 1 none [jR 67] S (k_mF [58, 48, 22] false) (gj_qV fun S' M' => k_Pt 77 [(0, 10), (0, 11), (46, 2)] S' ∧ k_mF [68, 58, 48, 22] false = M') := by
  refine gj_Cof (by decide +kernel) (Nat.le_of_ble_eq_true rfl) ?_
  refine gj_aload_n (q := 1) (gj_dk okX3_init 0 rfl) rfl rfl ?_
  refine gj_objInit (q := 4) (gj_dk okX3_init 1 rfl) (by decide) ml_X3_3 ki_Obj_init kd_Obj_init ⟨by decide, Nat.le_of_ble_eq_true rfl⟩ rfl ?_
  refine gj_aload_n (q := 5) (gj_dk okX3_init 2 rfl) rfl rfl ?_
  refine gj_bipush (q := 7) (gj_dk okX3_init 3 rfl) (by decide) rfl rfl ?_
  refine gj_newarr (q := 9) (kd := 0) (gj_dk okX3_init 4 rfl) (by decide) rfl ka_int (by decide) (by decide) (by decide) (by decide) rfl ?_
  refine k_made hp [(0, 10), (0, 11), (46, 2), (67, 3), (67, 4), (67, 5), (67, 6), (67, 7), (67, 8), (67, 9), (67, 10)] (by decide) (by decide) (by decide) (by decide) (by decide) (by decide) (fun S1 hp1 => ?_)
  replace hp1 : k_Pt 69 [(0, 10), (0, 11), (46, 2), (67, 3), (67, 4), (67, 5), (67, 6), (67, 7), (67, 8), (67, 9), (67, 10)] S1 := hp1
  refine gj_putR (q := 12) (i := 3) (gj_dk okX3_init 5 rfl) ff_X3_9 (by exact hp1.2.1 67 (by decide) (by decide)) (by decide) rfl rfl (by first | exact Or.inl ⟨_, rfl⟩ | exact Or.inr ⟨_, rfl⟩) rfl ?_
  refine k_absS (fun S2 e2 => ?_)
  have hp2 : k_Pt 69 [(0, 10), (0, 11), (46, 2), (67, 4), (67, 5), (67, 6), (67, 7), (67, 8), (67, 9), (67, 10)] S2 := by rw [e2]; exact hp1.put _ (by decide) (by decide)
  clear e2
  refine gj_aload_n (q := 13) (gj_dk okX3_init 6 rfl) rfl rfl ?_
  refine gj_bipush (q := 15) (gj_dk okX3_init 7 rfl) (by decide) rfl rfl ?_
  refine gj_newarr (q := 17) (kd := 0) (gj_dk okX3_init 8 rfl) (by decide) rfl ka_int (by decide) (by decide) (by decide) (by decide) rfl ?_
  refine k_made hp2 [(0, 10), (0, 11), (46, 2), (67, 4), (67, 5), (67, 6), (67, 7), (67, 8), (67, 9), (67, 10)] (by decide) (by decide) (by decide) (by decide) (by decide) (by decide) (fun S3 hp3 => ?_)
  replace hp3 : k_Pt 70 [(0, 10), (0, 11), (46, 2), (67, 4), (67, 5), (67, 6), (67, 7), (67, 8), (67, 9), (67, 10)] S3 := hp3
  refine gj_putR (q := 20) (i := 4) (gj_dk okX3_init 9 rfl) ff_X3_15 (by exact hp3.2.1 67 (by decide) (by decide)) (by decide) rfl rfl (by first | exact Or.inl ⟨_, rfl⟩ | exact Or.inr ⟨_, rfl⟩) rfl ?_
  refine k_absS (fun S4 e4 => ?_)
  have hp4 : k_Pt 70 [(0, 10), (0, 11), (46, 2), (67, 5), (67, 6), (67, 7), (67, 8), (67, 9), (67, 10)] S4 := by rw [e4]; exact hp3.put _ (by decide) (by decide)
  clear e4
  refine gj_aload_n (q := 21) (gj_dk okX3_init 10 rfl) rfl rfl ?_
  refine gj_bipush (q := 23) (gj_dk okX3_init 11 rfl) (by decide) rfl rfl ?_
  refine gj_newarr (q := 25) (kd := 0) (gj_dk okX3_init 12 rfl) (by decide) rfl ka_int (by decide) (by decide) (by decide) (by decide) rfl ?_
  refine k_made hp4 [(0, 10), (0, 11), (46, 2), (67, 5), (67, 6), (67, 7), (67, 8), (67, 9), (67, 10)] (by decide) (by decide) (by decide) (by decide) (by decide) (by decide) (fun S5 hp5 => ?_)
  replace hp5 : k_Pt 71 [(0, 10), (0, 11), (46, 2), (67, 5), (67, 6), (67, 7), (67, 8), (67, 9), (67, 10)] S5 := hp5
  refine gj_putR (q := 28) (i := 5) (gj_dk okX3_init 13 rfl) ff_X3_18 (by exact hp5.2.1 67 (by decide) (by decide)) (by decide) rfl rfl (by first | exact Or.inl ⟨_, rfl⟩ | exact Or.inr ⟨_, rfl⟩) rfl ?_
  refine k_absS (fun S6 e6 => ?_)
  have hp6 : k_Pt 71 [(0, 10), (0, 11), (46, 2), (67, 6), (67, 7), (67, 8), (67, 9), (67, 10)] S6 := by rw [e6]; exact hp5.put _ (by decide) (by decide)
  clear e6
  refine gj_aload_n (q := 29) (gj_dk okX3_init 14 rfl) rfl rfl ?_
  refine gj_bipush (q := 31) (gj_dk okX3_init 15 rfl) (by decide) rfl rfl ?_
  refine gj_newarr (q := 33) (kd := 0) (gj_dk okX3_init 16 rfl) (by decide) rfl ka_int (by decide) (by decide) (by decide) (by decide) rfl ?_
  refine k_made hp6 [(0, 10), (0, 11), (46, 2), (67, 6), (67, 7), (67, 8), (67, 9), (67, 10)] (by decide) (by decide) (by decide) (by decide) (by decide) (by decide) (fun S7 hp7 => ?_)
  replace hp7 : k_Pt 72 [(0, 10), (0, 11), (46, 2), (67, 6), (67, 7), (67, 8), (67, 9), (67, 10)] S7 := hp7
  refine gj_putR (q := 36) (i := 6) (gj_dk okX3_init 17 rfl) ff_X3_21 (by exact hp7.2.1 67 (by decide) (by decide)) (by decide) rfl rfl (by first | exact Or.inl ⟨_, rfl⟩ | exact Or.inr ⟨_, rfl⟩) rfl ?_
  refine k_absS (fun S8 e8 => ?_)
  have hp8 : k_Pt 72 [(0, 10), (0, 11), (46, 2), (67, 7), (67, 8), (67, 9), (67, 10)] S8 := by rw [e8]; exact hp7.put _ (by decide) (by decide)
  clear e8
  refine gj_aload_n (q := 37) (gj_dk okX3_init 18 rfl) rfl rfl ?_
  refine gj_bipush (q := 39) (gj_dk okX3_init 19 rfl) (by decide) rfl rfl ?_
  refine gj_newarr (q := 41) (kd := 0) (gj_dk okX3_init 20 rfl) (by decide) rfl ka_int (by decide) (by decide) (by decide) (by decide) rfl ?_
  refine k_made hp8 [(0, 10), (0, 11), (46, 2), (67, 7), (67, 8), (67, 9), (67, 10)] (by decide) (by decide) (by decide) (by decide) (by decide) (by decide) (fun S9 hp9 => ?_)
  replace hp9 : k_Pt 73 [(0, 10), (0, 11), (46, 2), (67, 7), (67, 8), (67, 9), (67, 10)] S9 := hp9
  refine gj_putR (q := 44) (i := 7) (gj_dk okX3_init 21 rfl) ff_X3_24 (by exact hp9.2.1 67 (by decide) (by decide)) (by decide) rfl rfl (by first | exact Or.inl ⟨_, rfl⟩ | exact Or.inr ⟨_, rfl⟩) rfl ?_
  refine k_absS (fun S10 e10 => ?_)
  have hp10 : k_Pt 73 [(0, 10), (0, 11), (46, 2), (67, 8), (67, 9), (67, 10)] S10 := by rw [e10]; exact hp9.put _ (by decide) (by decide)
  clear e10
  refine gj_aload_n (q := 45) (gj_dk okX3_init 22 rfl) rfl rfl ?_
  refine gj_bipush (q := 47) (gj_dk okX3_init 23 rfl) (by decide) rfl rfl ?_
  refine gj_newarr (q := 49) (kd := 0) (gj_dk okX3_init 24 rfl) (by decide) rfl ka_int (by decide) (by decide) (by decide) (by decide) rfl ?_
  refine k_made hp10 [(0, 10), (0, 11), (46, 2), (67, 8), (67, 9), (67, 10)] (by decide) (by decide) (by decide) (by decide) (by decide) (by decide) (fun S11 hp11 => ?_)
  replace hp11 : k_Pt 74 [(0, 10), (0, 11), (46, 2), (67, 8), (67, 9), (67, 10)] S11 := hp11
  refine gj_putR (q := 52) (i := 8) (gj_dk okX3_init 25 rfl) ff_X3_27 (by exact hp11.2.1 67 (by decide) (by decide)) (by decide) rfl rfl (by first | exact Or.inl ⟨_, rfl⟩ | exact Or.inr ⟨_, rfl⟩) rfl ?_
  refine k_absS (fun S12 e12 => ?_)
  have hp12 : k_Pt 74 [(0, 10), (0, 11), (46, 2), (67, 9), (67, 10)] S12 := by rw [e12]; exact hp11.put _ (by decide) (by decide)
  clear e12
  refine gj_aload_n (q := 53) (gj_dk okX3_init 26 rfl) rfl rfl ?_
  refine gj_bipush (q := 55) (gj_dk okX3_init 27 rfl) (by decide) rfl rfl ?_
  refine gj_newarr (q := 57) (kd := 0) (gj_dk okX3_init 28 rfl) (by decide) rfl ka_int (by decide) (by decide) (by decide) (by decide) rfl ?_
  refine k_made hp12 [(0, 10), (0, 11), (46, 2), (67, 9), (67, 10)] (by decide) (by decide) (by decide) (by decide) (by decide) (by decide) (fun S13 hp13 => ?_)
  replace hp13 : k_Pt 75 [(0, 10), (0, 11), (46, 2), (67, 9), (67, 10)] S13 := hp13
  refine gj_putR (q := 60) (i := 9) (gj_dk okX3_init 29 rfl) ff_X3_30 (by exact hp13.2.1 67 (by decide) (by decide)) (by decide) rfl rfl (by first | exact Or.inl ⟨_, rfl⟩ | exact Or.inr ⟨_, rfl⟩) rfl ?_
  refine k_absS (fun S14 e14 => ?_)
  have hp14 : k_Pt 75 [(0, 10), (0, 11), (46, 2), (67, 10)] S14 := by rw [e14]; exact hp13.put _ (by decide) (by decide)
  clear e14
  refine gj_aload_n (q := 61) (gj_dk okX3_init 30 rfl) rfl rfl ?_
  refine gj_new (q := 64) (ci := 1) (gj_dk okX3_init 31 rfl) rfl cl_X3_33 ins_X1 ini_X1 (by decide) (by decide) (by decide) rfl ?_
  refine k_made hp14 [(0, 10), (0, 11), (46, 2), (67, 10), (75, 0)] (by decide) (by decide) (by decide) (by decide) (by decide) (by decide) (fun S15 hp15 => ?_)
  replace hp15 : k_Pt 76 [(0, 10), (0, 11), (46, 2), (67, 10), (75, 0)] S15 := hp15
  refine gj_dup (q := 65) (gj_dk okX3_init 32 rfl) rfl rfl ?_
  refine gj_callN (q := 68) [] rfl (k_X1_init_75 hp15) (gj_dk okX3_init 33 rfl) mn_X3_35 me_X1_init (by decide) (gj_nm rfl) rfl (gj_kV fun S16 M16 h16 => ?_)
  obtain ⟨hp16, eM⟩ := h16; subst eM
  refine gj_putR (q := 71) (i := 10) (gj_dk okX3_init 34 rfl) ff_X3_36 (by exact hp16.2.1 67 (by decide) (by decide)) (by decide) rfl rfl (by first | exact Or.inl ⟨_, rfl⟩ | exact Or.inr ⟨_, rfl⟩) rfl ?_
  refine k_absS (fun S17 e17 => ?_)
  have hp17 : k_Pt 77 [(0, 10), (0, 11), (46, 2)] S17 := by rw [e17]; exact hp16.put _ (by decide) (by decide)
  clear e17
  refine gj_aload_n (q := 72) (gj_dk okX3_init 35 rfl) rfl rfl ?_
  refine gj_gR (q := 75) (j := 3) (w := 68) (gj_dk okX3_init 36 rfl) ff_X3_9 (by exact hp17.2.1 67 (by decide) (by decide)) (by decide) rfl (by exact hp17.2.2 67 3 (by decide) (by decide) (by decide) (by decide)) rfl ?_
  refine gj_iconst (q := 76) (gj_dk okX3_init 37 rfl) (by decide) rfl ?_
  refine gj_callS (q := 79) [jR 68, jI (-1)] rfl (c_X7_fill (by exact hp17.2.1 68 (by decide) (by decide)) (by decide) (by decide) _) (gj_dk okX3_init 38 rfl) ml_X3_40 me_X7_fill (gj_nm rfl) rfl (gj_kV fun S2 M2 h2 => ?_)
  obtain ⟨eS, eM⟩ := h2; subst eS; rw [k_fill (by decide)] at eM; subst eM
  exact gj_vret (gj_dk okX3_init 39 rfl) rfl ⟨rfl, hp17, rfl⟩
set_option maxHeartbeats 4000000 in
set_option maxRecDepth 20000 in
theorem k_X11_init_0 (hp : k_Pt 1 [(0, 0), (0, 1), (0, 2), (0, 3), (0, 4), (0, 5), (0, 6), (0, 7), (0, 8), (0, 9), (0, 10), (0, 11)] S) : gj_C G l 4 78 3767 yX11_init cX11_init 2 none [jR 0] S (k_mF [] false) (gj_qV fun S' M' => k_Pt 79 [] S' ∧ k_mF [68, 58, 48, 22] false = M') := by
  refine gj_Cof (by decide +kernel) (Nat.le_of_ble_eq_true rfl) ?_
  refine gj_aload_n (q := 1) (gj_dk okX11_init 0 rfl) rfl rfl ?_
  refine gj_objInit (q := 4) (gj_dk okX11_init 1 rfl) (by decide) ml_X11_1 ki_Obj_init kd_Obj_init ⟨by decide, Nat.le_of_ble_eq_true rfl⟩ rfl ?_
  refine gj_aload_n (q := 5) (gj_dk okX11_init 2 rfl) rfl rfl ?_
  refine gj_new (q := 8) (ci := 8) (gj_dk okX11_init 3 rfl) rfl cl_X11_7 ins_X9 ini_X9 (by decide) (by decide) (by decide) rfl ?_
  refine k_made hp [(0, 0), (0, 1), (0, 2), (0, 3), (0, 4), (0, 5), (0, 6), (0, 7), (0, 8), (0, 9), (0, 10), (0, 11), (1, 0)] (by decide) (by decide) (by decide) (by decide) (by decide) (by decide) (fun S1 hp1 => ?_)
  replace hp1 : k_Pt 2 [(0, 0), (0, 1), (0, 2), (0, 3), (0, 4), (0, 5), (0, 6), (0, 7), (0, 8), (0, 9), (0, 10), (0, 11), (1, 0)] S1 := hp1
  refine gj_dup (q := 9) (gj_dk okX11_init 4 rfl) rfl rfl ?_
  refine gj_callN (q := 12) [] rfl (k_X9_init_1 hp1) (gj_dk okX11_init 5 rfl) mn_X11_9 me_X9_init (by decide) (gj_nm rfl) rfl (gj_kV fun S2 M2 h2 => ?_)
  obtain ⟨hp2, eM⟩ := h2; subst eM
  refine gj_putR (q := 15) (i := 0) (gj_dk okX11_init 6 rfl) ff_X11_10 (by exact hp2.2.1 0 (by decide) (by decide)) (by decide) rfl rfl (by first | exact Or.inl ⟨_, rfl⟩ | exact Or.inr ⟨_, rfl⟩) rfl ?_
  refine k_absS (fun S3 e3 => ?_)
  have hp3 : k_Pt 3 [(0, 1), (0, 2), (0, 3), (0, 4), (0, 5), (0, 6), (0, 7), (0, 8), (0, 9), (0, 10), (0, 11)] S3 := by rw [e3]; exact hp2.put _ (by decide) (by decide)
  clear e3
  refine gj_aload_n (q := 16) (gj_dk okX11_init 7 rfl) rfl rfl ?_
  refine gj_new (q := 19) (ci := 5) (gj_dk okX11_init 8 rfl) rfl cl_X11_16 ins_X5 ini_X5 (by decide) (by decide) (by decide) rfl ?_
  refine k_made hp3 [(0, 1), (0, 2), (0, 3), (0, 4), (0, 5), (0, 6), (0, 7), (0, 8), (0, 9), (0, 10), (0, 11), (3, 10), (3, 11), (3, 12), (3, 13), (3, 14), (3, 15)] (by decide) (by decide) (by decide) (by decide) (by decide) (by decide) (fun S4 hp4 => ?_)
  replace hp4 : k_Pt 4 [(0, 1), (0, 2), (0, 3), (0, 4), (0, 5), (0, 6), (0, 7), (0, 8), (0, 9), (0, 10), (0, 11), (3, 10), (3, 11), (3, 12), (3, 13), (3, 14), (3, 15)] S4 := hp4
  refine gj_dup (q := 20) (gj_dk okX11_init 9 rfl) rfl rfl ?_
  refine gj_callN (q := 23) [] rfl (k_X5_init_3 hp4) (gj_dk okX11_init 10 rfl) mn_X11_18 me_X5_init (by decide) (gj_nm rfl) rfl (gj_kV fun S5 M5 h5 => ?_)
  obtain ⟨hp5, eM⟩ := h5; subst eM
  refine gj_putR (q := 26) (i := 1) (gj_dk okX11_init 11 rfl) ff_X11_19 (by exact hp5.2.1 0 (by decide) (by decide)) (by decide) rfl rfl (by first | exact Or.inl ⟨_, rfl⟩ | exact Or.inr ⟨_, rfl⟩) rfl ?_
  refine k_absS (fun S6 e6 => ?_)
  have hp6 : k_Pt 10 [(0, 2), (0, 3), (0, 4), (0, 5), (0, 6), (0, 7), (0, 8), (0, 9), (0, 10), (0, 11)] S6 := by rw [e6]; exact hp5.put _ (by decide) (by decide)
  clear e6
  refine gj_aload_n (q := 27) (gj_dk okX11_init 12 rfl) rfl rfl ?_
  refine gj_new (q := 30) (ci := 6) (gj_dk okX11_init 13 rfl) rfl cl_X11_23 ins_X6 ini_X6 (by decide) (by decide) (by decide) rfl ?_
  refine k_made hp6 [(0, 2), (0, 3), (0, 4), (0, 5), (0, 6), (0, 7), (0, 8), (0, 9), (0, 10), (0, 11), (10, 0), (10, 1), (10, 2), (10, 3), (10, 4)] (by decide) (by decide) (by decide) (by decide) (by decide) (by decide) (fun S7 hp7 => ?_)
  replace hp7 : k_Pt 11 [(0, 2), (0, 3), (0, 4), (0, 5), (0, 6), (0, 7), (0, 8), (0, 9), (0, 10), (0, 11), (10, 0), (10, 1), (10, 2), (10, 3), (10, 4)] S7 := hp7
  refine gj_dup (q := 31) (gj_dk okX11_init 14 rfl) rfl rfl ?_
  refine gj_aload_n (q := 32) (gj_dk okX11_init 15 rfl) rfl rfl ?_
  refine gj_gR (q := 35) (j := 0) (w := 1) (gj_dk okX11_init 16 rfl) ff_X11_10 (by exact hp7.2.1 0 (by decide) (by decide)) (by decide) rfl (by exact hp7.2.2 0 0 (by decide) (by decide) (by decide) (by decide)) rfl ?_
  refine gj_aload_n (q := 36) (gj_dk okX11_init 17 rfl) rfl rfl ?_
  refine gj_gR (q := 39) (j := 1) (w := 3) (gj_dk okX11_init 18 rfl) ff_X11_19 (by exact hp7.2.1 0 (by decide) (by decide)) (by decide) rfl (by exact hp7.2.2 0 1 (by decide) (by decide) (by decide) (by decide)) rfl ?_
  refine gj_callI (q := 42) [jR 1, jR 3] rfl (k_X6_init_10 hp7) (gj_dk okX11_init 19 rfl) ml_X11_25 me_X6_init (by decide) (gj_nm rfl) rfl (gj_kV fun S8 M8 h8 => ?_)
  obtain ⟨hp8, eM⟩ := h8; subst eM
  refine gj_putR (q := 45) (i := 2) (gj_dk okX11_init 20 rfl) ff_X11_28 (by exact hp8.2.1 0 (by decide) (by decide)) (by decide) rfl rfl (by first | exact Or.inl ⟨_, rfl⟩ | exact Or.inr ⟨_, rfl⟩) rfl ?_
  refine k_absS (fun S9 e9 => ?_)
  have hp9 : k_Pt 14 [(0, 3), (0, 4), (0, 5), (0, 6), (0, 7), (0, 8), (0, 9), (0, 10), (0, 11)] S9 := by rw [e9]; exact hp8.put _ (by decide) (by decide)
  clear e9
  refine gj_aload_n (q := 46) (gj_dk okX11_init 21 rfl) rfl rfl ?_
  refine gj_new (q := 49) (ci := 5) (gj_dk okX11_init 22 rfl) rfl cl_X11_16 ins_X5 ini_X5 (by decide) (by decide) (by decide) rfl ?_
  refine k_made hp9 [(0, 3), (0, 4), (0, 5), (0, 6), (0, 7), (0, 8), (0, 9), (0, 10), (0, 11), (14, 10), (14, 11), (14, 12), (14, 13), (14, 14), (14, 15)] (by decide) (by decide) (by decide) (by decide) (by decide) (by decide) (fun S10 hp10 => ?_)
  replace hp10 : k_Pt 15 [(0, 3), (0, 4), (0, 5), (0, 6), (0, 7), (0, 8), (0, 9), (0, 10), (0, 11), (14, 10), (14, 11), (14, 12), (14, 13), (14, 14), (14, 15)] S10 := hp10
  refine gj_dup (q := 50) (gj_dk okX11_init 23 rfl) rfl rfl ?_
  refine gj_callN (q := 53) [] rfl (k_X5_init_14 hp10) (gj_dk okX11_init 24 rfl) mn_X11_18 me_X5_init (by decide) (gj_nm rfl) rfl (gj_kV fun S11 M11 h11 => ?_)
  obtain ⟨hp11, eM⟩ := h11; subst eM
  refine gj_putR (q := 56) (i := 3) (gj_dk okX11_init 25 rfl) ff_X11_32 (by exact hp11.2.1 0 (by decide) (by decide)) (by decide) rfl rfl (by first | exact Or.inl ⟨_, rfl⟩ | exact Or.inr ⟨_, rfl⟩) rfl ?_
  refine k_absS (fun S12 e12 => ?_)
  have hp12 : k_Pt 21 [(0, 4), (0, 5), (0, 6), (0, 7), (0, 8), (0, 9), (0, 10), (0, 11)] S12 := by rw [e12]; exact hp11.put _ (by decide) (by decide)
  clear e12
  refine gj_aload_n (q := 57) (gj_dk okX11_init 26 rfl) rfl rfl ?_
  refine gj_new (q := 60) (ci := 3) (gj_dk okX11_init 27 rfl) rfl cl_X11_35 ins_X3 ini_X3 (by decide) (by decide) (by decide) rfl ?_
  refine k_made hp12 [(0, 4), (0, 5), (0, 6), (0, 7), (0, 8), (0, 9), (0, 10), (0, 11), (21, 3), (21, 4), (21, 5), (21, 6), (21, 7), (21, 8), (21, 9), (21, 10)] (by decide) (by decide) (by decide) (by decide) (by decide) (by decide) (fun S13 hp13 => ?_)
  replace hp13 : k_Pt 22 [(0, 4), (0, 5), (0, 6), (0, 7), (0, 8), (0, 9), (0, 10), (0, 11), (21, 3), (21, 4), (21, 5), (21, 6), (21, 7), (21, 8), (21, 9), (21, 10)] S13 := hp13
  refine gj_dup (q := 61) (gj_dk okX11_init 28 rfl) rfl rfl ?_
  refine gj_callI (q := 64) [] rfl (k_X3_init_21 hp13) (gj_dk okX11_init 29 rfl) ml_X11_37 me_X3_init (by decide) (gj_nm rfl) rfl (gj_kV fun S14 M14 h14 => ?_)
  obtain ⟨hp14, eM⟩ := h14; subst eM
  refine gj_putR (q := 67) (i := 4) (gj_dk okX11_init 30 rfl) ff_X11_38 (by exact hp14.2.1 0 (by decide) (by decide)) (by decide) rfl rfl (by first | exact Or.inl ⟨_, rfl⟩ | exact Or.inr ⟨_, rfl⟩) rfl ?_
  refine k_absS (fun S15 e15 => ?_)
  have hp15 : k_Pt 31 [(0, 5), (0, 6), (0, 7), (0, 8), (0, 9), (0, 10), (0, 11)] S15 := by rw [e15]; exact hp14.put _ (by decide) (by decide)
  clear e15
  refine gj_aload_n (q := 68) (gj_dk okX11_init 31 rfl) rfl rfl ?_
  refine gj_new (q := 71) (ci := 4) (gj_dk okX11_init 32 rfl) rfl cl_X11_42 ins_X4 ini_X4 (by decide) (by decide) (by decide) rfl ?_
  refine k_made hp15 [(0, 5), (0, 6), (0, 7), (0, 8), (0, 9), (0, 10), (0, 11), (31, 0), (31, 1), (31, 2), (31, 3), (31, 4)] (by decide) (by decide) (by decide) (by decide) (by decide) (by decide) (fun S16 hp16 => ?_)
  replace hp16 : k_Pt 32 [(0, 5), (0, 6), (0, 7), (0, 8), (0, 9), (0, 10), (0, 11), (31, 0), (31, 1), (31, 2), (31, 3), (31, 4)] S16 := hp16
  refine gj_dup (q := 72) (gj_dk okX11_init 33 rfl) rfl rfl ?_
  refine gj_aload_n (q := 73) (gj_dk okX11_init 34 rfl) rfl rfl ?_
  refine gj_gR (q := 76) (j := 3) (w := 14) (gj_dk okX11_init 35 rfl) ff_X11_32 (by exact hp16.2.1 0 (by decide) (by decide)) (by decide) rfl (by exact hp16.2.2 0 3 (by decide) (by decide) (by decide) (by decide)) rfl ?_
  refine gj_aload_n (q := 77) (gj_dk okX11_init 36 rfl) rfl rfl ?_
  refine gj_gR (q := 80) (j := 4) (w := 21) (gj_dk okX11_init 37 rfl) ff_X11_38 (by exact hp16.2.1 0 (by decide) (by decide)) (by decide) rfl (by exact hp16.2.2 0 4 (by decide) (by decide) (by decide) (by decide)) rfl ?_
  refine gj_callI (q := 83) [jR 14, jR 21] rfl (k_X4_init_31 hp16) (gj_dk okX11_init 38 rfl) ml_X11_44 me_X4_init (by decide) (gj_nm rfl) rfl (gj_kV fun S17 M17 h17 => ?_)
  obtain ⟨hp17, eM⟩ := h17; subst eM
  refine gj_putR (q := 86) (i := 5) (gj_dk okX11_init 39 rfl) ff_X11_47 (by exact hp17.2.1 0 (by decide) (by decide)) (by decide) rfl rfl (by first | exact Or.inl ⟨_, rfl⟩ | exact Or.inr ⟨_, rfl⟩) rfl ?_
  refine k_absS (fun S18 e18 => ?_)
  have hp18 : k_Pt 35 [(0, 6), (0, 7), (0, 8), (0, 9), (0, 10), (0, 11)] S18 := by rw [e18]; exact hp17.put _ (by decide) (by decide)
  clear e18
  refine gj_aload_n (q := 87) (gj_dk okX11_init 40 rfl) rfl rfl ?_
  refine gj_new (q := 90) (ci := 2) (gj_dk okX11_init 41 rfl) rfl cl_X11_51 ins_X2 ini_X2 (by decide) (by decide) (by decide) rfl ?_
  refine k_made hp18 [(0, 6), (0, 7), (0, 8), (0, 9), (0, 10), (0, 11), (35, 0), (35, 1), (35, 2), (35, 3), (35, 4), (35, 5), (35, 6)] (by decide) (by decide) (by decide) (by decide) (by decide) (by decide) (fun S19 hp19 => ?_)
  replace hp19 : k_Pt 36 [(0, 6), (0, 7), (0, 8), (0, 9), (0, 10), (0, 11), (35, 0), (35, 1), (35, 2), (35, 3), (35, 4), (35, 5), (35, 6)] S19 := hp19
  refine gj_dup (q := 91) (gj_dk okX11_init 42 rfl) rfl rfl ?_
  refine gj_aload_n (q := 92) (gj_dk okX11_init 43 rfl) rfl rfl ?_
  refine gj_gR (q := 95) (j := 3) (w := 14) (gj_dk okX11_init 44 rfl) ff_X11_32 (by exact hp19.2.1 0 (by decide) (by decide)) (by decide) rfl (by exact hp19.2.2 0 3 (by decide) (by decide) (by decide) (by decide)) rfl ?_
  refine gj_aload_n (q := 96) (gj_dk okX11_init 45 rfl) rfl rfl ?_
  refine gj_gR (q := 99) (j := 4) (w := 21) (gj_dk okX11_init 46 rfl) ff_X11_38 (by exact hp19.2.1 0 (by decide) (by decide)) (by decide) rfl (by exact hp19.2.2 0 4 (by decide) (by decide) (by decide) (by decide)) rfl ?_
  refine gj_callI (q := 102) [jR 14, jR 21] rfl (k_X2_init_35 hp19) (gj_dk okX11_init 47 rfl) ml_X11_53 me_X2_init (by decide) (gj_nm rfl) rfl (gj_kV fun S20 M20 h20 => ?_)
  obtain ⟨hp20, eM⟩ := h20; subst eM
  refine gj_putR (q := 105) (i := 6) (gj_dk okX11_init 48 rfl) ff_X11_54 (by exact hp20.2.1 0 (by decide) (by decide)) (by decide) rfl rfl (by first | exact Or.inl ⟨_, rfl⟩ | exact Or.inr ⟨_, rfl⟩) rfl ?_
  refine k_absS (fun S21 e21 => ?_)
  have hp21 : k_Pt 41 [(0, 7), (0, 8), (0, 9), (0, 10), (0, 11)] S21 := by rw [e21]; exact hp20.put _ (by decide) (by decide)
  clear e21
  refine gj_aload_n (q := 106) (gj_dk okX11_init 49 rfl) rfl rfl ?_
  refine gj_new (q := 109) (ci := 0) (gj_dk okX11_init 50 rfl) rfl cl_X11_58 ins_X0 ini_X0 (by decide) (by decide) (by decide) rfl ?_
  refine k_made hp21 [(0, 7), (0, 8), (0, 9), (0, 10), (0, 11), (41, 0), (41, 1), (41, 2)] (by decide) (by decide) (by decide) (by decide) (by decide) (by decide) (fun S22 hp22 => ?_)
  replace hp22 : k_Pt 42 [(0, 7), (0, 8), (0, 9), (0, 10), (0, 11), (41, 0), (41, 1), (41, 2)] S22 := hp22
  refine gj_dup (q := 110) (gj_dk okX11_init 51 rfl) rfl rfl ?_
  refine gj_aload_n (q := 111) (gj_dk okX11_init 52 rfl) rfl rfl ?_
  refine gj_gR (q := 114) (j := 3) (w := 14) (gj_dk okX11_init 53 rfl) ff_X11_32 (by exact hp22.2.1 0 (by decide) (by decide)) (by decide) rfl (by exact hp22.2.2 0 3 (by decide) (by decide) (by decide) (by decide)) rfl ?_
  refine gj_callI (q := 117) [jR 14] rfl (k_X0_init_41 hp22) (gj_dk okX11_init 54 rfl) ml_X11_60 me_X0_init (by decide) (gj_nm rfl) rfl (gj_kV fun S23 M23 h23 => ?_)
  obtain ⟨hp23, eM⟩ := h23; subst eM
  refine gj_putR (q := 120) (i := 7) (gj_dk okX11_init 55 rfl) ff_X11_63 (by exact hp23.2.1 0 (by decide) (by decide)) (by decide) rfl rfl (by first | exact Or.inl ⟨_, rfl⟩ | exact Or.inr ⟨_, rfl⟩) rfl ?_
  refine k_absS (fun S24 e24 => ?_)
  have hp24 : k_Pt 44 [(0, 8), (0, 9), (0, 10), (0, 11)] S24 := by rw [e24]; exact hp23.put _ (by decide) (by decide)
  clear e24
  refine gj_aload_n (q := 121) (gj_dk okX11_init 56 rfl) rfl rfl ?_
  refine gj_new (q := 124) (ci := 7) (gj_dk okX11_init 57 rfl) rfl cl_X11_67 ins_X8 ini_X8 (by decide) (by decide) (by decide) rfl ?_
  refine k_made hp24 [(0, 8), (0, 9), (0, 10), (0, 11), (44, 0), (44, 1), (44, 2), (44, 3), (44, 4)] (by decide) (by decide) (by decide) (by decide) (by decide) (by decide) (fun S25 hp25 => ?_)
  replace hp25 : k_Pt 45 [(0, 8), (0, 9), (0, 10), (0, 11), (44, 0), (44, 1), (44, 2), (44, 3), (44, 4)] S25 := hp25
  refine gj_dup (q := 125) (gj_dk okX11_init 58 rfl) rfl rfl ?_
  refine gj_aload_n (q := 126) (gj_dk okX11_init 59 rfl) rfl rfl ?_
  refine gj_gR (q := 129) (j := 3) (w := 14) (gj_dk okX11_init 60 rfl) ff_X11_32 (by exact hp25.2.1 0 (by decide) (by decide)) (by decide) rfl (by exact hp25.2.2 0 3 (by decide) (by decide) (by decide) (by decide)) rfl ?_
  refine gj_aload_n (q := 130) (gj_dk okX11_init 61 rfl) rfl rfl ?_
  refine gj_gR (q := 133) (j := 4) (w := 21) (gj_dk okX11_init 62 rfl) ff_X11_38 (by exact hp25.2.1 0 (by decide) (by decide)) (by decide) rfl (by exact hp25.2.2 0 4 (by decide) (by decide) (by decide) (by decide)) rfl ?_
  refine gj_aload_n (q := 134) (gj_dk okX11_init 63 rfl) rfl rfl ?_
  refine gj_gR (q := 137) (j := 5) (w := 31) (gj_dk okX11_init 64 rfl) ff_X11_47 (by exact hp25.2.1 0 (by decide) (by decide)) (by decide) rfl (by exact hp25.2.2 0 5 (by decide) (by decide) (by decide) (by decide)) rfl ?_
  refine gj_aload_n (q := 138) (gj_dk okX11_init 65 rfl) rfl rfl ?_
  refine gj_gR (q := 141) (j := 6) (w := 35) (gj_dk okX11_init 66 rfl) ff_X11_54 (by exact hp25.2.1 0 (by decide) (by decide)) (by decide) rfl (by exact hp25.2.2 0 6 (by decide) (by decide) (by decide) (by decide)) rfl ?_
  refine gj_callI (q := 144) [jR 14, jR 21, jR 31, jR 35] rfl (k_X8_init_44 hp25) (gj_dk okX11_init 67 rfl) ml_X11_69 me_X8_init (by decide) (gj_nm rfl) rfl (gj_kV fun S26 M26 h26 => ?_)
  obtain ⟨hp26, eM⟩ := h26; subst eM
  refine gj_putR (q := 147) (i := 8) (gj_dk okX11_init 68 rfl) ff_X11_72 (by exact hp26.2.1 0 (by decide) (by decide)) (by decide) rfl rfl (by first | exact Or.inl ⟨_, rfl⟩ | exact Or.inr ⟨_, rfl⟩) rfl ?_
  refine k_absS (fun S27 e27 => ?_)
  have hp27 : k_Pt 46 [(0, 9), (0, 10), (0, 11)] S27 := by rw [e27]; exact hp26.put _ (by decide) (by decide)
  clear e27
  refine gj_aload_n (q := 148) (gj_dk okX11_init 69 rfl) rfl rfl ?_
  refine gj_iconst (q := 149) (gj_dk okX11_init 70 rfl) (by decide) rfl ?_
  refine gj_newarrR (q := 152) (kd := 4) (gj_dk okX11_init 71 rfl) (by decide) cl_X11_35 (by decide) (by decide) (by decide) (by decide) rfl ?_
  refine k_made hp27 [(0, 9), (0, 10), (0, 11), (46, 0), (46, 1), (46, 2)] (by decide) (by decide) (by decide) (by decide) (by decide) (by decide) (fun S28 hp28 => ?_)
  replace hp28 : k_Pt 47 [(0, 9), (0, 10), (0, 11), (46, 0), (46, 1), (46, 2)] S28 := hp28
  refine gj_putR (q := 155) (i := 9) (gj_dk okX11_init 72 rfl) ff_X11_76 (by exact hp28.2.1 0 (by decide) (by decide)) (by decide) rfl rfl (by first | exact Or.inl ⟨_, rfl⟩ | exact Or.inr ⟨_, rfl⟩) rfl ?_
  refine k_absS (fun S29 e29 => ?_)
  have hp29 : k_Pt 47 [(0, 10), (0, 11), (46, 0), (46, 1), (46, 2)] S29 := by rw [e29]; exact hp28.put _ (by decide) (by decide)
  clear e29
  refine gj_iconst (q := 156) (gj_dk okX11_init 73 rfl) (by decide) rfl ?_
  refine gj_istore_n (q := 157) (gj_dk okX11_init 74 rfl) (by decide) rfl ?_
  refine gj_iload_n (q := 158) (gj_dk okX11_init 75 rfl) rfl rfl ?_
  refine gj_aload_n (q := 159) (gj_dk okX11_init 76 rfl) rfl rfl ?_
  refine gj_gR (q := 162) (j := 9) (w := 46) (gj_dk okX11_init 77 rfl) ff_X11_76 (by exact hp29.2.1 0 (by decide) (by decide)) (by decide) rfl (by exact hp29.2.2 0 9 (by decide) (by decide) (by decide) (by decide)) rfl ?_
  refine gj_alen (q := 163) (gj_dk okX11_init 78 rfl) (by exact hp29.2.1 46 (by decide) (by decide)) (by decide) rfl ?_
  refine gj_icmp_ge (q := 166) (tgt := 185) (gj_dk okX11_init 79 rfl) (by decide) rfl (fun cc => absurd cc (by decide)) (fun _ => ?_)
  refine gj_aload_n (q := 167) (gj_dk okX11_init 80 rfl) rfl rfl ?_
  refine gj_gR (q := 170) (j := 9) (w := 46) (gj_dk okX11_init 81 rfl) ff_X11_76 (by exact hp29.2.1 0 (by decide) (by decide)) (by decide) rfl (by exact hp29.2.2 0 9 (by decide) (by decide) (by decide) (by decide)) rfl ?_
  refine gj_iload_n (q := 171) (gj_dk okX11_init 82 rfl) rfl rfl ?_
  refine gj_new (q := 174) (ci := 3) (gj_dk okX11_init 83 rfl) rfl cl_X11_35 ins_X3 ini_X3 (by decide) (by decide) (by decide) rfl ?_
  refine k_made hp29 [(0, 10), (0, 11), (46, 0), (46, 1), (46, 2), (47, 3), (47, 4), (47, 5), (47, 6), (47, 7), (47, 8), (47, 9), (47, 10)] (by decide) (by decide) (by decide) (by decide) (by decide) (by decide) (fun S30 hp30 => ?_)
  replace hp30 : k_Pt 48 [(0, 10), (0, 11), (46, 0), (46, 1), (46, 2), (47, 3), (47, 4), (47, 5), (47, 6), (47, 7), (47, 8), (47, 9), (47, 10)] S30 := hp30
  refine gj_dup (q := 175) (gj_dk okX11_init 84 rfl) rfl rfl ?_
  refine gj_callI (q := 178) [] rfl (k_X3_init_47 hp30) (gj_dk okX11_init 85 rfl) ml_X11_37 me_X3_init (by decide) (gj_nm rfl) rfl (gj_kV fun S31 M31 h31 => ?_)
  obtain ⟨hp31, eM⟩ := h31; subst eM
  refine gj_aastL (q := 179) (gj_dk okX11_init 86 rfl) (by exact hp31.2.1 46 (by decide) (by decide)) (by exact hp31.2.1 47 (by decide) (by decide)) (by decide) (by decide) rfl ?_
  refine k_absS (fun S32 e32 => ?_)
  have hp32 : k_Pt 57 [(0, 10), (0, 11), (46, 1), (46, 2)] S32 := by rw [e32]; exact hp31.put _ (by decide) (by decide)
  clear e32
  refine gj_iinc (q := 182) (v := 1) (gj_dk okX11_init 87 rfl) rfl (by decide) rfl rfl ?_
  refine gj_goto (tgt := 157) (gj_dk okX11_init 88 rfl) (by decide) ?_
  refine gj_iload_n (q := 158) (gj_dk okX11_init 75 rfl) rfl rfl ?_
  refine gj_aload_n (q := 159) (gj_dk okX11_init 76 rfl) rfl rfl ?_
  refine gj_gR (q := 162) (j := 9) (w := 46) (gj_dk okX11_init 77 rfl) ff_X11_76 (by exact hp32.2.1 0 (by decide) (by decide)) (by decide) rfl (by exact hp32.2.2 0 9 (by decide) (by decide) (by decide) (by decide)) rfl ?_
  refine gj_alen (q := 163) (gj_dk okX11_init 78 rfl) (by exact hp32.2.1 46 (by decide) (by decide)) (by decide) rfl ?_
  refine gj_icmp_ge (q := 166) (tgt := 185) (gj_dk okX11_init 79 rfl) (by decide) rfl (fun cc => absurd cc (by decide)) (fun _ => ?_)
  refine gj_aload_n (q := 167) (gj_dk okX11_init 80 rfl) rfl rfl ?_
  refine gj_gR (q := 170) (j := 9) (w := 46) (gj_dk okX11_init 81 rfl) ff_X11_76 (by exact hp32.2.1 0 (by decide) (by decide)) (by decide) rfl (by exact hp32.2.2 0 9 (by decide) (by decide) (by decide) (by decide)) rfl ?_
  refine gj_iload_n (q := 171) (gj_dk okX11_init 82 rfl) rfl rfl ?_
  refine gj_new (q := 174) (ci := 3) (gj_dk okX11_init 83 rfl) rfl cl_X11_35 ins_X3 ini_X3 (by decide) (by decide) (by decide) rfl ?_
  refine k_made hp32 [(0, 10), (0, 11), (46, 1), (46, 2), (57, 3), (57, 4), (57, 5), (57, 6), (57, 7), (57, 8), (57, 9), (57, 10)] (by decide) (by decide) (by decide) (by decide) (by decide) (by decide) (fun S33 hp33 => ?_)
  replace hp33 : k_Pt 58 [(0, 10), (0, 11), (46, 1), (46, 2), (57, 3), (57, 4), (57, 5), (57, 6), (57, 7), (57, 8), (57, 9), (57, 10)] S33 := hp33
  refine gj_dup (q := 175) (gj_dk okX11_init 84 rfl) rfl rfl ?_
  refine gj_callI (q := 178) [] rfl (k_X3_init_57 hp33) (gj_dk okX11_init 85 rfl) ml_X11_37 me_X3_init (by decide) (gj_nm rfl) rfl (gj_kV fun S34 M34 h34 => ?_)
  obtain ⟨hp34, eM⟩ := h34; subst eM
  refine gj_aastL (q := 179) (gj_dk okX11_init 86 rfl) (by exact hp34.2.1 46 (by decide) (by decide)) (by exact hp34.2.1 57 (by decide) (by decide)) (by decide) (by decide) rfl ?_
  refine k_absS (fun S35 e35 => ?_)
  have hp35 : k_Pt 67 [(0, 10), (0, 11), (46, 2)] S35 := by rw [e35]; exact hp34.put _ (by decide) (by decide)
  clear e35
  refine gj_iinc (q := 182) (v := 2) (gj_dk okX11_init 87 rfl) rfl (by decide) rfl rfl ?_
  refine gj_goto (tgt := 157) (gj_dk okX11_init 88 rfl) (by decide) ?_
  refine gj_iload_n (q := 158) (gj_dk okX11_init 75 rfl) rfl rfl ?_
  refine gj_aload_n (q := 159) (gj_dk okX11_init 76 rfl) rfl rfl ?_
  refine gj_gR (q := 162) (j := 9) (w := 46) (gj_dk okX11_init 77 rfl) ff_X11_76 (by exact hp35.2.1 0 (by decide) (by decide)) (by decide) rfl (by exact hp35.2.2 0 9 (by decide) (by decide) (by decide) (by decide)) rfl ?_
  refine gj_alen (q := 163) (gj_dk okX11_init 78 rfl) (by exact hp35.2.1 46 (by decide) (by decide)) (by decide) rfl ?_
  refine gj_icmp_ge (q := 166) (tgt := 185) (gj_dk okX11_init 79 rfl) (by decide) rfl (fun cc => absurd cc (by decide)) (fun _ => ?_)
  refine gj_aload_n (q := 167) (gj_dk okX11_init 80 rfl) rfl rfl ?_
  refine gj_gR (q := 170) (j := 9) (w := 46) (gj_dk okX11_init 81 rfl) ff_X11_76 (by exact hp35.2.1 0 (by decide) (by decide)) (by decide) rfl (by exact hp35.2.2 0 9 (by decide) (by decide) (by decide) (by decide)) rfl ?_
  refine gj_iload_n (q := 171) (gj_dk okX11_init 82 rfl) rfl rfl ?_
  refine gj_new (q := 174) (ci := 3) (gj_dk okX11_init 83 rfl) rfl cl_X11_35 ins_X3 ini_X3 (by decide) (by decide) (by decide) rfl ?_
  refine k_made hp35 [(0, 10), (0, 11), (46, 2), (67, 3), (67, 4), (67, 5), (67, 6), (67, 7), (67, 8), (67, 9), (67, 10)] (by decide) (by decide) (by decide) (by decide) (by decide) (by decide) (fun S36 hp36 => ?_)
  replace hp36 : k_Pt 68 [(0, 10), (0, 11), (46, 2), (67, 3), (67, 4), (67, 5), (67, 6), (67, 7), (67, 8), (67, 9), (67, 10)] S36 := hp36
  refine gj_dup (q := 175) (gj_dk okX11_init 84 rfl) rfl rfl ?_
  refine gj_callI (q := 178) [] rfl (k_X3_init_67 hp36) (gj_dk okX11_init 85 rfl) ml_X11_37 me_X3_init (by decide) (gj_nm rfl) rfl (gj_kV fun S37 M37 h37 => ?_)
  obtain ⟨hp37, eM⟩ := h37; subst eM
  refine gj_aastL (q := 179) (gj_dk okX11_init 86 rfl) (by exact hp37.2.1 46 (by decide) (by decide)) (by exact hp37.2.1 67 (by decide) (by decide)) (by decide) (by decide) rfl ?_
  refine k_absS (fun S38 e38 => ?_)
  have hp38 : k_Pt 77 [(0, 10), (0, 11)] S38 := by rw [e38]; exact hp37.put _ (by decide) (by decide)
  clear e38
  refine gj_iinc (q := 182) (v := 3) (gj_dk okX11_init 87 rfl) rfl (by decide) rfl rfl ?_
  refine gj_goto (tgt := 157) (gj_dk okX11_init 88 rfl) (by decide) ?_
  refine gj_iload_n (q := 158) (gj_dk okX11_init 75 rfl) rfl rfl ?_
  refine gj_aload_n (q := 159) (gj_dk okX11_init 76 rfl) rfl rfl ?_
  refine gj_gR (q := 162) (j := 9) (w := 46) (gj_dk okX11_init 77 rfl) ff_X11_76 (by exact hp38.2.1 0 (by decide) (by decide)) (by decide) rfl (by exact hp38.2.2 0 9 (by decide) (by decide) (by decide) (by decide)) rfl ?_
  refine gj_alen (q := 163) (gj_dk okX11_init 78 rfl) (by exact hp38.2.1 46 (by decide) (by decide)) (by decide) rfl ?_
  refine gj_icmp_ge (q := 166) (tgt := 185) (gj_dk okX11_init 79 rfl) (by decide) rfl (fun _ => ?_) (fun cc => absurd (by decide) cc)
  refine gj_aload_n (q := 186) (gj_dk okX11_init 89 rfl) rfl rfl ?_
  refine gj_iconst (q := 187) (gj_dk okX11_init 90 rfl) (by decide) rfl ?_
  refine gj_newarr (q := 189) (kd := 3) (gj_dk okX11_init 91 rfl) (by decide) rfl ka_boolean (by decide) (by decide) (by decide) (by decide) rfl ?_
  refine k_made hp38 [(0, 10), (0, 11)] (by decide) (by decide) (by decide) (by decide) (by decide) (by decide) (fun S39 hp39 => ?_)
  replace hp39 : k_Pt 78 [(0, 10), (0, 11)] S39 := hp39
  refine gj_putR (q := 192) (i := 10) (gj_dk okX11_init 92 rfl) ff_X11_80 (by exact hp39.2.1 0 (by decide) (by decide)) (by decide) rfl rfl (by first | exact Or.inl ⟨_, rfl⟩ | exact Or.inr ⟨_, rfl⟩) rfl ?_
  refine k_absS (fun S40 e40 => ?_)
  have hp40 : k_Pt 78 [(0, 11)] S40 := by rw [e40]; exact hp39.put _ (by decide) (by decide)
  clear e40
  refine gj_aload_n (q := 193) (gj_dk okX11_init 93 rfl) rfl rfl ?_
  refine gj_iconst (q := 194) (gj_dk okX11_init 94 rfl) (by decide) rfl ?_
  refine gj_newarr (q := 196) (kd := 0) (gj_dk okX11_init 95 rfl) (by decide) rfl ka_int (by decide) (by decide) (by decide) (by decide) rfl ?_
  refine k_made hp40 [(0, 11)] (by decide) (by decide) (by decide) (by decide) (by decide) (by decide) (fun S41 hp41 => ?_)
  replace hp41 : k_Pt 79 [(0, 11)] S41 := hp41
  refine gj_putR (q := 199) (i := 11) (gj_dk okX11_init 96 rfl) ff_X11_84 (by exact hp41.2.1 0 (by decide) (by decide)) (by decide) rfl rfl (by first | exact Or.inl ⟨_, rfl⟩ | exact Or.inr ⟨_, rfl⟩) rfl ?_
  refine k_absS (fun S42 e42 => ?_)
  have hp42 : k_Pt 79 [] S42 := by rw [e42]; exact hp41.put _ (by decide) (by decide)
  clear e42
  exact gj_vret (gj_dk okX11_init 97 rfl) rfl ⟨rfl, hp42, rfl⟩
set_option maxHeartbeats 4000000 in
set_option maxRecDepth 20000 in
theorem k_X12_init_79 (hp : k_Pt 80 [(79, 0), (79, 1), (79, 7), (79, 8), (79, 9), (79, 10), (79, 11), (79, 12), (79, 13), (79, 14), (79, 15), (79, 16), (79, 17), (79, 19), (79, 20), (79, 21), (79, 22), (79, 23), (79, 24), (79, 25), (79, 26), (79, 31), (79, 32), (79, 33), (79, 34), (79, 39), (79, 40), (79, 41), (79, 42), (79, 43), (79, 44), (79, 45), (79, 47), (79, 48), (79, 49), (79, 50), (79, 51), (79, 52), (79, 53)] S) : gj_C G l 2 56 2312 yX12_init cX12_init 1 none [jR 79] S (k_mF [68, 58, 48, 22] false) (gj_qV fun S' M' => k_Pt 136 [] S' ∧ k_mF [68, 58, 48, 22] true = M') := by
  refine gj_Cof (by decide +kernel) (Nat.le_of_ble_eq_true rfl) ?_
  refine gj_aload_n (q := 1) (gj_dk okX12_init_0 0 rfl) rfl rfl ?_
  refine gj_objInit (q := 4) (gj_dk okX12_init_0 1 rfl) (by decide) ml_X12_1 ki_Obj_init kd_Obj_init ⟨by decide, Nat.le_of_ble_eq_true rfl⟩ rfl ?_
  refine gj_aload_n (q := 5) (gj_dk okX12_init_0 2 rfl) rfl rfl ?_
  refine gj_iconst (q := 6) (gj_dk okX12_init_0 3 rfl) (by decide) rfl ?_
  refine gj_newarr (q := 8) (kd := 0) (gj_dk okX12_init_0 4 rfl) (by decide) rfl ka_int (by decide) (by decide) (by decide) (by decide) rfl ?_
  refine k_made hp [(79, 0), (79, 1), (79, 7), (79, 8), (79, 9), (79, 10), (79, 11), (79, 12), (79, 13), (79, 14), (79, 15), (79, 16), (79, 17), (79, 19), (79, 20), (79, 21), (79, 22), (79, 23), (79, 24), (79, 25), (79, 26), (79, 31), (79, 32), (79, 33), (79, 34), (79, 39), (79, 40), (79, 41), (79, 42), (79, 43), (79, 44), (79, 45), (79, 47), (79, 48), (79, 49), (79, 50), (79, 51), (79, 52), (79, 53)] (by decide) (by decide) (by decide) (by decide) (by decide) (by decide) (fun S1 hp1 => ?_)
  replace hp1 : k_Pt 81 [(79, 0), (79, 1), (79, 7), (79, 8), (79, 9), (79, 10), (79, 11), (79, 12), (79, 13), (79, 14), (79, 15), (79, 16), (79, 17), (79, 19), (79, 20), (79, 21), (79, 22), (79, 23), (79, 24), (79, 25), (79, 26), (79, 31), (79, 32), (79, 33), (79, 34), (79, 39), (79, 40), (79, 41), (79, 42), (79, 43), (79, 44), (79, 45), (79, 47), (79, 48), (79, 49), (79, 50), (79, 51), (79, 52), (79, 53)] S1 := hp1
  refine gj_putR (q := 11) (i := 0) (gj_dk okX12_init_0 5 rfl) ff_X12_7 (by exact hp1.2.1 79 (by decide) (by decide)) (by decide) rfl rfl (by first | exact Or.inl ⟨_, rfl⟩ | exact Or.inr ⟨_, rfl⟩) rfl ?_
  refine k_absS (fun S2 e2 => ?_)
  have hp2 : k_Pt 81 [(79, 1), (79, 7), (79, 8), (79, 9), (79, 10), (79, 11), (79, 12), (79, 13), (79, 14), (79, 15), (79, 16), (79, 17), (79, 19), (79, 20), (79, 21), (79, 22), (79, 23), (79, 24), (79, 25), (79, 26), (79, 31), (79, 32), (79, 33), (79, 34), (79, 39), (79, 40), (79, 41), (79, 42), (79, 43), (79, 44), (79, 45), (79, 47), (79, 48), (79, 49), (79, 50), (79, 51), (79, 52), (79, 53)] S2 := by rw [e2]; exact hp1.put _ (by decide) (by decide)
  clear e2
  refine gj_aload_n (q := 12) (gj_dk okX12_init_0 6 rfl) rfl rfl ?_
  refine gj_sipush (q := 15) (gj_dk okX12_init_0 7 rfl) (by decide) rfl rfl ?_
  refine gj_newarr (q := 17) (kd := 2) (gj_dk okX12_init_0 8 rfl) (by decide) rfl ka_byte (by decide) (by decide) (by decide) (by decide) rfl ?_
  refine k_made hp2 [(79, 1), (79, 7), (79, 8), (79, 9), (79, 10), (79, 11), (79, 12), (79, 13), (79, 14), (79, 15), (79, 16), (79, 17), (79, 19), (79, 20), (79, 21), (79, 22), (79, 23), (79, 24), (79, 25), (79, 26), (79, 31), (79, 32), (79, 33), (79, 34), (79, 39), (79, 40), (79, 41), (79, 42), (79, 43), (79, 44), (79, 45), (79, 47), (79, 48), (79, 49), (79, 50), (79, 51), (79, 52), (79, 53)] (by decide) (by decide) (by decide) (by decide) (by decide) (by decide) (fun S3 hp3 => ?_)
  replace hp3 : k_Pt 82 [(79, 1), (79, 7), (79, 8), (79, 9), (79, 10), (79, 11), (79, 12), (79, 13), (79, 14), (79, 15), (79, 16), (79, 17), (79, 19), (79, 20), (79, 21), (79, 22), (79, 23), (79, 24), (79, 25), (79, 26), (79, 31), (79, 32), (79, 33), (79, 34), (79, 39), (79, 40), (79, 41), (79, 42), (79, 43), (79, 44), (79, 45), (79, 47), (79, 48), (79, 49), (79, 50), (79, 51), (79, 52), (79, 53)] S3 := hp3
  refine gj_putR (q := 20) (i := 1) (gj_dk okX12_init_0 9 rfl) ff_X12_13 (by exact hp3.2.1 79 (by decide) (by decide)) (by decide) rfl rfl (by first | exact Or.inl ⟨_, rfl⟩ | exact Or.inr ⟨_, rfl⟩) rfl ?_
  refine k_absS (fun S4 e4 => ?_)
  have hp4 : k_Pt 82 [(79, 7), (79, 8), (79, 9), (79, 10), (79, 11), (79, 12), (79, 13), (79, 14), (79, 15), (79, 16), (79, 17), (79, 19), (79, 20), (79, 21), (79, 22), (79, 23), (79, 24), (79, 25), (79, 26), (79, 31), (79, 32), (79, 33), (79, 34), (79, 39), (79, 40), (79, 41), (79, 42), (79, 43), (79, 44), (79, 45), (79, 47), (79, 48), (79, 49), (79, 50), (79, 51), (79, 52), (79, 53)] S4 := by rw [e4]; exact hp3.put _ (by decide) (by decide)
  clear e4
  refine gj_aload_n (q := 21) (gj_dk okX12_init_0 10 rfl) rfl rfl ?_
  refine gj_iconst (q := 22) (gj_dk okX12_init_0 11 rfl) (by decide) rfl ?_
  refine gj_bipush (q := 24) (gj_dk okX12_init_0 12 rfl) (by decide) rfl rfl ?_
  refine gj_newarr2 (q := 28) (gj_dk okX12_init_0 13 rfl) cl_X12_17 ka_int (by decide) (by decide) (by decide) (by decide) rfl ?_
  refine k_made2 hp4 (by decide) (by decide) (fun w h1 h2 => ?_) (fun w h1 h2 i h3 => ?_) (by decide) (by decide) (fun S5 hp5 => ?_)
  · obtain (rfl | rfl) : w = 83 ∨ w = 84 := by omega
    · rfl
    · rfl
  · obtain (rfl | rfl | rfl) : w = 82 ∨ w = 83 ∨ w = 84 := by omega
    · rw [k_rfN 82 [83, 84] rfl i h3, if_pos rfl]
      by_cases hi : i < 2
      · rw [if_pos ⟨h3, hi⟩]
        obtain (rfl | rfl) : i = 0 ∨ i = 1 := by omega
        · rfl
        · rfl
      · rw [if_neg (by omega), List.getD_eq_getElem?_getD, List.getElem?_eq_none (by simp; omega)]; rfl
    · rw [k_rfN 83 [] rfl i h3, if_neg (by decide)]; rfl
    · rw [k_rfN 84 [] rfl i h3, if_neg (by decide)]; rfl
  replace hp5 : k_Pt 85 [(79, 7), (79, 8), (79, 9), (79, 10), (79, 11), (79, 12), (79, 13), (79, 14), (79, 15), (79, 16), (79, 17), (79, 19), (79, 20), (79, 21), (79, 22), (79, 23), (79, 24), (79, 25), (79, 26), (79, 31), (79, 32), (79, 33), (79, 34), (79, 39), (79, 40), (79, 41), (79, 42), (79, 43), (79, 44), (79, 45), (79, 47), (79, 48), (79, 49), (79, 50), (79, 51), (79, 52), (79, 53)] S5 := hp5
  refine gj_putR (q := 31) (i := 7) (gj_dk okX12_init_0 14 rfl) ff_X12_19 (by exact hp5.2.1 79 (by decide) (by decide)) (by decide) rfl rfl (by first | exact Or.inl ⟨_, rfl⟩ | exact Or.inr ⟨_, rfl⟩) rfl ?_
  refine k_absS (fun S6 e6 => ?_)
  have hp6 : k_Pt 85 [(79, 8), (79, 9), (79, 10), (79, 11), (79, 12), (79, 13), (79, 14), (79, 15), (79, 16), (79, 17), (79, 19), (79, 20), (79, 21), (79, 22), (79, 23), (79, 24), (79, 25), (79, 26), (79, 31), (79, 32), (79, 33), (79, 34), (79, 39), (79, 40), (79, 41), (79, 42), (79, 43), (79, 44), (79, 45), (79, 47), (79, 48), (79, 49), (79, 50), (79, 51), (79, 52), (79, 53)] S6 := by rw [e6]; exact hp5.put _ (by decide) (by decide)
  clear e6
  refine gj_aload_n (q := 32) (gj_dk okX12_init_0 15 rfl) rfl rfl ?_
  refine gj_iconst (q := 33) (gj_dk okX12_init_0 16 rfl) (by decide) rfl ?_
  refine gj_bipush (q := 35) (gj_dk okX12_init_0 17 rfl) (by decide) rfl rfl ?_
  refine gj_newarr2 (q := 39) (gj_dk okX12_init_0 18 rfl) cl_X12_17 ka_int (by decide) (by decide) (by decide) (by decide) rfl ?_
  refine k_made2 hp6 (by decide) (by decide) (fun w h1 h2 => ?_) (fun w h1 h2 i h3 => ?_) (by decide) (by decide) (fun S7 hp7 => ?_)
  · obtain (rfl | rfl) : w = 86 ∨ w = 87 := by omega
    · rfl
    · rfl
  · obtain (rfl | rfl | rfl) : w = 85 ∨ w = 86 ∨ w = 87 := by omega
    · rw [k_rfN 85 [86, 87] rfl i h3, if_pos rfl]
      by_cases hi : i < 2
      · rw [if_pos ⟨h3, hi⟩]
        obtain (rfl | rfl) : i = 0 ∨ i = 1 := by omega
        · rfl
        · rfl
      · rw [if_neg (by omega), List.getD_eq_getElem?_getD, List.getElem?_eq_none (by simp; omega)]; rfl
    · rw [k_rfN 86 [] rfl i h3, if_neg (by decide)]; rfl
    · rw [k_rfN 87 [] rfl i h3, if_neg (by decide)]; rfl
  replace hp7 : k_Pt 88 [(79, 8), (79, 9), (79, 10), (79, 11), (79, 12), (79, 13), (79, 14), (79, 15), (79, 16), (79, 17), (79, 19), (79, 20), (79, 21), (79, 22), (79, 23), (79, 24), (79, 25), (79, 26), (79, 31), (79, 32), (79, 33), (79, 34), (79, 39), (79, 40), (79, 41), (79, 42), (79, 43), (79, 44), (79, 45), (79, 47), (79, 48), (79, 49), (79, 50), (79, 51), (79, 52), (79, 53)] S7 := hp7
  refine gj_putR (q := 42) (i := 8) (gj_dk okX12_init_0 19 rfl) ff_X12_22 (by exact hp7.2.1 79 (by decide) (by decide)) (by decide) rfl rfl (by first | exact Or.inl ⟨_, rfl⟩ | exact Or.inr ⟨_, rfl⟩) rfl ?_
  refine k_absS (fun S8 e8 => ?_)
  have hp8 : k_Pt 88 [(79, 9), (79, 10), (79, 11), (79, 12), (79, 13), (79, 14), (79, 15), (79, 16), (79, 17), (79, 19), (79, 20), (79, 21), (79, 22), (79, 23), (79, 24), (79, 25), (79, 26), (79, 31), (79, 32), (79, 33), (79, 34), (79, 39), (79, 40), (79, 41), (79, 42), (79, 43), (79, 44), (79, 45), (79, 47), (79, 48), (79, 49), (79, 50), (79, 51), (79, 52), (79, 53)] S8 := by rw [e8]; exact hp7.put _ (by decide) (by decide)
  clear e8
  refine gj_aload_n (q := 43) (gj_dk okX12_init_0 20 rfl) rfl rfl ?_
  refine gj_iconst (q := 44) (gj_dk okX12_init_0 21 rfl) (by decide) rfl ?_
  refine gj_bipush (q := 46) (gj_dk okX12_init_0 22 rfl) (by decide) rfl rfl ?_
  refine gj_newarr2 (q := 50) (gj_dk okX12_init_0 23 rfl) cl_X12_17 ka_int (by decide) (by decide) (by decide) (by decide) rfl ?_
  refine k_made2 hp8 (by decide) (by decide) (fun w h1 h2 => ?_) (fun w h1 h2 i h3 => ?_) (by decide) (by decide) (fun S9 hp9 => ?_)
  · obtain (rfl | rfl) : w = 89 ∨ w = 90 := by omega
    · rfl
    · rfl
  · obtain (rfl | rfl | rfl) : w = 88 ∨ w = 89 ∨ w = 90 := by omega
    · rw [k_rfN 88 [89, 90] rfl i h3, if_pos rfl]
      by_cases hi : i < 2
      · rw [if_pos ⟨h3, hi⟩]
        obtain (rfl | rfl) : i = 0 ∨ i = 1 := by omega
        · rfl
        · rfl
      · rw [if_neg (by omega), List.getD_eq_getElem?_getD, List.getElem?_eq_none (by simp; omega)]; rfl
    · rw [k_rfN 89 [] rfl i h3, if_neg (by decide)]; rfl
    · rw [k_rfN 90 [] rfl i h3, if_neg (by decide)]; rfl
  replace hp9 : k_Pt 91 [(79, 9), (79, 10), (79, 11), (79, 12), (79, 13), (79, 14), (79, 15), (79, 16), (79, 17), (79, 19), (79, 20), (79, 21), (79, 22), (79, 23), (79, 24), (79, 25), (79, 26), (79, 31), (79, 32), (79, 33), (79, 34), (79, 39), (79, 40), (79, 41), (79, 42), (79, 43), (79, 44), (79, 45), (79, 47), (79, 48), (79, 49), (79, 50), (79, 51), (79, 52), (79, 53)] S9 := hp9
  refine gj_putR (q := 53) (i := 9) (gj_dk okX12_init_0 24 rfl) ff_X12_25 (by exact hp9.2.1 79 (by decide) (by decide)) (by decide) rfl rfl (by first | exact Or.inl ⟨_, rfl⟩ | exact Or.inr ⟨_, rfl⟩) rfl ?_
  refine k_absS (fun S10 e10 => ?_)
  have hp10 : k_Pt 91 [(79, 10), (79, 11), (79, 12), (79, 13), (79, 14), (79, 15), (79, 16), (79, 17), (79, 19), (79, 20), (79, 21), (79, 22), (79, 23), (79, 24), (79, 25), (79, 26), (79, 31), (79, 32), (79, 33), (79, 34), (79, 39), (79, 40), (79, 41), (79, 42), (79, 43), (79, 44), (79, 45), (79, 47), (79, 48), (79, 49), (79, 50), (79, 51), (79, 52), (79, 53)] S10 := by rw [e10]; exact hp9.put _ (by decide) (by decide)
  clear e10
  refine gj_aload_n (q := 54) (gj_dk okX12_init_0 25 rfl) rfl rfl ?_
  refine gj_iconst (q := 55) (gj_dk okX12_init_0 26 rfl) (by decide) rfl ?_
  refine gj_bipush (q := 57) (gj_dk okX12_init_0 27 rfl) (by decide) rfl rfl ?_
  refine gj_newarr2 (q := 61) (gj_dk okX12_init_0 28 rfl) cl_X12_17 ka_int (by decide) (by decide) (by decide) (by decide) rfl ?_
  refine k_made2 hp10 (by decide) (by decide) (fun w h1 h2 => ?_) (fun w h1 h2 i h3 => ?_) (by decide) (by decide) (fun S11 hp11 => ?_)
  · obtain (rfl | rfl) : w = 92 ∨ w = 93 := by omega
    · rfl
    · rfl
  · obtain (rfl | rfl | rfl) : w = 91 ∨ w = 92 ∨ w = 93 := by omega
    · rw [k_rfN 91 [92, 93] rfl i h3, if_pos rfl]
      by_cases hi : i < 2
      · rw [if_pos ⟨h3, hi⟩]
        obtain (rfl | rfl) : i = 0 ∨ i = 1 := by omega
        · rfl
        · rfl
      · rw [if_neg (by omega), List.getD_eq_getElem?_getD, List.getElem?_eq_none (by simp; omega)]; rfl
    · rw [k_rfN 92 [] rfl i h3, if_neg (by decide)]; rfl
    · rw [k_rfN 93 [] rfl i h3, if_neg (by decide)]; rfl
  replace hp11 : k_Pt 94 [(79, 10), (79, 11), (79, 12), (79, 13), (79, 14), (79, 15), (79, 16), (79, 17), (79, 19), (79, 20), (79, 21), (79, 22), (79, 23), (79, 24), (79, 25), (79, 26), (79, 31), (79, 32), (79, 33), (79, 34), (79, 39), (79, 40), (79, 41), (79, 42), (79, 43), (79, 44), (79, 45), (79, 47), (79, 48), (79, 49), (79, 50), (79, 51), (79, 52), (79, 53)] S11 := hp11
  refine gj_putR (q := 64) (i := 10) (gj_dk okX12_init_0 29 rfl) ff_X12_28 (by exact hp11.2.1 79 (by decide) (by decide)) (by decide) rfl rfl (by first | exact Or.inl ⟨_, rfl⟩ | exact Or.inr ⟨_, rfl⟩) rfl ?_
  refine k_absS (fun S12 e12 => ?_)
  have hp12 : k_Pt 94 [(79, 11), (79, 12), (79, 13), (79, 14), (79, 15), (79, 16), (79, 17), (79, 19), (79, 20), (79, 21), (79, 22), (79, 23), (79, 24), (79, 25), (79, 26), (79, 31), (79, 32), (79, 33), (79, 34), (79, 39), (79, 40), (79, 41), (79, 42), (79, 43), (79, 44), (79, 45), (79, 47), (79, 48), (79, 49), (79, 50), (79, 51), (79, 52), (79, 53)] S12 := by rw [e12]; exact hp11.put _ (by decide) (by decide)
  clear e12
  refine gj_aload_n (q := 65) (gj_dk okX12_init_0 30 rfl) rfl rfl ?_
  refine gj_iconst (q := 66) (gj_dk okX12_init_0 31 rfl) (by decide) rfl ?_
  refine gj_bipush (q := 68) (gj_dk okX12_init_0 32 rfl) (by decide) rfl rfl ?_
  refine gj_newarr2 (q := 72) (gj_dk okX12_init_0 33 rfl) cl_X12_17 ka_int (by decide) (by decide) (by decide) (by decide) rfl ?_
  refine k_made2 hp12 (by decide) (by decide) (fun w h1 h2 => ?_) (fun w h1 h2 i h3 => ?_) (by decide) (by decide) (fun S13 hp13 => ?_)
  · obtain (rfl | rfl) : w = 95 ∨ w = 96 := by omega
    · rfl
    · rfl
  · obtain (rfl | rfl | rfl) : w = 94 ∨ w = 95 ∨ w = 96 := by omega
    · rw [k_rfN 94 [95, 96] rfl i h3, if_pos rfl]
      by_cases hi : i < 2
      · rw [if_pos ⟨h3, hi⟩]
        obtain (rfl | rfl) : i = 0 ∨ i = 1 := by omega
        · rfl
        · rfl
      · rw [if_neg (by omega), List.getD_eq_getElem?_getD, List.getElem?_eq_none (by simp; omega)]; rfl
    · rw [k_rfN 95 [] rfl i h3, if_neg (by decide)]; rfl
    · rw [k_rfN 96 [] rfl i h3, if_neg (by decide)]; rfl
  replace hp13 : k_Pt 97 [(79, 11), (79, 12), (79, 13), (79, 14), (79, 15), (79, 16), (79, 17), (79, 19), (79, 20), (79, 21), (79, 22), (79, 23), (79, 24), (79, 25), (79, 26), (79, 31), (79, 32), (79, 33), (79, 34), (79, 39), (79, 40), (79, 41), (79, 42), (79, 43), (79, 44), (79, 45), (79, 47), (79, 48), (79, 49), (79, 50), (79, 51), (79, 52), (79, 53)] S13 := hp13
  refine gj_putR (q := 75) (i := 11) (gj_dk okX12_init_0 34 rfl) ff_X12_31 (by exact hp13.2.1 79 (by decide) (by decide)) (by decide) rfl rfl (by first | exact Or.inl ⟨_, rfl⟩ | exact Or.inr ⟨_, rfl⟩) rfl ?_
  refine k_absS (fun S14 e14 => ?_)
  have hp14 : k_Pt 97 [(79, 12), (79, 13), (79, 14), (79, 15), (79, 16), (79, 17), (79, 19), (79, 20), (79, 21), (79, 22), (79, 23), (79, 24), (79, 25), (79, 26), (79, 31), (79, 32), (79, 33), (79, 34), (79, 39), (79, 40), (79, 41), (79, 42), (79, 43), (79, 44), (79, 45), (79, 47), (79, 48), (79, 49), (79, 50), (79, 51), (79, 52), (79, 53)] S14 := by rw [e14]; exact hp13.put _ (by decide) (by decide)
  clear e14
  refine gj_aload_n (q := 76) (gj_dk okX12_init_0 35 rfl) rfl rfl ?_
  refine gj_iconst (q := 77) (gj_dk okX12_init_0 36 rfl) (by decide) rfl ?_
  refine gj_bipush (q := 79) (gj_dk okX12_init_0 37 rfl) (by decide) rfl rfl ?_
  refine gj_newarr2 (q := 83) (gj_dk okX12_init_0 38 rfl) cl_X12_17 ka_int (by decide) (by decide) (by decide) (by decide) rfl ?_
  refine k_made2 hp14 (by decide) (by decide) (fun w h1 h2 => ?_) (fun w h1 h2 i h3 => ?_) (by decide) (by decide) (fun S15 hp15 => ?_)
  · obtain (rfl | rfl) : w = 98 ∨ w = 99 := by omega
    · rfl
    · rfl
  · obtain (rfl | rfl | rfl) : w = 97 ∨ w = 98 ∨ w = 99 := by omega
    · rw [k_rfN 97 [98, 99] rfl i h3, if_pos rfl]
      by_cases hi : i < 2
      · rw [if_pos ⟨h3, hi⟩]
        obtain (rfl | rfl) : i = 0 ∨ i = 1 := by omega
        · rfl
        · rfl
      · rw [if_neg (by omega), List.getD_eq_getElem?_getD, List.getElem?_eq_none (by simp; omega)]; rfl
    · rw [k_rfN 98 [] rfl i h3, if_neg (by decide)]; rfl
    · rw [k_rfN 99 [] rfl i h3, if_neg (by decide)]; rfl
  replace hp15 : k_Pt 100 [(79, 12), (79, 13), (79, 14), (79, 15), (79, 16), (79, 17), (79, 19), (79, 20), (79, 21), (79, 22), (79, 23), (79, 24), (79, 25), (79, 26), (79, 31), (79, 32), (79, 33), (79, 34), (79, 39), (79, 40), (79, 41), (79, 42), (79, 43), (79, 44), (79, 45), (79, 47), (79, 48), (79, 49), (79, 50), (79, 51), (79, 52), (79, 53)] S15 := hp15
  refine gj_putR (q := 86) (i := 12) (gj_dk okX12_init_0 39 rfl) ff_X12_34 (by exact hp15.2.1 79 (by decide) (by decide)) (by decide) rfl rfl (by first | exact Or.inl ⟨_, rfl⟩ | exact Or.inr ⟨_, rfl⟩) rfl ?_
  refine k_absS (fun S16 e16 => ?_)
  have hp16 : k_Pt 100 [(79, 13), (79, 14), (79, 15), (79, 16), (79, 17), (79, 19), (79, 20), (79, 21), (79, 22), (79, 23), (79, 24), (79, 25), (79, 26), (79, 31), (79, 32), (79, 33), (79, 34), (79, 39), (79, 40), (79, 41), (79, 42), (79, 43), (79, 44), (79, 45), (79, 47), (79, 48), (79, 49), (79, 50), (79, 51), (79, 52), (79, 53)] S16 := by rw [e16]; exact hp15.put _ (by decide) (by decide)
  clear e16
  refine gj_aload_n (q := 87) (gj_dk okX12_init_0 40 rfl) rfl rfl ?_
  refine gj_iconst (q := 88) (gj_dk okX12_init_0 41 rfl) (by decide) rfl ?_
  refine gj_iconst (q := 89) (gj_dk okX12_init_0 42 rfl) (by decide) rfl ?_
  refine gj_newarr2 (q := 93) (gj_dk okX12_init_0 43 rfl) cl_X12_17 ka_int (by decide) (by decide) (by decide) (by decide) rfl ?_
  refine k_made2 hp16 (by decide) (by decide) (fun w h1 h2 => ?_) (fun w h1 h2 i h3 => ?_) (by decide) (by decide) (fun S17 hp17 => ?_)
  · obtain (rfl | rfl) : w = 101 ∨ w = 102 := by omega
    · rfl
    · rfl
  · obtain (rfl | rfl | rfl) : w = 100 ∨ w = 101 ∨ w = 102 := by omega
    · rw [k_rfN 100 [101, 102] rfl i h3, if_pos rfl]
      by_cases hi : i < 2
      · rw [if_pos ⟨h3, hi⟩]
        obtain (rfl | rfl) : i = 0 ∨ i = 1 := by omega
        · rfl
        · rfl
      · rw [if_neg (by omega), List.getD_eq_getElem?_getD, List.getElem?_eq_none (by simp; omega)]; rfl
    · rw [k_rfN 101 [] rfl i h3, if_neg (by decide)]; rfl
    · rw [k_rfN 102 [] rfl i h3, if_neg (by decide)]; rfl
  replace hp17 : k_Pt 103 [(79, 13), (79, 14), (79, 15), (79, 16), (79, 17), (79, 19), (79, 20), (79, 21), (79, 22), (79, 23), (79, 24), (79, 25), (79, 26), (79, 31), (79, 32), (79, 33), (79, 34), (79, 39), (79, 40), (79, 41), (79, 42), (79, 43), (79, 44), (79, 45), (79, 47), (79, 48), (79, 49), (79, 50), (79, 51), (79, 52), (79, 53)] S17 := hp17
  refine gj_putR (q := 96) (i := 13) (gj_dk okX12_init_0 44 rfl) ff_X12_37 (by exact hp17.2.1 79 (by decide) (by decide)) (by decide) rfl rfl (by first | exact Or.inl ⟨_, rfl⟩ | exact Or.inr ⟨_, rfl⟩) rfl ?_
  refine k_absS (fun S18 e18 => ?_)
  have hp18 : k_Pt 103 [(79, 14), (79, 15), (79, 16), (79, 17), (79, 19), (79, 20), (79, 21), (79, 22), (79, 23), (79, 24), (79, 25), (79, 26), (79, 31), (79, 32), (79, 33), (79, 34), (79, 39), (79, 40), (79, 41), (79, 42), (79, 43), (79, 44), (79, 45), (79, 47), (79, 48), (79, 49), (79, 50), (79, 51), (79, 52), (79, 53)] S18 := by rw [e18]; exact hp17.put _ (by decide) (by decide)
  clear e18
  refine gj_aload_n (q := 97) (gj_dk okX12_init_0 45 rfl) rfl rfl ?_
  refine gj_bipush (q := 99) (gj_dk okX12_init_0 46 rfl) (by decide) rfl rfl ?_
  refine gj_newarr (q := 101) (kd := 1) (gj_dk okX12_init_0 47 rfl) (by decide) rfl ka_long (by decide) (by decide) (by decide) (by decide) rfl ?_
  refine k_made hp18 [(79, 14), (79, 15), (79, 16), (79, 17), (79, 19), (79, 20), (79, 21), (79, 22), (79, 23), (79, 24), (79, 25), (79, 26), (79, 31), (79, 32), (79, 33), (79, 34), (79, 39), (79, 40), (79, 41), (79, 42), (79, 43), (79, 44), (79, 45), (79, 47), (79, 48), (79, 49), (79, 50), (79, 51), (79, 52), (79, 53)] (by decide) (by decide) (by decide) (by decide) (by decide) (by decide) (fun S19 hp19 => ?_)
  replace hp19 : k_Pt 104 [(79, 14), (79, 15), (79, 16), (79, 17), (79, 19), (79, 20), (79, 21), (79, 22), (79, 23), (79, 24), (79, 25), (79, 26), (79, 31), (79, 32), (79, 33), (79, 34), (79, 39), (79, 40), (79, 41), (79, 42), (79, 43), (79, 44), (79, 45), (79, 47), (79, 48), (79, 49), (79, 50), (79, 51), (79, 52), (79, 53)] S19 := hp19
  refine gj_putR (q := 104) (i := 14) (gj_dk okX12_init_0 48 rfl) ff_X12_40 (by exact hp19.2.1 79 (by decide) (by decide)) (by decide) rfl rfl (by first | exact Or.inl ⟨_, rfl⟩ | exact Or.inr ⟨_, rfl⟩) rfl ?_
  refine k_absS (fun S20 e20 => ?_)
  have hp20 : k_Pt 104 [(79, 15), (79, 16), (79, 17), (79, 19), (79, 20), (79, 21), (79, 22), (79, 23), (79, 24), (79, 25), (79, 26), (79, 31), (79, 32), (79, 33), (79, 34), (79, 39), (79, 40), (79, 41), (79, 42), (79, 43), (79, 44), (79, 45), (79, 47), (79, 48), (79, 49), (79, 50), (79, 51), (79, 52), (79, 53)] S20 := by rw [e20]; exact hp19.put _ (by decide) (by decide)
  clear e20
  refine gj_aload_n (q := 105) (gj_dk okX12_init_0 49 rfl) rfl rfl ?_
  refine gj_bipush (q := 107) (gj_dk okX12_init_0 50 rfl) (by decide) rfl rfl ?_
  refine gj_newarr (q := 109) (kd := 3) (gj_dk okX12_init_0 51 rfl) (by decide) rfl ka_boolean (by decide) (by decide) (by decide) (by decide) rfl ?_
  refine k_made hp20 [(79, 15), (79, 16), (79, 17), (79, 19), (79, 20), (79, 21), (79, 22), (79, 23), (79, 24), (79, 25), (79, 26), (79, 31), (79, 32), (79, 33), (79, 34), (79, 39), (79, 40), (79, 41), (79, 42), (79, 43), (79, 44), (79, 45), (79, 47), (79, 48), (79, 49), (79, 50), (79, 51), (79, 52), (79, 53)] (by decide) (by decide) (by decide) (by decide) (by decide) (by decide) (fun S21 hp21 => ?_)
  replace hp21 : k_Pt 105 [(79, 15), (79, 16), (79, 17), (79, 19), (79, 20), (79, 21), (79, 22), (79, 23), (79, 24), (79, 25), (79, 26), (79, 31), (79, 32), (79, 33), (79, 34), (79, 39), (79, 40), (79, 41), (79, 42), (79, 43), (79, 44), (79, 45), (79, 47), (79, 48), (79, 49), (79, 50), (79, 51), (79, 52), (79, 53)] S21 := hp21
  refine gj_putR (q := 112) (i := 15) (gj_dk okX12_init_0 52 rfl) ff_X12_44 (by exact hp21.2.1 79 (by decide) (by decide)) (by decide) rfl rfl (by first | exact Or.inl ⟨_, rfl⟩ | exact Or.inr ⟨_, rfl⟩) rfl ?_
  refine k_absS (fun S22 e22 => ?_)
  have hp22 : k_Pt 105 [(79, 16), (79, 17), (79, 19), (79, 20), (79, 21), (79, 22), (79, 23), (79, 24), (79, 25), (79, 26), (79, 31), (79, 32), (79, 33), (79, 34), (79, 39), (79, 40), (79, 41), (79, 42), (79, 43), (79, 44), (79, 45), (79, 47), (79, 48), (79, 49), (79, 50), (79, 51), (79, 52), (79, 53)] S22 := by rw [e22]; exact hp21.put _ (by decide) (by decide)
  clear e22
  refine gj_aload_n (q := 113) (gj_dk okX12_init_0 53 rfl) rfl rfl ?_
  refine gj_bipush (q := 115) (gj_dk okX12_init_0 54 rfl) (by decide) rfl rfl ?_
  refine gj_newarr (q := 117) (kd := 3) (gj_dk okX12_init_0 55 rfl) (by decide) rfl ka_boolean (by decide) (by decide) (by decide) (by decide) rfl ?_
  refine k_made hp22 [(79, 16), (79, 17), (79, 19), (79, 20), (79, 21), (79, 22), (79, 23), (79, 24), (79, 25), (79, 26), (79, 31), (79, 32), (79, 33), (79, 34), (79, 39), (79, 40), (79, 41), (79, 42), (79, 43), (79, 44), (79, 45), (79, 47), (79, 48), (79, 49), (79, 50), (79, 51), (79, 52), (79, 53)] (by decide) (by decide) (by decide) (by decide) (by decide) (by decide) (fun S23 hp23 => ?_)
  replace hp23 : k_Pt 106 [(79, 16), (79, 17), (79, 19), (79, 20), (79, 21), (79, 22), (79, 23), (79, 24), (79, 25), (79, 26), (79, 31), (79, 32), (79, 33), (79, 34), (79, 39), (79, 40), (79, 41), (79, 42), (79, 43), (79, 44), (79, 45), (79, 47), (79, 48), (79, 49), (79, 50), (79, 51), (79, 52), (79, 53)] S23 := hp23
  refine gj_putR (q := 120) (i := 16) (gj_dk okX12_init_0 56 rfl) ff_X12_48 (by exact hp23.2.1 79 (by decide) (by decide)) (by decide) rfl rfl (by first | exact Or.inl ⟨_, rfl⟩ | exact Or.inr ⟨_, rfl⟩) rfl ?_
  refine k_absS (fun S24 e24 => ?_)
  have hp24 : k_Pt 106 [(79, 17), (79, 19), (79, 20), (79, 21), (79, 22), (79, 23), (79, 24), (79, 25), (79, 26), (79, 31), (79, 32), (79, 33), (79, 34), (79, 39), (79, 40), (79, 41), (79, 42), (79, 43), (79, 44), (79, 45), (79, 47), (79, 48), (79, 49), (79, 50), (79, 51), (79, 52), (79, 53)] S24 := by rw [e24]; exact hp23.put _ (by decide) (by decide)
  clear e24
  refine gj_aload_n (q := 121) (gj_dk okX12_init_0 57 rfl) rfl rfl ?_
  refine gj_bipush (q := 123) (gj_dk okX12_init_0 58 rfl) (by decide) rfl rfl ?_
  refine gj_newarr (q := 125) (kd := 3) (gj_dk okX12_init_0 59 rfl) (by decide) rfl ka_boolean (by decide) (by decide) (by decide) (by decide) rfl ?_
  refine k_made hp24 [(79, 17), (79, 19), (79, 20), (79, 21), (79, 22), (79, 23), (79, 24), (79, 25), (79, 26), (79, 31), (79, 32), (79, 33), (79, 34), (79, 39), (79, 40), (79, 41), (79, 42), (79, 43), (79, 44), (79, 45), (79, 47), (79, 48), (79, 49), (79, 50), (79, 51), (79, 52), (79, 53)] (by decide) (by decide) (by decide) (by decide) (by decide) (by decide) (fun S25 hp25 => ?_)
  replace hp25 : k_Pt 107 [(79, 17), (79, 19), (79, 20), (79, 21), (79, 22), (79, 23), (79, 24), (79, 25), (79, 26), (79, 31), (79, 32), (79, 33), (79, 34), (79, 39), (79, 40), (79, 41), (79, 42), (79, 43), (79, 44), (79, 45), (79, 47), (79, 48), (79, 49), (79, 50), (79, 51), (79, 52), (79, 53)] S25 := hp25
  refine gj_putR (q := 128) (i := 17) (gj_dk okX12_init_1 0 rfl) ff_X12_51 (by exact hp25.2.1 79 (by decide) (by decide)) (by decide) rfl rfl (by first | exact Or.inl ⟨_, rfl⟩ | exact Or.inr ⟨_, rfl⟩) rfl ?_
  refine k_absS (fun S26 e26 => ?_)
  have hp26 : k_Pt 107 [(79, 19), (79, 20), (79, 21), (79, 22), (79, 23), (79, 24), (79, 25), (79, 26), (79, 31), (79, 32), (79, 33), (79, 34), (79, 39), (79, 40), (79, 41), (79, 42), (79, 43), (79, 44), (79, 45), (79, 47), (79, 48), (79, 49), (79, 50), (79, 51), (79, 52), (79, 53)] S26 := by rw [e26]; exact hp25.put _ (by decide) (by decide)
  clear e26
  refine gj_aload_n (q := 129) (gj_dk okX12_init_1 1 rfl) rfl rfl ?_
  refine gj_bipush (q := 131) (gj_dk okX12_init_1 2 rfl) (by decide) rfl rfl ?_
  refine gj_newarrR (q := 134) (kd := 5) (gj_dk okX12_init_1 3 rfl) (by decide) cl_X12_54 (by decide) (by decide) (by decide) (by decide) rfl ?_
  refine k_made hp26 [(79, 19), (79, 20), (79, 21), (79, 22), (79, 23), (79, 24), (79, 25), (79, 26), (79, 31), (79, 32), (79, 33), (79, 34), (79, 39), (79, 40), (79, 41), (79, 42), (79, 43), (79, 44), (79, 45), (79, 47), (79, 48), (79, 49), (79, 50), (79, 51), (79, 52), (79, 53), (107, 0), (107, 1), (107, 2), (107, 3), (107, 4), (107, 5), (107, 6), (107, 7), (107, 8)] (by decide) (by decide) (by decide) (by decide) (by decide) (by decide) (fun S27 hp27 => ?_)
  replace hp27 : k_Pt 108 [(79, 19), (79, 20), (79, 21), (79, 22), (79, 23), (79, 24), (79, 25), (79, 26), (79, 31), (79, 32), (79, 33), (79, 34), (79, 39), (79, 40), (79, 41), (79, 42), (79, 43), (79, 44), (79, 45), (79, 47), (79, 48), (79, 49), (79, 50), (79, 51), (79, 52), (79, 53), (107, 0), (107, 1), (107, 2), (107, 3), (107, 4), (107, 5), (107, 6), (107, 7), (107, 8)] S27 := hp27
  refine gj_dup (q := 135) (gj_dk okX12_init_1 4 rfl) rfl rfl ?_
  refine gj_iconst (q := 136) (gj_dk okX12_init_1 5 rfl) (by decide) rfl ?_
  refine gj_ldc12 (q := 138) (z := -2) 0 (gj_dk okX12_init_1 6 rfl) rfl (by decide) rfl rfl rfl ?_
  refine gj_aastS (q := 139) 0 (gj_dk okX12_init_1 7 rfl) (by exact hp27.2.1 107 (by decide) (by decide)) (by decide) (by decide) (by decide) rfl rfl ?_
  refine k_absS (fun S28 e28 => ?_)
  have hp28 : k_Pt 108 [(79, 19), (79, 20), (79, 21), (79, 22), (79, 23), (79, 24), (79, 25), (79, 26), (79, 31), (79, 32), (79, 33), (79, 34), (79, 39), (79, 40), (79, 41), (79, 42), (79, 43), (79, 44), (79, 45), (79, 47), (79, 48), (79, 49), (79, 50), (79, 51), (79, 52), (79, 53), (107, 1), (107, 2), (107, 3), (107, 4), (107, 5), (107, 6), (107, 7), (107, 8)] S28 := by rw [e28]; exact hp27.put _ (by decide) (by decide)
  clear e28
  refine gj_dup (q := 140) (gj_dk okX12_init_1 8 rfl) rfl rfl ?_
  refine gj_iconst (q := 141) (gj_dk okX12_init_1 9 rfl) (by decide) rfl ?_
  refine gj_ldc12 (q := 143) (z := -3) 1 (gj_dk okX12_init_1 10 rfl) rfl (by decide) rfl rfl rfl ?_
  refine gj_aastS (q := 144) 1 (gj_dk okX12_init_1 11 rfl) (by exact hp28.2.1 107 (by decide) (by decide)) (by decide) (by decide) (by decide) rfl rfl ?_
  refine k_absS (fun S29 e29 => ?_)
  have hp29 : k_Pt 108 [(79, 19), (79, 20), (79, 21), (79, 22), (79, 23), (79, 24), (79, 25), (79, 26), (79, 31), (79, 32), (79, 33), (79, 34), (79, 39), (79, 40), (79, 41), (79, 42), (79, 43), (79, 44), (79, 45), (79, 47), (79, 48), (79, 49), (79, 50), (79, 51), (79, 52), (79, 53), (107, 2), (107, 3), (107, 4), (107, 5), (107, 6), (107, 7), (107, 8)] S29 := by rw [e29]; exact hp28.put _ (by decide) (by decide)
  clear e29
  refine gj_dup (q := 145) (gj_dk okX12_init_1 12 rfl) rfl rfl ?_
  refine gj_iconst (q := 146) (gj_dk okX12_init_1 13 rfl) (by decide) rfl ?_
  refine gj_ldc12 (q := 148) (z := -4) 2 (gj_dk okX12_init_1 14 rfl) rfl (by decide) rfl rfl rfl ?_
  refine gj_aastS (q := 149) 2 (gj_dk okX12_init_1 15 rfl) (by exact hp29.2.1 107 (by decide) (by decide)) (by decide) (by decide) (by decide) rfl rfl ?_
  refine k_absS (fun S30 e30 => ?_)
  have hp30 : k_Pt 108 [(79, 19), (79, 20), (79, 21), (79, 22), (79, 23), (79, 24), (79, 25), (79, 26), (79, 31), (79, 32), (79, 33), (79, 34), (79, 39), (79, 40), (79, 41), (79, 42), (79, 43), (79, 44), (79, 45), (79, 47), (79, 48), (79, 49), (79, 50), (79, 51), (79, 52), (79, 53), (107, 3), (107, 4), (107, 5), (107, 6), (107, 7), (107, 8)] S30 := by rw [e30]; exact hp29.put _ (by decide) (by decide)
  clear e30
  refine gj_dup (q := 150) (gj_dk okX12_init_1 16 rfl) rfl rfl ?_
  refine gj_iconst (q := 151) (gj_dk okX12_init_1 17 rfl) (by decide) rfl ?_
  refine gj_ldc12 (q := 153) (z := -5) 3 (gj_dk okX12_init_1 18 rfl) rfl (by decide) rfl rfl rfl ?_
  refine gj_aastS (q := 154) 3 (gj_dk okX12_init_1 19 rfl) (by exact hp30.2.1 107 (by decide) (by decide)) (by decide) (by decide) (by decide) rfl rfl ?_
  refine k_absS (fun S31 e31 => ?_)
  have hp31 : k_Pt 108 [(79, 19), (79, 20), (79, 21), (79, 22), (79, 23), (79, 24), (79, 25), (79, 26), (79, 31), (79, 32), (79, 33), (79, 34), (79, 39), (79, 40), (79, 41), (79, 42), (79, 43), (79, 44), (79, 45), (79, 47), (79, 48), (79, 49), (79, 50), (79, 51), (79, 52), (79, 53), (107, 4), (107, 5), (107, 6), (107, 7), (107, 8)] S31 := by rw [e31]; exact hp30.put _ (by decide) (by decide)
  clear e31
  refine gj_dup (q := 155) (gj_dk okX12_init_1 20 rfl) rfl rfl ?_
  refine gj_iconst (q := 156) (gj_dk okX12_init_1 21 rfl) (by decide) rfl ?_
  refine gj_ldc12 (q := 158) (z := -6) 4 (gj_dk okX12_init_1 22 rfl) rfl (by decide) rfl rfl rfl ?_
  refine gj_aastS (q := 159) 4 (gj_dk okX12_init_1 23 rfl) (by exact hp31.2.1 107 (by decide) (by decide)) (by decide) (by decide) (by decide) rfl rfl ?_
  refine k_absS (fun S32 e32 => ?_)
  have hp32 : k_Pt 108 [(79, 19), (79, 20), (79, 21), (79, 22), (79, 23), (79, 24), (79, 25), (79, 26), (79, 31), (79, 32), (79, 33), (79, 34), (79, 39), (79, 40), (79, 41), (79, 42), (79, 43), (79, 44), (79, 45), (79, 47), (79, 48), (79, 49), (79, 50), (79, 51), (79, 52), (79, 53), (107, 5), (107, 6), (107, 7), (107, 8)] S32 := by rw [e32]; exact hp31.put _ (by decide) (by decide)
  clear e32
  refine gj_dup (q := 160) (gj_dk okX12_init_1 24 rfl) rfl rfl ?_
  refine gj_iconst (q := 161) (gj_dk okX12_init_1 25 rfl) (by decide) rfl ?_
  refine gj_ldc12 (q := 163) (z := -7) 5 (gj_dk okX12_init_1 26 rfl) rfl (by decide) rfl rfl rfl ?_
  refine gj_aastS (q := 164) 5 (gj_dk okX12_init_1 27 rfl) (by exact hp32.2.1 107 (by decide) (by decide)) (by decide) (by decide) (by decide) rfl rfl ?_
  refine k_absS (fun S33 e33 => ?_)
  have hp33 : k_Pt 108 [(79, 19), (79, 20), (79, 21), (79, 22), (79, 23), (79, 24), (79, 25), (79, 26), (79, 31), (79, 32), (79, 33), (79, 34), (79, 39), (79, 40), (79, 41), (79, 42), (79, 43), (79, 44), (79, 45), (79, 47), (79, 48), (79, 49), (79, 50), (79, 51), (79, 52), (79, 53), (107, 6), (107, 7), (107, 8)] S33 := by rw [e33]; exact hp32.put _ (by decide) (by decide)
  clear e33
  refine gj_dup (q := 165) (gj_dk okX12_init_1 28 rfl) rfl rfl ?_
  refine gj_bipush (q := 167) (gj_dk okX12_init_1 29 rfl) (by decide) rfl rfl ?_
  refine gj_ldc12 (q := 169) (z := -8) 6 (gj_dk okX12_init_1 30 rfl) rfl (by decide) rfl rfl rfl ?_
  refine gj_aastS (q := 170) 6 (gj_dk okX12_init_1 31 rfl) (by exact hp33.2.1 107 (by decide) (by decide)) (by decide) (by decide) (by decide) rfl rfl ?_
  refine k_absS (fun S34 e34 => ?_)
  have hp34 : k_Pt 108 [(79, 19), (79, 20), (79, 21), (79, 22), (79, 23), (79, 24), (79, 25), (79, 26), (79, 31), (79, 32), (79, 33), (79, 34), (79, 39), (79, 40), (79, 41), (79, 42), (79, 43), (79, 44), (79, 45), (79, 47), (79, 48), (79, 49), (79, 50), (79, 51), (79, 52), (79, 53), (107, 7), (107, 8)] S34 := by rw [e34]; exact hp33.put _ (by decide) (by decide)
  clear e34
  refine gj_dup (q := 171) (gj_dk okX12_init_1 32 rfl) rfl rfl ?_
  refine gj_bipush (q := 173) (gj_dk okX12_init_1 33 rfl) (by decide) rfl rfl ?_
  refine gj_ldc12 (q := 175) (z := -9) 7 (gj_dk okX12_init_1 34 rfl) rfl (by decide) rfl rfl rfl ?_
  refine gj_aastS (q := 176) 7 (gj_dk okX12_init_1 35 rfl) (by exact hp34.2.1 107 (by decide) (by decide)) (by decide) (by decide) (by decide) rfl rfl ?_
  refine k_absS (fun S35 e35 => ?_)
  have hp35 : k_Pt 108 [(79, 19), (79, 20), (79, 21), (79, 22), (79, 23), (79, 24), (79, 25), (79, 26), (79, 31), (79, 32), (79, 33), (79, 34), (79, 39), (79, 40), (79, 41), (79, 42), (79, 43), (79, 44), (79, 45), (79, 47), (79, 48), (79, 49), (79, 50), (79, 51), (79, 52), (79, 53), (107, 8)] S35 := by rw [e35]; exact hp34.put _ (by decide) (by decide)
  clear e35
  refine gj_dup (q := 177) (gj_dk okX12_init_1 36 rfl) rfl rfl ?_
  refine gj_bipush (q := 179) (gj_dk okX12_init_1 37 rfl) (by decide) rfl rfl ?_
  refine gj_ldc12 (q := 181) (z := -10) 8 (gj_dk okX12_init_1 38 rfl) rfl (by decide) rfl rfl rfl ?_
  refine gj_aastS (q := 182) 8 (gj_dk okX12_init_1 39 rfl) (by exact hp35.2.1 107 (by decide) (by decide)) (by decide) (by decide) (by decide) rfl rfl ?_
  refine k_absS (fun S36 e36 => ?_)
  have hp36 : k_Pt 108 [(79, 19), (79, 20), (79, 21), (79, 22), (79, 23), (79, 24), (79, 25), (79, 26), (79, 31), (79, 32), (79, 33), (79, 34), (79, 39), (79, 40), (79, 41), (79, 42), (79, 43), (79, 44), (79, 45), (79, 47), (79, 48), (79, 49), (79, 50), (79, 51), (79, 52), (79, 53)] S36 := by rw [e36]; exact hp35.put _ (by decide) (by decide)
  clear e36
  refine gj_putR (q := 185) (i := 19) (gj_dk okX12_init_1 40 rfl) ff_X12_73 (by exact hp36.2.1 79 (by decide) (by decide)) (by decide) rfl rfl (by first | exact Or.inl ⟨_, rfl⟩ | exact Or.inr ⟨_, rfl⟩) rfl ?_
  refine k_absS (fun S37 e37 => ?_)
  have hp37 : k_Pt 108 [(79, 20), (79, 21), (79, 22), (79, 23), (79, 24), (79, 25), (79, 26), (79, 31), (79, 32), (79, 33), (79, 34), (79, 39), (79, 40), (79, 41), (79, 42), (79, 43), (79, 44), (79, 45), (79, 47), (79, 48), (79, 49), (79, 50), (79, 51), (79, 52), (79, 53)] S37 := by rw [e37]; exact hp36.put _ (by decide) (by decide)
  clear e37
  refine gj_aload_n (q := 186) (gj_dk okX12_init_1 41 rfl) rfl rfl ?_
  refine gj_bipush (q := 188) (gj_dk okX12_init_1 42 rfl) (by decide) rfl rfl ?_
  refine gj_newarr (q := 190) (kd := 0) (gj_dk okX12_init_1 43 rfl) (by decide) rfl ka_int (by decide) (by decide) (by decide) (by decide) rfl ?_
  refine k_made hp37 [(79, 20), (79, 21), (79, 22), (79, 23), (79, 24), (79, 25), (79, 26), (79, 31), (79, 32), (79, 33), (79, 34), (79, 39), (79, 40), (79, 41), (79, 42), (79, 43), (79, 44), (79, 45), (79, 47), (79, 48), (79, 49), (79, 50), (79, 51), (79, 52), (79, 53)] (by decide) (by decide) (by decide) (by decide) (by decide) (by decide) (fun S38 hp38 => ?_)
  replace hp38 : k_Pt 109 [(79, 20), (79, 21), (79, 22), (79, 23), (79, 24), (79, 25), (79, 26), (79, 31), (79, 32), (79, 33), (79, 34), (79, 39), (79, 40), (79, 41), (79, 42), (79, 43), (79, 44), (79, 45), (79, 47), (79, 48), (79, 49), (79, 50), (79, 51), (79, 52), (79, 53)] S38 := hp38
  refine gj_putR (q := 193) (i := 20) (gj_dk okX12_init_1 44 rfl) ff_X12_77 (by exact hp38.2.1 79 (by decide) (by decide)) (by decide) rfl rfl (by first | exact Or.inl ⟨_, rfl⟩ | exact Or.inr ⟨_, rfl⟩) rfl ?_
  refine k_absS (fun S39 e39 => ?_)
  have hp39 : k_Pt 109 [(79, 21), (79, 22), (79, 23), (79, 24), (79, 25), (79, 26), (79, 31), (79, 32), (79, 33), (79, 34), (79, 39), (79, 40), (79, 41), (79, 42), (79, 43), (79, 44), (79, 45), (79, 47), (79, 48), (79, 49), (79, 50), (79, 51), (79, 52), (79, 53)] S39 := by rw [e39]; exact hp38.put _ (by decide) (by decide)
  clear e39
  refine gj_aload_n (q := 194) (gj_dk okX12_init_1 45 rfl) rfl rfl ?_
  refine gj_bipush (q := 196) (gj_dk okX12_init_1 46 rfl) (by decide) rfl rfl ?_
  refine gj_newarr (q := 198) (kd := 0) (gj_dk okX12_init_1 47 rfl) (by decide) rfl ka_int (by decide) (by decide) (by decide) (by decide) rfl ?_
  refine k_made hp39 [(79, 21), (79, 22), (79, 23), (79, 24), (79, 25), (79, 26), (79, 31), (79, 32), (79, 33), (79, 34), (79, 39), (79, 40), (79, 41), (79, 42), (79, 43), (79, 44), (79, 45), (79, 47), (79, 48), (79, 49), (79, 50), (79, 51), (79, 52), (79, 53)] (by decide) (by decide) (by decide) (by decide) (by decide) (by decide) (fun S40 hp40 => ?_)
  replace hp40 : k_Pt 110 [(79, 21), (79, 22), (79, 23), (79, 24), (79, 25), (79, 26), (79, 31), (79, 32), (79, 33), (79, 34), (79, 39), (79, 40), (79, 41), (79, 42), (79, 43), (79, 44), (79, 45), (79, 47), (79, 48), (79, 49), (79, 50), (79, 51), (79, 52), (79, 53)] S40 := hp40
  refine gj_putR (q := 201) (i := 21) (gj_dk okX12_init_1 48 rfl) ff_X12_80 (by exact hp40.2.1 79 (by decide) (by decide)) (by decide) rfl rfl (by first | exact Or.inl ⟨_, rfl⟩ | exact Or.inr ⟨_, rfl⟩) rfl ?_
  refine k_absS (fun S41 e41 => ?_)
  have hp41 : k_Pt 110 [(79, 22), (79, 23), (79, 24), (79, 25), (79, 26), (79, 31), (79, 32), (79, 33), (79, 34), (79, 39), (79, 40), (79, 41), (79, 42), (79, 43), (79, 44), (79, 45), (79, 47), (79, 48), (79, 49), (79, 50), (79, 51), (79, 52), (79, 53)] S41 := by rw [e41]; exact hp40.put _ (by decide) (by decide)
  clear e41
  refine gj_aload_n (q := 202) (gj_dk okX12_init_1 49 rfl) rfl rfl ?_
  refine gj_bipush (q := 204) (gj_dk okX12_init_1 50 rfl) (by decide) rfl rfl ?_
  refine gj_newarr (q := 206) (kd := 0) (gj_dk okX12_init_1 51 rfl) (by decide) rfl ka_int (by decide) (by decide) (by decide) (by decide) rfl ?_
  refine k_made hp41 [(79, 22), (79, 23), (79, 24), (79, 25), (79, 26), (79, 31), (79, 32), (79, 33), (79, 34), (79, 39), (79, 40), (79, 41), (79, 42), (79, 43), (79, 44), (79, 45), (79, 47), (79, 48), (79, 49), (79, 50), (79, 51), (79, 52), (79, 53)] (by decide) (by decide) (by decide) (by decide) (by decide) (by decide) (fun S42 hp42 => ?_)
  replace hp42 : k_Pt 111 [(79, 22), (79, 23), (79, 24), (79, 25), (79, 26), (79, 31), (79, 32), (79, 33), (79, 34), (79, 39), (79, 40), (79, 41), (79, 42), (79, 43), (79, 44), (79, 45), (79, 47), (79, 48), (79, 49), (79, 50), (79, 51), (79, 52), (79, 53)] S42 := hp42
  refine gj_putR (q := 209) (i := 22) (gj_dk okX12_init_1 52 rfl) ff_X12_83 (by exact hp42.2.1 79 (by decide) (by decide)) (by decide) rfl rfl (by first | exact Or.inl ⟨_, rfl⟩ | exact Or.inr ⟨_, rfl⟩) rfl ?_
  refine k_absS (fun S43 e43 => ?_)
  have hp43 : k_Pt 111 [(79, 23), (79, 24), (79, 25), (79, 26), (79, 31), (79, 32), (79, 33), (79, 34), (79, 39), (79, 40), (79, 41), (79, 42), (79, 43), (79, 44), (79, 45), (79, 47), (79, 48), (79, 49), (79, 50), (79, 51), (79, 52), (79, 53)] S43 := by rw [e43]; exact hp42.put _ (by decide) (by decide)
  clear e43
  refine gj_aload_n (q := 210) (gj_dk okX12_init_1 53 rfl) rfl rfl ?_
  refine gj_bipush (q := 212) (gj_dk okX12_init_1 54 rfl) (by decide) rfl rfl ?_
  refine gj_newarr (q := 214) (kd := 0) (gj_dk okX12_init_1 55 rfl) (by decide) rfl ka_int (by decide) (by decide) (by decide) (by decide) rfl ?_
  refine k_made hp43 [(79, 23), (79, 24), (79, 25), (79, 26), (79, 31), (79, 32), (79, 33), (79, 34), (79, 39), (79, 40), (79, 41), (79, 42), (79, 43), (79, 44), (79, 45), (79, 47), (79, 48), (79, 49), (79, 50), (79, 51), (79, 52), (79, 53)] (by decide) (by decide) (by decide) (by decide) (by decide) (by decide) (fun S44 hp44 => ?_)
  replace hp44 : k_Pt 112 [(79, 23), (79, 24), (79, 25), (79, 26), (79, 31), (79, 32), (79, 33), (79, 34), (79, 39), (79, 40), (79, 41), (79, 42), (79, 43), (79, 44), (79, 45), (79, 47), (79, 48), (79, 49), (79, 50), (79, 51), (79, 52), (79, 53)] S44 := hp44
  refine gj_putR (q := 217) (i := 23) (gj_dk okX12_init_1 56 rfl) ff_X12_86 (by exact hp44.2.1 79 (by decide) (by decide)) (by decide) rfl rfl (by first | exact Or.inl ⟨_, rfl⟩ | exact Or.inr ⟨_, rfl⟩) rfl ?_
  refine k_absS (fun S45 e45 => ?_)
  have hp45 : k_Pt 112 [(79, 24), (79, 25), (79, 26), (79, 31), (79, 32), (79, 33), (79, 34), (79, 39), (79, 40), (79, 41), (79, 42), (79, 43), (79, 44), (79, 45), (79, 47), (79, 48), (79, 49), (79, 50), (79, 51), (79, 52), (79, 53)] S45 := by rw [e45]; exact hp44.put _ (by decide) (by decide)
  clear e45
  refine gj_aload_n (q := 218) (gj_dk okX12_init_1 57 rfl) rfl rfl ?_
  refine gj_bipush (q := 220) (gj_dk okX12_init_1 58 rfl) (by decide) rfl rfl ?_
  refine gj_newarr (q := 222) (kd := 0) (gj_dk okX12_init_1 59 rfl) (by decide) rfl ka_int (by decide) (by decide) (by decide) (by decide) rfl ?_
  refine k_made hp45 [(79, 24), (79, 25), (79, 26), (79, 31), (79, 32), (79, 33), (79, 34), (79, 39), (79, 40), (79, 41), (79, 42), (79, 43), (79, 44), (79, 45), (79, 47), (79, 48), (79, 49), (79, 50), (79, 51), (79, 52), (79, 53)] (by decide) (by decide) (by decide) (by decide) (by decide) (by decide) (fun S46 hp46 => ?_)
  replace hp46 : k_Pt 113 [(79, 24), (79, 25), (79, 26), (79, 31), (79, 32), (79, 33), (79, 34), (79, 39), (79, 40), (79, 41), (79, 42), (79, 43), (79, 44), (79, 45), (79, 47), (79, 48), (79, 49), (79, 50), (79, 51), (79, 52), (79, 53)] S46 := hp46
  refine gj_putR (q := 225) (i := 24) (gj_dk okX12_init_2 0 rfl) ff_X12_89 (by exact hp46.2.1 79 (by decide) (by decide)) (by decide) rfl rfl (by first | exact Or.inl ⟨_, rfl⟩ | exact Or.inr ⟨_, rfl⟩) rfl ?_
  refine k_absS (fun S47 e47 => ?_)
  have hp47 : k_Pt 113 [(79, 25), (79, 26), (79, 31), (79, 32), (79, 33), (79, 34), (79, 39), (79, 40), (79, 41), (79, 42), (79, 43), (79, 44), (79, 45), (79, 47), (79, 48), (79, 49), (79, 50), (79, 51), (79, 52), (79, 53)] S47 := by rw [e47]; exact hp46.put _ (by decide) (by decide)
  clear e47
  refine gj_aload_n (q := 226) (gj_dk okX12_init_2 1 rfl) rfl rfl ?_
  refine gj_bipush (q := 228) (gj_dk okX12_init_2 2 rfl) (by decide) rfl rfl ?_
  refine gj_newarr (q := 230) (kd := 0) (gj_dk okX12_init_2 3 rfl) (by decide) rfl ka_int (by decide) (by decide) (by decide) (by decide) rfl ?_
  refine k_made hp47 [(79, 25), (79, 26), (79, 31), (79, 32), (79, 33), (79, 34), (79, 39), (79, 40), (79, 41), (79, 42), (79, 43), (79, 44), (79, 45), (79, 47), (79, 48), (79, 49), (79, 50), (79, 51), (79, 52), (79, 53)] (by decide) (by decide) (by decide) (by decide) (by decide) (by decide) (fun S48 hp48 => ?_)
  replace hp48 : k_Pt 114 [(79, 25), (79, 26), (79, 31), (79, 32), (79, 33), (79, 34), (79, 39), (79, 40), (79, 41), (79, 42), (79, 43), (79, 44), (79, 45), (79, 47), (79, 48), (79, 49), (79, 50), (79, 51), (79, 52), (79, 53)] S48 := hp48
  refine gj_putR (q := 233) (i := 25) (gj_dk okX12_init_2 4 rfl) ff_X12_92 (by exact hp48.2.1 79 (by decide) (by decide)) (by decide) rfl rfl (by first | exact Or.inl ⟨_, rfl⟩ | exact Or.inr ⟨_, rfl⟩) rfl ?_
  refine k_absS (fun S49 e49 => ?_)
  have hp49 : k_Pt 114 [(79, 26), (79, 31), (79, 32), (79, 33), (79, 34), (79, 39), (79, 40), (79, 41), (79, 42), (79, 43), (79, 44), (79, 45), (79, 47), (79, 48), (79, 49), (79, 50), (79, 51), (79, 52), (79, 53)] S49 := by rw [e49]; exact hp48.put _ (by decide) (by decide)
  clear e49
  refine gj_aload_n (q := 234) (gj_dk okX12_init_2 5 rfl) rfl rfl ?_
  refine gj_bipush (q := 236) (gj_dk okX12_init_2 6 rfl) (by decide) rfl rfl ?_
  refine gj_newarr (q := 238) (kd := 0) (gj_dk okX12_init_2 7 rfl) (by decide) rfl ka_int (by decide) (by decide) (by decide) (by decide) rfl ?_
  refine k_made hp49 [(79, 26), (79, 31), (79, 32), (79, 33), (79, 34), (79, 39), (79, 40), (79, 41), (79, 42), (79, 43), (79, 44), (79, 45), (79, 47), (79, 48), (79, 49), (79, 50), (79, 51), (79, 52), (79, 53)] (by decide) (by decide) (by decide) (by decide) (by decide) (by decide) (fun S50 hp50 => ?_)
  replace hp50 : k_Pt 115 [(79, 26), (79, 31), (79, 32), (79, 33), (79, 34), (79, 39), (79, 40), (79, 41), (79, 42), (79, 43), (79, 44), (79, 45), (79, 47), (79, 48), (79, 49), (79, 50), (79, 51), (79, 52), (79, 53)] S50 := hp50
  refine gj_putR (q := 241) (i := 26) (gj_dk okX12_init_2 8 rfl) ff_X12_95 (by exact hp50.2.1 79 (by decide) (by decide)) (by decide) rfl rfl (by first | exact Or.inl ⟨_, rfl⟩ | exact Or.inr ⟨_, rfl⟩) rfl ?_
  refine k_absS (fun S51 e51 => ?_)
  have hp51 : k_Pt 115 [(79, 31), (79, 32), (79, 33), (79, 34), (79, 39), (79, 40), (79, 41), (79, 42), (79, 43), (79, 44), (79, 45), (79, 47), (79, 48), (79, 49), (79, 50), (79, 51), (79, 52), (79, 53)] S51 := by rw [e51]; exact hp50.put _ (by decide) (by decide)
  clear e51
  refine gj_aload_n (q := 242) (gj_dk okX12_init_2 9 rfl) rfl rfl ?_
  refine gj_iconst (q := 243) (gj_dk okX12_init_2 10 rfl) (by decide) rfl ?_
  refine gj_newarr (q := 245) (kd := 0) (gj_dk okX12_init_2 11 rfl) (by decide) rfl ka_int (by decide) (by decide) (by decide) (by decide) rfl ?_
  refine k_made hp51 [(79, 31), (79, 32), (79, 33), (79, 34), (79, 39), (79, 40), (79, 41), (79, 42), (79, 43), (79, 44), (79, 45), (79, 47), (79, 48), (79, 49), (79, 50), (79, 51), (79, 52), (79, 53)] (by decide) (by decide) (by decide) (by decide) (by decide) (by decide) (fun S52 hp52 => ?_)
  replace hp52 : k_Pt 116 [(79, 31), (79, 32), (79, 33), (79, 34), (79, 39), (79, 40), (79, 41), (79, 42), (79, 43), (79, 44), (79, 45), (79, 47), (79, 48), (79, 49), (79, 50), (79, 51), (79, 52), (79, 53)] S52 := hp52
  refine gj_putR (q := 248) (i := 31) (gj_dk okX12_init_2 12 rfl) ff_X12_98 (by exact hp52.2.1 79 (by decide) (by decide)) (by decide) rfl rfl (by first | exact Or.inl ⟨_, rfl⟩ | exact Or.inr ⟨_, rfl⟩) rfl ?_
  refine k_absS (fun S53 e53 => ?_)
  have hp53 : k_Pt 116 [(79, 32), (79, 33), (79, 34), (79, 39), (79, 40), (79, 41), (79, 42), (79, 43), (79, 44), (79, 45), (79, 47), (79, 48), (79, 49), (79, 50), (79, 51), (79, 52), (79, 53)] S53 := by rw [e53]; exact hp52.put _ (by decide) (by decide)
  clear e53
  refine gj_aload_n (q := 249) (gj_dk okX12_init_2 13 rfl) rfl rfl ?_
  refine gj_iconst (q := 250) (gj_dk okX12_init_2 14 rfl) (by decide) rfl ?_
  refine gj_newarr (q := 252) (kd := 0) (gj_dk okX12_init_2 15 rfl) (by decide) rfl ka_int (by decide) (by decide) (by decide) (by decide) rfl ?_
  refine k_made hp53 [(79, 32), (79, 33), (79, 34), (79, 39), (79, 40), (79, 41), (79, 42), (79, 43), (79, 44), (79, 45), (79, 47), (79, 48), (79, 49), (79, 50), (79, 51), (79, 52), (79, 53)] (by decide) (by decide) (by decide) (by decide) (by decide) (by decide) (fun S54 hp54 => ?_)
  replace hp54 : k_Pt 117 [(79, 32), (79, 33), (79, 34), (79, 39), (79, 40), (79, 41), (79, 42), (79, 43), (79, 44), (79, 45), (79, 47), (79, 48), (79, 49), (79, 50), (79, 51), (79, 52), (79, 53)] S54 := hp54
  refine gj_putR (q := 255) (i := 32) (gj_dk okX12_init_2 16 rfl) ff_X12_101 (by exact hp54.2.1 79 (by decide) (by decide)) (by decide) rfl rfl (by first | exact Or.inl ⟨_, rfl⟩ | exact Or.inr ⟨_, rfl⟩) rfl ?_
  refine k_absS (fun S55 e55 => ?_)
  have hp55 : k_Pt 117 [(79, 33), (79, 34), (79, 39), (79, 40), (79, 41), (79, 42), (79, 43), (79, 44), (79, 45), (79, 47), (79, 48), (79, 49), (79, 50), (79, 51), (79, 52), (79, 53)] S55 := by rw [e55]; exact hp54.put _ (by decide) (by decide)
  clear e55
  refine gj_aload_n (q := 256) (gj_dk okX12_init_2 17 rfl) rfl rfl ?_
  refine gj_bipush (q := 258) (gj_dk okX12_init_2 18 rfl) (by decide) rfl rfl ?_
  refine gj_newarr (q := 260) (kd := 0) (gj_dk okX12_init_2 19 rfl) (by decide) rfl ka_int (by decide) (by decide) (by decide) (by decide) rfl ?_
  refine k_made hp55 [(79, 33), (79, 34), (79, 39), (79, 40), (79, 41), (79, 42), (79, 43), (79, 44), (79, 45), (79, 47), (79, 48), (79, 49), (79, 50), (79, 51), (79, 52), (79, 53)] (by decide) (by decide) (by decide) (by decide) (by decide) (by decide) (fun S56 hp56 => ?_)
  replace hp56 : k_Pt 118 [(79, 33), (79, 34), (79, 39), (79, 40), (79, 41), (79, 42), (79, 43), (79, 44), (79, 45), (79, 47), (79, 48), (79, 49), (79, 50), (79, 51), (79, 52), (79, 53)] S56 := hp56
  refine gj_putR (q := 263) (i := 33) (gj_dk okX12_init_2 20 rfl) ff_X12_104 (by exact hp56.2.1 79 (by decide) (by decide)) (by decide) rfl rfl (by first | exact Or.inl ⟨_, rfl⟩ | exact Or.inr ⟨_, rfl⟩) rfl ?_
  refine k_absS (fun S57 e57 => ?_)
  have hp57 : k_Pt 118 [(79, 34), (79, 39), (79, 40), (79, 41), (79, 42), (79, 43), (79, 44), (79, 45), (79, 47), (79, 48), (79, 49), (79, 50), (79, 51), (79, 52), (79, 53)] S57 := by rw [e57]; exact hp56.put _ (by decide) (by decide)
  clear e57
  refine gj_aload_n (q := 264) (gj_dk okX12_init_2 21 rfl) rfl rfl ?_
  refine gj_bipush (q := 266) (gj_dk okX12_init_2 22 rfl) (by decide) rfl rfl ?_
  refine gj_newarr (q := 268) (kd := 0) (gj_dk okX12_init_2 23 rfl) (by decide) rfl ka_int (by decide) (by decide) (by decide) (by decide) rfl ?_
  refine k_made hp57 [(79, 34), (79, 39), (79, 40), (79, 41), (79, 42), (79, 43), (79, 44), (79, 45), (79, 47), (79, 48), (79, 49), (79, 50), (79, 51), (79, 52), (79, 53)] (by decide) (by decide) (by decide) (by decide) (by decide) (by decide) (fun S58 hp58 => ?_)
  replace hp58 : k_Pt 119 [(79, 34), (79, 39), (79, 40), (79, 41), (79, 42), (79, 43), (79, 44), (79, 45), (79, 47), (79, 48), (79, 49), (79, 50), (79, 51), (79, 52), (79, 53)] S58 := hp58
  refine gj_putR (q := 271) (i := 34) (gj_dk okX12_init_2 24 rfl) ff_X12_107 (by exact hp58.2.1 79 (by decide) (by decide)) (by decide) rfl rfl (by first | exact Or.inl ⟨_, rfl⟩ | exact Or.inr ⟨_, rfl⟩) rfl ?_
  refine k_absS (fun S59 e59 => ?_)
  have hp59 : k_Pt 119 [(79, 39), (79, 40), (79, 41), (79, 42), (79, 43), (79, 44), (79, 45), (79, 47), (79, 48), (79, 49), (79, 50), (79, 51), (79, 52), (79, 53)] S59 := by rw [e59]; exact hp58.put _ (by decide) (by decide)
  clear e59
  refine gj_aload_n (q := 272) (gj_dk okX12_init_2 25 rfl) rfl rfl ?_
  refine gj_iconst (q := 273) (gj_dk okX12_init_2 26 rfl) (by decide) rfl ?_
  refine gj_pfI (q := 276) (j := 37) (gj_dk okX12_init_2 27 rfl) ff_X12_110 (by exact hp59.2.1 79 (by decide) (by decide)) (by decide) rfl rfl ?_
  rw [k_never (by decide)]
  refine gj_aload_n (q := 277) (gj_dk okX12_init_2 28 rfl) rfl rfl ?_
  refine gj_bipush (q := 279) (gj_dk okX12_init_2 29 rfl) (by decide) rfl rfl ?_
  refine gj_newarr (q := 281) (kd := 0) (gj_dk okX12_init_2 30 rfl) (by decide) rfl ka_int (by decide) (by decide) (by decide) (by decide) rfl ?_
  refine k_made hp59 [(79, 39), (79, 40), (79, 41), (79, 42), (79, 43), (79, 44), (79, 45), (79, 47), (79, 48), (79, 49), (79, 50), (79, 51), (79, 52), (79, 53)] (by decide) (by decide) (by decide) (by decide) (by decide) (by decide) (fun S60 hp60 => ?_)
  replace hp60 : k_Pt 120 [(79, 39), (79, 40), (79, 41), (79, 42), (79, 43), (79, 44), (79, 45), (79, 47), (79, 48), (79, 49), (79, 50), (79, 51), (79, 52), (79, 53)] S60 := hp60
  refine gj_putR (q := 284) (i := 39) (gj_dk okX12_init_2 31 rfl) ff_X12_114 (by exact hp60.2.1 79 (by decide) (by decide)) (by decide) rfl rfl (by first | exact Or.inl ⟨_, rfl⟩ | exact Or.inr ⟨_, rfl⟩) rfl ?_
  refine k_absS (fun S61 e61 => ?_)
  have hp61 : k_Pt 120 [(79, 40), (79, 41), (79, 42), (79, 43), (79, 44), (79, 45), (79, 47), (79, 48), (79, 49), (79, 50), (79, 51), (79, 52), (79, 53)] S61 := by rw [e61]; exact hp60.put _ (by decide) (by decide)
  clear e61
  refine gj_aload_n (q := 285) (gj_dk okX12_init_2 32 rfl) rfl rfl ?_
  refine gj_bipush (q := 287) (gj_dk okX12_init_2 33 rfl) (by decide) rfl rfl ?_
  refine gj_newarr (q := 289) (kd := 0) (gj_dk okX12_init_2 34 rfl) (by decide) rfl ka_int (by decide) (by decide) (by decide) (by decide) rfl ?_
  refine k_made hp61 [(79, 40), (79, 41), (79, 42), (79, 43), (79, 44), (79, 45), (79, 47), (79, 48), (79, 49), (79, 50), (79, 51), (79, 52), (79, 53)] (by decide) (by decide) (by decide) (by decide) (by decide) (by decide) (fun S62 hp62 => ?_)
  replace hp62 : k_Pt 121 [(79, 40), (79, 41), (79, 42), (79, 43), (79, 44), (79, 45), (79, 47), (79, 48), (79, 49), (79, 50), (79, 51), (79, 52), (79, 53)] S62 := hp62
  refine gj_putR (q := 292) (i := 40) (gj_dk okX12_init_2 35 rfl) ff_X12_117 (by exact hp62.2.1 79 (by decide) (by decide)) (by decide) rfl rfl (by first | exact Or.inl ⟨_, rfl⟩ | exact Or.inr ⟨_, rfl⟩) rfl ?_
  refine k_absS (fun S63 e63 => ?_)
  have hp63 : k_Pt 121 [(79, 41), (79, 42), (79, 43), (79, 44), (79, 45), (79, 47), (79, 48), (79, 49), (79, 50), (79, 51), (79, 52), (79, 53)] S63 := by rw [e63]; exact hp62.put _ (by decide) (by decide)
  clear e63
  refine gj_aload_n (q := 293) (gj_dk okX12_init_2 36 rfl) rfl rfl ?_
  refine gj_bipush (q := 295) (gj_dk okX12_init_2 37 rfl) (by decide) rfl rfl ?_
  refine gj_newarr (q := 297) (kd := 0) (gj_dk okX12_init_2 38 rfl) (by decide) rfl ka_int (by decide) (by decide) (by decide) (by decide) rfl ?_
  refine k_made hp63 [(79, 41), (79, 42), (79, 43), (79, 44), (79, 45), (79, 47), (79, 48), (79, 49), (79, 50), (79, 51), (79, 52), (79, 53)] (by decide) (by decide) (by decide) (by decide) (by decide) (by decide) (fun S64 hp64 => ?_)
  replace hp64 : k_Pt 122 [(79, 41), (79, 42), (79, 43), (79, 44), (79, 45), (79, 47), (79, 48), (79, 49), (79, 50), (79, 51), (79, 52), (79, 53)] S64 := hp64
  refine gj_putR (q := 300) (i := 41) (gj_dk okX12_init_2 39 rfl) ff_X12_120 (by exact hp64.2.1 79 (by decide) (by decide)) (by decide) rfl rfl (by first | exact Or.inl ⟨_, rfl⟩ | exact Or.inr ⟨_, rfl⟩) rfl ?_
  refine k_absS (fun S65 e65 => ?_)
  have hp65 : k_Pt 122 [(79, 42), (79, 43), (79, 44), (79, 45), (79, 47), (79, 48), (79, 49), (79, 50), (79, 51), (79, 52), (79, 53)] S65 := by rw [e65]; exact hp64.put _ (by decide) (by decide)
  clear e65
  refine gj_aload_n (q := 301) (gj_dk okX12_init_2 40 rfl) rfl rfl ?_
  refine gj_sipush (q := 304) (gj_dk okX12_init_2 41 rfl) (by decide) rfl rfl ?_
  refine gj_newarr (q := 306) (kd := 0) (gj_dk okX12_init_2 42 rfl) (by decide) rfl ka_int (by decide) (by decide) (by decide) (by decide) rfl ?_
  refine k_made hp65 [(79, 42), (79, 43), (79, 44), (79, 45), (79, 47), (79, 48), (79, 49), (79, 50), (79, 51), (79, 52), (79, 53)] (by decide) (by decide) (by decide) (by decide) (by decide) (by decide) (fun S66 hp66 => ?_)
  replace hp66 : k_Pt 123 [(79, 42), (79, 43), (79, 44), (79, 45), (79, 47), (79, 48), (79, 49), (79, 50), (79, 51), (79, 52), (79, 53)] S66 := hp66
  refine gj_putR (q := 309) (i := 42) (gj_dk okX12_init_2 43 rfl) ff_X12_123 (by exact hp66.2.1 79 (by decide) (by decide)) (by decide) rfl rfl (by first | exact Or.inl ⟨_, rfl⟩ | exact Or.inr ⟨_, rfl⟩) rfl ?_
  refine k_absS (fun S67 e67 => ?_)
  have hp67 : k_Pt 123 [(79, 43), (79, 44), (79, 45), (79, 47), (79, 48), (79, 49), (79, 50), (79, 51), (79, 52), (79, 53)] S67 := by rw [e67]; exact hp66.put _ (by decide) (by decide)
  clear e67
  refine gj_aload_n (q := 310) (gj_dk okX12_init_2 44 rfl) rfl rfl ?_
  refine gj_bipush (q := 312) (gj_dk okX12_init_2 45 rfl) (by decide) rfl rfl ?_
  refine gj_newarr (q := 314) (kd := 0) (gj_dk okX12_init_2 46 rfl) (by decide) rfl ka_int (by decide) (by decide) (by decide) (by decide) rfl ?_
  refine k_made hp67 [(79, 43), (79, 44), (79, 45), (79, 47), (79, 48), (79, 49), (79, 50), (79, 51), (79, 52), (79, 53)] (by decide) (by decide) (by decide) (by decide) (by decide) (by decide) (fun S68 hp68 => ?_)
  replace hp68 : k_Pt 124 [(79, 43), (79, 44), (79, 45), (79, 47), (79, 48), (79, 49), (79, 50), (79, 51), (79, 52), (79, 53)] S68 := hp68
  refine gj_putR (q := 317) (i := 43) (gj_dk okX12_init_2 47 rfl) ff_X12_126 (by exact hp68.2.1 79 (by decide) (by decide)) (by decide) rfl rfl (by first | exact Or.inl ⟨_, rfl⟩ | exact Or.inr ⟨_, rfl⟩) rfl ?_
  refine k_absS (fun S69 e69 => ?_)
  have hp69 : k_Pt 124 [(79, 44), (79, 45), (79, 47), (79, 48), (79, 49), (79, 50), (79, 51), (79, 52), (79, 53)] S69 := by rw [e69]; exact hp68.put _ (by decide) (by decide)
  clear e69
  refine gj_aload_n (q := 318) (gj_dk okX12_init_2 48 rfl) rfl rfl ?_
  refine gj_bipush (q := 320) (gj_dk okX12_init_2 49 rfl) (by decide) rfl rfl ?_
  refine gj_newarr (q := 322) (kd := 0) (gj_dk okX12_init_2 50 rfl) (by decide) rfl ka_int (by decide) (by decide) (by decide) (by decide) rfl ?_
  refine k_made hp69 [(79, 44), (79, 45), (79, 47), (79, 48), (79, 49), (79, 50), (79, 51), (79, 52), (79, 53)] (by decide) (by decide) (by decide) (by decide) (by decide) (by decide) (fun S70 hp70 => ?_)
  replace hp70 : k_Pt 125 [(79, 44), (79, 45), (79, 47), (79, 48), (79, 49), (79, 50), (79, 51), (79, 52), (79, 53)] S70 := hp70
  refine gj_putR (q := 325) (i := 44) (gj_dk okX12_init_2 51 rfl) ff_X12_129 (by exact hp70.2.1 79 (by decide) (by decide)) (by decide) rfl rfl (by first | exact Or.inl ⟨_, rfl⟩ | exact Or.inr ⟨_, rfl⟩) rfl ?_
  refine k_absS (fun S71 e71 => ?_)
  have hp71 : k_Pt 125 [(79, 45), (79, 47), (79, 48), (79, 49), (79, 50), (79, 51), (79, 52), (79, 53)] S71 := by rw [e71]; exact hp70.put _ (by decide) (by decide)
  clear e71
  refine gj_aload_n (q := 326) (gj_dk okX12_init_2 52 rfl) rfl rfl ?_
  refine gj_bipush (q := 328) (gj_dk okX12_init_2 53 rfl) (by decide) rfl rfl ?_
  refine gj_newarr (q := 330) (kd := 0) (gj_dk okX12_init_2 54 rfl) (by decide) rfl ka_int (by decide) (by decide) (by decide) (by decide) rfl ?_
  refine k_made hp71 [(79, 45), (79, 47), (79, 48), (79, 49), (79, 50), (79, 51), (79, 52), (79, 53)] (by decide) (by decide) (by decide) (by decide) (by decide) (by decide) (fun S72 hp72 => ?_)
  replace hp72 : k_Pt 126 [(79, 45), (79, 47), (79, 48), (79, 49), (79, 50), (79, 51), (79, 52), (79, 53)] S72 := hp72
  refine gj_putR (q := 333) (i := 45) (gj_dk okX12_init_2 55 rfl) ff_X12_132 (by exact hp72.2.1 79 (by decide) (by decide)) (by decide) rfl rfl (by first | exact Or.inl ⟨_, rfl⟩ | exact Or.inr ⟨_, rfl⟩) rfl ?_
  refine k_absS (fun S73 e73 => ?_)
  have hp73 : k_Pt 126 [(79, 47), (79, 48), (79, 49), (79, 50), (79, 51), (79, 52), (79, 53)] S73 := by rw [e73]; exact hp72.put _ (by decide) (by decide)
  clear e73
  refine gj_aload_n (q := 334) (gj_dk okX12_init_2 56 rfl) rfl rfl ?_
  refine gj_bipush (q := 336) (gj_dk okX12_init_2 57 rfl) (by decide) rfl rfl ?_
  refine gj_newarr (q := 338) (kd := 0) (gj_dk okX12_init_2 58 rfl) (by decide) rfl ka_int (by decide) (by decide) (by decide) (by decide) rfl ?_
  refine k_made hp73 [(79, 47), (79, 48), (79, 49), (79, 50), (79, 51), (79, 52), (79, 53)] (by decide) (by decide) (by decide) (by decide) (by decide) (by decide) (fun S74 hp74 => ?_)
  replace hp74 : k_Pt 127 [(79, 47), (79, 48), (79, 49), (79, 50), (79, 51), (79, 52), (79, 53)] S74 := hp74
  refine gj_putR (q := 341) (i := 47) (gj_dk okX12_init_2 59 rfl) ff_X12_135 (by exact hp74.2.1 79 (by decide) (by decide)) (by decide) rfl rfl (by first | exact Or.inl ⟨_, rfl⟩ | exact Or.inr ⟨_, rfl⟩) rfl ?_
  refine k_absS (fun S75 e75 => ?_)
  have hp75 : k_Pt 127 [(79, 48), (79, 49), (79, 50), (79, 51), (79, 52), (79, 53)] S75 := by rw [e75]; exact hp74.put _ (by decide) (by decide)
  clear e75
  refine gj_aload_n (q := 342) (gj_dk okX12_init_3 0 rfl) rfl rfl ?_
  refine gj_bipush (q := 344) (gj_dk okX12_init_3 1 rfl) (by decide) rfl rfl ?_
  refine gj_newarr (q := 346) (kd := 0) (gj_dk okX12_init_3 2 rfl) (by decide) rfl ka_int (by decide) (by decide) (by decide) (by decide) rfl ?_
  refine k_made hp75 [(79, 48), (79, 49), (79, 50), (79, 51), (79, 52), (79, 53)] (by decide) (by decide) (by decide) (by decide) (by decide) (by decide) (fun S76 hp76 => ?_)
  replace hp76 : k_Pt 128 [(79, 48), (79, 49), (79, 50), (79, 51), (79, 52), (79, 53)] S76 := hp76
  refine gj_putR (q := 349) (i := 48) (gj_dk okX12_init_3 3 rfl) ff_X12_138 (by exact hp76.2.1 79 (by decide) (by decide)) (by decide) rfl rfl (by first | exact Or.inl ⟨_, rfl⟩ | exact Or.inr ⟨_, rfl⟩) rfl ?_
  refine k_absS (fun S77 e77 => ?_)
  have hp77 : k_Pt 128 [(79, 49), (79, 50), (79, 51), (79, 52), (79, 53)] S77 := by rw [e77]; exact hp76.put _ (by decide) (by decide)
  clear e77
  refine gj_aload_n (q := 350) (gj_dk okX12_init_3 4 rfl) rfl rfl ?_
  refine gj_bipush (q := 352) (gj_dk okX12_init_3 5 rfl) (by decide) rfl rfl ?_
  refine gj_newarr (q := 354) (kd := 0) (gj_dk okX12_init_3 6 rfl) (by decide) rfl ka_int (by decide) (by decide) (by decide) (by decide) rfl ?_
  refine k_made hp77 [(79, 49), (79, 50), (79, 51), (79, 52), (79, 53)] (by decide) (by decide) (by decide) (by decide) (by decide) (by decide) (fun S78 hp78 => ?_)
  replace hp78 : k_Pt 129 [(79, 49), (79, 50), (79, 51), (79, 52), (79, 53)] S78 := hp78
  refine gj_putR (q := 357) (i := 49) (gj_dk okX12_init_3 7 rfl) ff_X12_141 (by exact hp78.2.1 79 (by decide) (by decide)) (by decide) rfl rfl (by first | exact Or.inl ⟨_, rfl⟩ | exact Or.inr ⟨_, rfl⟩) rfl ?_
  refine k_absS (fun S79 e79 => ?_)
  have hp79 : k_Pt 129 [(79, 50), (79, 51), (79, 52), (79, 53)] S79 := by rw [e79]; exact hp78.put _ (by decide) (by decide)
  clear e79
  refine gj_aload_n (q := 358) (gj_dk okX12_init_3 8 rfl) rfl rfl ?_
  refine gj_bipush (q := 360) (gj_dk okX12_init_3 9 rfl) (by decide) rfl rfl ?_
  refine gj_newarr (q := 362) (kd := 0) (gj_dk okX12_init_3 10 rfl) (by decide) rfl ka_int (by decide) (by decide) (by decide) (by decide) rfl ?_
  refine k_made hp79 [(79, 50), (79, 51), (79, 52), (79, 53)] (by decide) (by decide) (by decide) (by decide) (by decide) (by decide) (fun S80 hp80 => ?_)
  replace hp80 : k_Pt 130 [(79, 50), (79, 51), (79, 52), (79, 53)] S80 := hp80
  refine gj_putR (q := 365) (i := 50) (gj_dk okX12_init_3 11 rfl) ff_X12_144 (by exact hp80.2.1 79 (by decide) (by decide)) (by decide) rfl rfl (by first | exact Or.inl ⟨_, rfl⟩ | exact Or.inr ⟨_, rfl⟩) rfl ?_
  refine k_absS (fun S81 e81 => ?_)
  have hp81 : k_Pt 130 [(79, 51), (79, 52), (79, 53)] S81 := by rw [e81]; exact hp80.put _ (by decide) (by decide)
  clear e81
  refine gj_aload_n (q := 366) (gj_dk okX12_init_3 12 rfl) rfl rfl ?_
  refine gj_iconst (q := 367) (gj_dk okX12_init_3 13 rfl) (by decide) rfl ?_
  refine gj_sipush (q := 370) (gj_dk okX12_init_3 14 rfl) (by decide) rfl rfl ?_
  refine gj_newarr2 (q := 374) (gj_dk okX12_init_3 15 rfl) cl_X12_17 ka_int (by decide) (by decide) (by decide) (by decide) rfl ?_
  refine k_made2 hp81 (by decide) (by decide) (fun w h1 h2 => ?_) (fun w h1 h2 i h3 => ?_) (by decide) (by decide) (fun S82 hp82 => ?_)
  · obtain (rfl | rfl | rfl) : w = 131 ∨ w = 132 ∨ w = 133 := by omega
    · rfl
    · rfl
    · rfl
  · obtain (rfl | rfl | rfl | rfl) : w = 130 ∨ w = 131 ∨ w = 132 ∨ w = 133 := by omega
    · rw [k_rfN 130 [131, 132, 133] rfl i h3, if_pos rfl]
      by_cases hi : i < 3
      · rw [if_pos ⟨h3, hi⟩]
        obtain (rfl | rfl | rfl) : i = 0 ∨ i = 1 ∨ i = 2 := by omega
        · rfl
        · rfl
        · rfl
      · rw [if_neg (by omega), List.getD_eq_getElem?_getD, List.getElem?_eq_none (by simp; omega)]; rfl
    · rw [k_rfN 131 [] rfl i h3, if_neg (by decide)]; rfl
    · rw [k_rfN 132 [] rfl i h3, if_neg (by decide)]; rfl
    · rw [k_rfN 133 [] rfl i h3, if_neg (by decide)]; rfl
  replace hp82 : k_Pt 134 [(79, 51), (79, 52), (79, 53)] S82 := hp82
  refine gj_putR (q := 377) (i := 51) (gj_dk okX12_init_3 16 rfl) ff_X12_147 (by exact hp82.2.1 79 (by decide) (by decide)) (by decide) rfl rfl (by first | exact Or.inl ⟨_, rfl⟩ | exact Or.inr ⟨_, rfl⟩) rfl ?_
  refine k_absS (fun S83 e83 => ?_)
  have hp83 : k_Pt 134 [(79, 52), (79, 53)] S83 := by rw [e83]; exact hp82.put _ (by decide) (by decide)
  clear e83
  refine gj_aload_n (q := 378) (gj_dk okX12_init_3 17 rfl) rfl rfl ?_
  refine gj_iconst (q := 379) (gj_dk okX12_init_3 18 rfl) (by decide) rfl ?_
  refine gj_newarr (q := 381) (kd := 1) (gj_dk okX12_init_3 19 rfl) (by decide) rfl ka_long (by decide) (by decide) (by decide) (by decide) rfl ?_
  refine k_made hp83 [(79, 52), (79, 53)] (by decide) (by decide) (by decide) (by decide) (by decide) (by decide) (fun S84 hp84 => ?_)
  replace hp84 : k_Pt 135 [(79, 52), (79, 53)] S84 := hp84
  refine gj_putR (q := 384) (i := 52) (gj_dk okX12_init_3 20 rfl) ff_X12_150 (by exact hp84.2.1 79 (by decide) (by decide)) (by decide) rfl rfl (by first | exact Or.inl ⟨_, rfl⟩ | exact Or.inr ⟨_, rfl⟩) rfl ?_
  refine k_absS (fun S85 e85 => ?_)
  have hp85 : k_Pt 135 [(79, 53)] S85 := by rw [e85]; exact hp84.put _ (by decide) (by decide)
  clear e85
  refine gj_aload_n (q := 385) (gj_dk okX12_init_3 21 rfl) rfl rfl ?_
  refine gj_iconst (q := 386) (gj_dk okX12_init_3 22 rfl) (by decide) rfl ?_
  refine gj_newarr (q := 388) (kd := 3) (gj_dk okX12_init_3 23 rfl) (by decide) rfl ka_boolean (by decide) (by decide) (by decide) (by decide) rfl ?_
  refine k_made hp85 [(79, 53)] (by decide) (by decide) (by decide) (by decide) (by decide) (by decide) (fun S86 hp86 => ?_)
  replace hp86 : k_Pt 136 [(79, 53)] S86 := hp86
  refine gj_putR (q := 391) (i := 53) (gj_dk okX12_init_3 24 rfl) ff_X12_153 (by exact hp86.2.1 79 (by decide) (by decide)) (by decide) rfl rfl (by first | exact Or.inl ⟨_, rfl⟩ | exact Or.inr ⟨_, rfl⟩) rfl ?_
  refine k_absS (fun S87 e87 => ?_)
  have hp87 : k_Pt 136 [] S87 := by rw [e87]; exact hp86.put _ (by decide) (by decide)
  clear e87
  exact gj_vret (gj_dk okX12_init_3 25 rfl) rfl ⟨rfl, hp87, rfl⟩
theorem k_Stat {S : gj_S} (h : k_Pt 136 [] S) : gj_Stat S := ⟨by rw [h.1]; decide, h.2.1, fun z i h1 h2 h3 => h.2.2 z i h1 h2 h3 (by simp)⟩
/-- what the objects hold at first -/
def gj_m0 : gj_M := k_mF [68, 58, 48, 22] true
end GJK
