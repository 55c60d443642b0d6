/-! FRESH OBJECTS: what is known of the cells -/
theorem f_put_ne {M : gj_M} {z n i v a b : Int} (h : a ≠ z) : f_put M z n i v a b = M a b := by
  unfold f_put
  split
  · exact if_neg (fun q => h q.1)
  · rfl
theorem gj_cmp_gt {a b : Int} (h : 0 < gj_cmp a b) : b < a := by
  unfold gj_cmp at h
  split at h
  · assumption
  · split at h <;> omega
theorem gj_cmp_ngt {a b : Int} (h : ¬ 0 < gj_cmp a b) : a ≤ b := by
  unfold gj_cmp at h
  split at h
  · omega
  · split at h <;> omega
section GJX
variable {G : gj_G} {l : Launch} {d mc ms : Nat} {y : MethodName} {cc : ByteArray} {nL : Nat} {ret : Option FieldType} {Q : Option gj_V → gj_S → gj_M → Prop} {k n pc q : Nat} {ls : List (Nat × gj_V)} {st st' : List gj_V} {S : gj_S} {M : gj_M}
theorem gj_iaddX {a b : Int} (hd : decode cc pc = .ok (.iadd, 1)) (h : -2147483648 ≤ a + b ∧ a + b < 2147483648) (hq : pc + 1 = q) (K : gj_W G l d mc ms y cc nL ret Q k n q ls (jI (a + b) :: st) S M) : gj_W G l d mc ms y cc nL ret Q k n pc ls (jI b :: jI a :: st) S M := gj_iadd hd hq (by rw [gj_w_id h]; exact K)
theorem gj_isubX {a b : Int} (hd : decode cc pc = .ok (.isub, 1)) (h : -2147483648 ≤ a - b ∧ a - b < 2147483648) (hq : pc + 1 = q) (K : gj_W G l d mc ms y cc nL ret Q k n q ls (jI (a - b) :: st) S M) : gj_W G l d mc ms y cc nL ret Q k n pc ls (jI b :: jI a :: st) S M := gj_isub hd hq (by rw [gj_w_id h]; exact K)
theorem gj_imulX {a b : Int} (hd : decode cc pc = .ok (.imul, 1)) (h : -2147483648 ≤ a * b ∧ a * b < 2147483648) (hq : pc + 1 = q) (K : gj_W G l d mc ms y cc nL ret Q k n q ls (jI (a * b) :: st) S M) : gj_W G l d mc ms y cc nL ret Q k n pc ls (jI b :: jI a :: st) S M := gj_imul hd hq (by rw [gj_w_id h]; exact K)
theorem gj_idivN {a b : Int} (hd : decode cc pc = .ok (.idiv, 1)) (h : 0 ≤ a ∧ 0 < b) (hq : pc + 1 = q) (K : gj_W G l d mc ms y cc nL ret Q k n q ls (jI (a / b) :: st) S M) : gj_W G l d mc ms y cc nL ret Q k n pc ls (jI b :: jI a :: st) S M := by
  refine gj_rng (fun ho _ _ => gj_idiv hd (by omega) hq ?_)
  have h1 := gj_o1 ho
  have h2 : a / b ≤ a := Int.ediv_le_self _ h.1
  have h3 : 0 ≤ a / b := Int.ediv_nonneg h.1 (by omega)
  rw [Int.tdiv_eq_ediv_of_nonneg h.1, gj_wle (by omega) (by omega)]
  exact K
theorem gj_iremN {a b : Int} (hd : decode cc pc = .ok (.irem, 1)) (h : 0 ≤ a ∧ 0 < b) (hq : pc + 1 = q) (K : gj_W G l d mc ms y cc nL ret Q k n q ls (jI (a % b) :: st) S M) : gj_W G l d mc ms y cc nL ret Q k n pc ls (jI b :: jI a :: st) S M :=
  gj_irem hd (by omega) hq (by rw [Int.tmod_eq_emod_of_nonneg h.1]; exact K)
end GJX

def p_in (os cs : List Int) (z i : Int) : Bool := os.contains z || (decide (z = 79) && cs.contains i)
/-- since M nothing is written but the objects os and the reference's own fields cs -/
def p_W (os cs : List Int) (M M' : gj_M) : Prop := ∀ z i : Int, decide (0 ≤ z) = true → decide (z < 136) = true → p_in os cs z i = false → M' z i = M z i
/-- as at first, from the object lo on, but for os and cs -/
def p_F (lo : Int) (os cs : List Int) (M : gj_M) : Prop := ∀ z i : Int, decide (lo ≤ z ∧ 0 ≤ z) = true → decide (z < 136) = true → p_in os cs z i = false → M z i = gj_m0 z i
theorem gj_upne {M : gj_M} {z i v a b : Int} (h : ¬ (a = z ∧ b = i)) : gj_up M z i v a b = M a b := if_neg h
theorem f_put_ne' {M : gj_M} {z n i v a b : Int} (h : a ≠ z) : f_put M z n i v a b = M a b := by
  unfold f_put
  split
  · exact if_neg (fun q => h q.1)
  · rfl
theorem f_fill_ne {M : gj_M} {z n v a b : Int} (h : a ≠ z) : f_fill M z n v a b = M a b := if_neg (fun q => h q.1)
theorem p_in_z {os cs : List Int} {z a b : Int} (h : os.contains z = true) (h2 : p_in os cs a b = false) : a ≠ z := by
  intro e
  subst e
  unfold p_in at h2
  rw [h] at h2
  cases h2
theorem p_W.up {os cs : List Int} {M0 M : gj_M} {z i v : Int} (h : p_W os cs M0 M) (hz : (p_in os cs z i) = true) : p_W os cs M0 (gj_up M z i v) := by
  intro a b h1 h2 h3
  rw [gj_upne (fun e => by rw [e.1, e.2, hz] at h3; cases h3)]
  exact h a b h1 h2 h3
theorem p_W.upN {os cs : List Int} {M0 M : gj_M} {z i v : Int} (h : p_W os cs M0 M) (hz : 136 ≤ z) : p_W os cs M0 (gj_up M z i v) := by
  intro a b h1 h2 h3
  have := of_decide_eq_true h2
  rw [gj_upne (by omega)]
  exact h a b h1 h2 h3
theorem p_W.put {os cs : List Int} {M0 M : gj_M} {z n i v : Int} (h : p_W os cs M0 M) (hz : os.contains z = true) : p_W os cs M0 (f_put M z n i v) := by
  intro a b h1 h2 h3
  rw [f_put_ne' (p_in_z hz h3)]
  exact h a b h1 h2 h3
theorem p_W.fill {os cs : List Int} {M0 M : gj_M} {z n v : Int} (h : p_W os cs M0 M) (hz : os.contains z = true) : p_W os cs M0 (f_fill M z n v) := by
  intro a b h1 h2 h3
  rw [f_fill_ne (p_in_z hz h3)]
  exact h a b h1 h2 h3
theorem p_W.rf {M : gj_M} : p_W [] [] M M := fun _ _ _ _ _ => rfl
theorem p_W.trans {os cs : List Int} {M0 M M' : gj_M} (h : p_W os cs M0 M) (h' : p_W os cs M M') : p_W os cs M0 M' := fun a b h1 h2 h3 => (h' a b h1 h2 h3).trans (h a b h1 h2 h3)
def p_sub (a b : List Int) : Bool := a.all fun x => b.contains x
theorem p_sub_in {os cs os' cs' : List Int} (h : p_sub os os' = true) (h' : p_sub cs cs' = true) {z i : Int} (hz : p_in os' cs' z i = false) : p_in os cs z i = false := by
  unfold p_in at *
  rw [Bool.or_eq_false_iff] at *
  refine ⟨?_, ?_⟩
  · rw [← Bool.not_eq_true]
    intro q
    have h1 := List.all_eq_true.mp h z (List.elem_iff.mp q)
    rw [hz.1] at h1
    cases h1
  · rw [← Bool.not_eq_true]
    intro q
    rw [Bool.and_eq_true] at q
    have h1 := List.all_eq_true.mp h' i (List.elem_iff.mp q.2)
    have h2 := hz.2
    rw [q.1, h1] at h2
    cases h2
theorem p_W.wide {os cs os' cs' : List Int} {M0 M : gj_M} (h : p_W os cs M0 M) (hc : (p_sub os os' && p_sub cs cs') = true) : p_W os' cs' M0 M := by
  rw [Bool.and_eq_true] at hc
  exact fun a b h1 h2 h3 => h a b h1 h2 (p_sub_in hc.1 hc.2 h3)
def p_ck (lo : Int) (OS CS os cs : List Int) (lo' : Int) (OS' CS' : List Int) : Bool := decide (lo ≤ lo') && ((OS ++ os).all (fun x => decide (x < lo') || OS'.contains x) && (decide (79 < lo') || p_sub (CS ++ cs) CS'))
theorem p_F.of {lo lo' : Int} {OS CS os cs OS' CS' : List Int} {M M' : gj_M} (h : p_F lo OS CS M) (w : p_W os cs M M') (hc : p_ck lo OS CS os cs lo' OS' CS' = true) : p_F lo' OS' CS' M' := by
  intro z i h1 h2 h3
  unfold p_ck at hc
  simp only [Bool.and_eq_true, decide_eq_true_eq, List.all_eq_true, Bool.or_eq_true] at hc h1
  obtain ⟨c1, c2, c3⟩ := hc
  have k1 : p_in (OS ++ os) (CS ++ cs) z i = false := by
    rw [← Bool.not_eq_true]
    intro q
    unfold p_in at q h3
    rw [Bool.or_eq_false_iff] at h3
    rw [Bool.or_eq_true] at q
    rcases q with q | q
    · rcases c2 z (List.elem_iff.mp q) with q2 | q2
      · omega
      · rw [h3.1] at q2; cases q2
    · rw [Bool.and_eq_true, decide_eq_true_eq] at q
      rcases c3 with c3 | c3
      · omega
      · have h5 := List.all_eq_true.mp c3 i (List.elem_iff.mp q.2)
        have h6 := h3.2
        rw [h5, decide_eq_true q.1] at h6
        cases h6
  have k2 : p_in OS CS z i = false ∧ p_in os cs z i = false := by
    unfold p_in at *
    simp only [Bool.or_eq_false_iff, Bool.and_eq_false_iff, List.contains_eq_mem, decide_eq_false_iff_not, List.mem_append, not_or] at *
    obtain ⟨⟨a1, a2⟩, a3⟩ := k1
    refine ⟨⟨a1, ?_⟩, a2, ?_⟩
    · rcases a3 with a3 | a3
      · exact Or.inl a3
      · exact Or.inr a3.1
    · rcases a3 with a3 | a3
      · exact Or.inl a3
      · exact Or.inr a3.2
  rw [w z i (decide_eq_true h1.2) h2 k2.2]
  exact h z i (by rw [decide_eq_true_eq]; omega) h2 k2.1
theorem p_F.get {lo : Int} {OS CS : List Int} {M : gj_M} (h : p_F lo OS CS M) (z i : Int) (h1 : decide (lo ≤ z ∧ 0 ≤ z) = true) (h2 : decide (z < 136) = true) (h3 : p_in OS CS z i = false) {v : Int} (hv : gj_m0 z i = v) : M z i = v := (h z i h1 h2 h3).trans hv
def p_F4 : List Int := [68, 58, 48, 22]
theorem p_m0 {z i : Int} (h : (decide (z = 79) || p_F4.contains z) = false) : gj_m0 z i = 0 := by
  unfold gj_m0 k_mF
  rw [if_neg]
  rw [Bool.or_eq_false_iff, decide_eq_false_iff_not] at h
  rintro (q | q)
  · have : p_F4.contains z = true := List.elem_iff.mpr q.1
    rw [h.2] at this
    cases this
  · exact h.1 q.2.1
theorem p_inR {OS CS : List Int} {z i : Int} (h : (OS.contains z || decide (z = 79)) = false) : p_in OS CS z i = false := by
  unfold p_in
  rw [Bool.or_eq_false_iff] at h
  rw [h.1, h.2]
  rfl
theorem p_F.row0 {lo : Int} {OS CS : List Int} {M : gj_M} (h : p_F lo OS CS M) (z i : Int) (h1 : decide (lo ≤ z ∧ 0 ≤ z) = true) (h2 : decide (z < 136) = true) (h3 : (OS.contains z || (decide (z = 79) || p_F4.contains z)) = false) : M z i = 0 := by
  have h4 := h3
  rw [Bool.or_eq_false_iff] at h4
  have h5 := h4.2
  rw [Bool.or_eq_false_iff] at h5
  exact (h z i h1 h2 (p_inR (by rw [h4.1, h5.1]; rfl))).trans (p_m0 h4.2)
theorem p_F.at0 {lo : Int} {OS CS : List Int} {M : gj_M} (h : p_F lo OS CS M) (z n i : Int) (h1 : decide (lo ≤ z ∧ 0 ≤ z) = true) (h2 : decide (z < 136) = true) (h3 : (OS.contains z || (decide (z = 79) || p_F4.contains z)) = false) : f_at M z n i = 0 := by
  unfold f_at
  split
  · exact h.row0 z i h1 h2 h3
  · rfl
def f_in (x lo hi : Int) : Int := if lo ≤ x ∧ x ≤ hi then 1 else 0
def f_pic (k : Int) : Int := if k = 0 then 47 else if k = 1 then 57 else if k = 2 then 67 else -1
theorem gj_cmp_neg {a b : Int} : gj_cmp a b < 0 ↔ a < b := by
  unfold gj_cmp
  split
  · omega
  · split <;> omega
theorem gj_cmp_pos {a b : Int} : 0 < gj_cmp a b ↔ b < a := by
  unfold gj_cmp
  split
  · omega
  · split <;> omega
theorem gj_Stat.new {S : gj_S} (h : gj_Stat S) {kd : Nat} {len : Int} : gj_Stat (gj_nS S kd len) := by
  obtain ⟨h1, h2, h3⟩ := h
  refine ⟨by show 136 ≤ S.1 + 1; omega, fun z a b => ?_, fun z i a b c => ?_⟩
  · show (if z = S.1 then (kd, len) else S.2.1 z) = _
    rw [if_neg (by omega)]
    exact h2 z a b
  · show (if z = S.1 then -1 else S.2.2 z i) = _
    rw [if_neg (by omega)]
    exact h3 z i a b c
section GJP
variable {G : gj_G} {l : Launch} {d mc ms : Nat} {y : MethodName} {cc : ByteArray} {nL : Nat} {ret : Option FieldType} {Q : Option gj_V → gj_S → gj_M → Prop} {k n pc q : Nat} {ls : List (Nat × gj_V)} {st st' : List gj_V} {S : gj_S} {M : gj_M}
theorem p_newA {len : Int} (hst : gj_Stat S) (K : ∀ (S' : gj_S) (z : Int), gj_Stat S' → S'.2.1 z = (0, len) → 136 ≤ z → (∀ a b : Int, decide (a < 136) = true → gj_nM S M a b = M a b) → gj_W G l d mc ms y cc nL ret Q k n pc ls (jR z :: st) S' (gj_nM S M)) : gj_W G l d mc ms y cc nL ret Q k n pc ls (jR S.1 :: st) (gj_nS S 0 len) (gj_nM S M) := by
  have h1 := hst.1
  refine K _ S.1 hst.new (if_pos rfl) h1 (fun a b h => ?_)
  have := of_decide_eq_true h
  exact if_neg (by omega)
end GJP
section GJWL
variable {G : gj_G} {l : Launch} {S : gj_S} {M0 M : gj_M}
set_option maxHeartbeats 4000000 in
set_option maxRecDepth 20000 in
theorem w_X5_shownGood (hst : gj_Stat S) (a1 a2 a3 : Int)  : gj_C G l 2 0 0 yX5_shownGood cX5_shownGood 4 (some .int) [jR 14, jI a1, jI a2, jI a3] S M (gj_qI fun x S' M' => S = S' ∧ M = M') := by
  refine gj_Cof (by decide +kernel) (Nat.le_of_ble_eq_true rfl) ?_
  change gj_W G l 2 0 0 yX5_shownGood cX5_shownGood 4 (some .int) (gj_qI fun x S' M' => S = S' ∧ M = M') 0 0 0 [(0, jR 14), (1, jI a1), (2, jI a2), (3, jI a3)] [] S M
  refine gj_aload_n (q := 1) (gj_dk okX5_shownGood 0 rfl) rfl rfl ?_
  refine gj_gR (q := 4) (j := 15) (gj_dk okX5_shownGood 1 rfl) ff_X5_27 (sh14 hst) (by decide) rfl (rf14_15 hst) rfl ?_
  refine gj_iload_n (q := 5) (gj_dk okX5_shownGood 2 rfl) rfl rfl ?_
  refine gj_iconst (q := 6) (gj_dk okX5_shownGood 3 rfl) (by decide) rfl ?_
  refine gj_imul (q := 7) (gj_dk okX5_shownGood 4 rfl) rfl ?_
  refine gj_iload_n (q := 8) (gj_dk okX5_shownGood 5 rfl) rfl rfl ?_
  refine gj_iadd (q := 9) (gj_dk okX5_shownGood 6 rfl) rfl ?_
  refine gj_iconst (q := 10) (gj_dk okX5_shownGood 7 rfl) (by decide) rfl ?_
  refine gj_imul (q := 11) (gj_dk okX5_shownGood 8 rfl) rfl ?_
  refine gj_iload_n (q := 12) (gj_dk okX5_shownGood 9 rfl) rfl rfl ?_
  refine gj_iadd (q := 13) (gj_dk okX5_shownGood 10 rfl) rfl ?_
  refine gj_callS (q := 16) [jR 20, jI (gj_w ((gj_w ((gj_w ((gj_w (a1 * 5)) + a2)) * 5)) + a3))] rfl (c_X7_at (sh20 hst) (by decide) (by decide) _) (gj_dk okX5_shownGood 11 rfl) ml_X5_83 me_X7_at (gj_nm rfl) rfl (gj_kI fun x2 S2 M2 h1 => ?_)
  obtain ⟨-, eS, eM⟩ := h1; subst eS; subst eM
  exact gj_iret (gj_dk okX5_shownGood 12 rfl) rfl ⟨_, rfl, rfl, rfl⟩

set_option maxHeartbeats 4000000 in
set_option maxRecDepth 20000 in
theorem w_X5_gain (hst : gj_Stat S) (a1 a2 a3 : Int)  : gj_C G l 3 0 0 yX5_gain cX5_gain 5 (some .int) [jR 14, jI a1, jI a2, jI a3] S M (gj_qI fun x S' M' => S = S' ∧ M = M') := by
  refine gj_Cof (by decide +kernel) (Nat.le_of_ble_eq_true rfl) ?_
  change gj_W G l 3 0 0 yX5_gain cX5_gain 5 (some .int) (gj_qI fun x S' M' => S = S' ∧ M = M') 0 0 0 [(0, jR 14), (1, jI a1), (2, jI a2), (3, jI a3)] [] S M
  refine gj_aload_n (q := 1) (gj_dk okX5_gain 0 rfl) rfl rfl ?_
  refine gj_iload_n (q := 2) (gj_dk okX5_gain 1 rfl) rfl rfl ?_
  refine gj_iload_n (q := 3) (gj_dk okX5_gain 2 rfl) rfl rfl ?_
  refine gj_iload_n (q := 4) (gj_dk okX5_gain 3 rfl) rfl rfl ?_
  refine gj_callV (q := 7) (z := 14) (ci := 5) [jI a1, jI a2, jI a3] rfl (w_X5_shownGood hst  _ _ _) (gj_dk okX5_gain 4 rfl) ml_X5_87 me_X5_shownGood (sh14 hst) rfl (gj_nm rfl) rfl (gj_kI fun x2 S2 M2 h1 => ?_)
  obtain ⟨eS, eM⟩ := h1; subst eS; subst eM
  refine gj_istore (q := 9) (gj_dk okX5_gain 5 rfl) (by decide) rfl ?_
  refine gj_iload (q := 11) (gj_dk okX5_gain 6 rfl) rfl rfl ?_
  refine gj_aload_n (q := 12) (gj_dk okX5_gain 7 rfl) rfl rfl ?_
  refine gj_gI (q := 15) (j := 2) (gj_dk okX5_gain 8 rfl) ff_X5_37 (sh14 hst) (by decide) rfl rfl ?_
  refine gj_imul (q := 16) (gj_dk okX5_gain 9 rfl) rfl ?_
  refine gj_sipush (q := 19) (gj_dk okX5_gain 10 rfl) (by decide) rfl rfl ?_
  refine gj_iload (q := 21) (gj_dk okX5_gain 11 rfl) rfl rfl ?_
  refine gj_isub (q := 22) (gj_dk okX5_gain 12 rfl) rfl ?_
  refine gj_aload_n (q := 23) (gj_dk okX5_gain 13 rfl) rfl rfl ?_
  refine gj_gI (q := 26) (j := 3) (gj_dk okX5_gain 14 rfl) ff_X5_40 (sh14 hst) (by decide) rfl rfl ?_
  refine gj_imul (q := 27) (gj_dk okX5_gain 15 rfl) rfl ?_
  refine gj_iadd (q := 28) (gj_dk okX5_gain 16 rfl) rfl ?_
  exact gj_iret (gj_dk okX5_gain 17 rfl) rfl ⟨_, rfl, rfl, rfl⟩

set_option maxHeartbeats 4000000 in
set_option maxRecDepth 20000 in
theorem w_X2_likingOf (hst : gj_Stat S) (a1 a2 a3 : Int)  : gj_C G l 4 0 0 yX2_likingOf cX2_likingOf 8 (some .int) [jR 35, jI a1, jI a2, jI a3] S M (gj_qI fun x S' M' => S = S' ∧ M = M') := by
  refine gj_Cof (by decide +kernel) (Nat.le_of_ble_eq_true rfl) ?_
  change gj_W G l 4 0 0 yX2_likingOf cX2_likingOf 8 (some .int) (gj_qI fun x S' M' => S = S' ∧ M = M') 0 0 0 [(0, jR 35), (1, jI a1), (2, jI a2), (3, jI a3)] [] S M
  refine gj_iload_n (q := 1) (gj_dk okX2_likingOf 0 rfl) rfl rfl ?_
  refine gj_iload_n (q := 2) (gj_dk okX2_likingOf 1 rfl) rfl rfl ?_
  refine gj_callS (q := 5) [jI a1, jI a2] rfl (c_X10_couple _ _) (gj_dk okX2_likingOf 2 rfl) ml_X2_69 me_X10_couple (gj_nm rfl) rfl (gj_kI fun x2 S2 M2 h1 => ?_)
  obtain ⟨-, eS, eM⟩ := h1; subst eS; subst eM
  refine gj_istore (q := 7) (gj_dk okX2_likingOf 3 rfl) (by decide) rfl ?_
  refine gj_iload_n (q := 8) (gj_dk okX2_likingOf 4 rfl) rfl rfl ?_
  have J27 : ∀ (x4 : Int), gj_W G l 4 0 0 yX2_likingOf cX2_likingOf 8 (some .int) (gj_qI fun x S' M' => S = S' ∧ M = M') 0 0 27 [(0, jR 35), (1, jI a1), (2, jI a2), (3, jI a3), (4, jI x2)] [jI x4] S M := by
    intro x4
    refine gj_istore (q := 29) (gj_dk okX2_likingOf 13 rfl) (by decide) rfl ?_
    refine gj_iload_n (q := 30) (gj_dk okX2_likingOf 14 rfl) rfl rfl ?_
    have J49 : ∀ (x5 : Int), gj_W G l 4 0 0 yX2_likingOf cX2_likingOf 8 (some .int) (gj_qI fun x S' M' => S = S' ∧ M = M') 0 0 49 [(0, jR 35), (1, jI a1), (2, jI a2), (4, jI x2), (5, jI x4)] [jI x5] S M := by
      intro x5
      refine gj_istore (q := 51) (gj_dk okX2_likingOf 23 rfl) (by decide) rfl ?_
      refine gj_aload_n (q := 52) (gj_dk okX2_likingOf 24 rfl) rfl rfl ?_
      refine gj_gR (q := 55) (j := 0) (gj_dk okX2_likingOf 25 rfl) ff_X2_28 (sh35 hst) (by decide) rfl (rf35_0 hst) rfl ?_
      refine gj_iload_n (q := 56) (gj_dk okX2_likingOf 26 rfl) rfl rfl ?_
      refine gj_iload_n (q := 57) (gj_dk okX2_likingOf 27 rfl) rfl rfl ?_
      refine gj_callS (q := 60) [jI a1, jI a2] rfl (c_X10_view _ _) (gj_dk okX2_likingOf 28 rfl) ml_X2_55 me_X10_view (gj_nm rfl) rfl (gj_kI fun x7 S2 M2 h6 => ?_)
      obtain ⟨-, eS, eM⟩ := h6; subst eS; subst eM
      refine gj_iload (q := 62) (gj_dk okX2_likingOf 29 rfl) rfl rfl ?_
      refine gj_iload (q := 64) (gj_dk okX2_likingOf 30 rfl) rfl rfl ?_
      refine gj_callV (q := 67) (z := 14) (ci := 5) [jI x7, jI x4, jI x5] rfl (w_X5_gain hst  _ _ _) (gj_dk okX2_likingOf 31 rfl) ml_X2_117 me_X5_gain (sh14 hst) rfl (gj_nm rfl) rfl (gj_kI fun x10 S2 M2 h9 => ?_)
      obtain ⟨eS, eM⟩ := h9; subst eS; subst eM
      refine gj_istore (q := 69) (gj_dk okX2_likingOf 32 rfl) (by decide) rfl ?_
      refine gj_iload (q := 71) (gj_dk okX2_likingOf 33 rfl) rfl rfl ?_
      refine gj_sipush (q := 74) (gj_dk okX2_likingOf 34 rfl) (by decide) rfl rfl ?_
      refine gj_aload_n (q := 75) (gj_dk okX2_likingOf 35 rfl) rfl rfl ?_
      refine gj_gR (q := 78) (j := 0) (gj_dk okX2_likingOf 36 rfl) ff_X2_28 (sh35 hst) (by decide) rfl (rf35_0 hst) rfl ?_
      refine gj_gI (q := 81) (j := 7) (gj_dk okX2_likingOf 37 rfl) ff_X2_121 (sh14 hst) (by decide) rfl rfl ?_
      refine gj_imul (q := 82) (gj_dk okX2_likingOf 38 rfl) rfl ?_
      refine gj_aload_n (q := 83) (gj_dk okX2_likingOf 39 rfl) rfl rfl ?_
      refine gj_gR (q := 86) (j := 1) (gj_dk okX2_likingOf 40 rfl) ff_X2_32 (sh35 hst) (by decide) rfl (rf35_1 hst) rfl ?_
      refine gj_gR (q := 89) (j := 9) (gj_dk okX2_likingOf 41 rfl) ff_X2_125 (sh21 hst) (by decide) rfl (rf21_9 hst) rfl ?_
      refine gj_iload (q := 91) (gj_dk okX2_likingOf 42 rfl) rfl rfl ?_
      refine gj_callS (q := 94) [jR 28, jI x2] rfl (c_X7_at (sh28 hst) (by decide) (by decide) _) (gj_dk okX2_likingOf 43 rfl) ml_X2_39 me_X7_at (gj_nm rfl) rfl (gj_kI fun x14 S2 M2 h13 => ?_)
      obtain ⟨-, eS, eM⟩ := h13; subst eS; subst eM
      refine gj_imul (q := 95) (gj_dk okX2_likingOf 44 rfl) rfl ?_
      refine gj_iadd (q := 96) (gj_dk okX2_likingOf 45 rfl) rfl ?_
      exact gj_iret (gj_dk okX2_likingOf 46 rfl) rfl ⟨_, rfl, rfl, rfl⟩
    refine gj_if_eq (q := 33) (tgt := 48) (gj_dk okX2_likingOf 15 rfl) (by decide) rfl (fun c30 => ?_) (fun c30 => ?_)
    · -- 48
      refine gj_iconst (q := 49) (gj_dk okX2_likingOf 22 rfl) (by decide) rfl ?_
      refine gj_sub [(0, jR 35), (1, jI a1), (2, jI a2), (4, jI x2), (5, jI x4)] ⟨rfl, rfl, rfl, rfl, rfl, trivial⟩ ?_
      exact J49 _
    · -- 33
      refine gj_aload_n (q := 34) (gj_dk okX2_likingOf 16 rfl) rfl rfl ?_
      refine gj_gR (q := 37) (j := 1) (gj_dk okX2_likingOf 17 rfl) ff_X2_32 (sh35 hst) (by decide) rfl (rf35_1 hst) rfl ?_
      refine gj_gR (q := 40) (j := 8) (gj_dk okX2_likingOf 18 rfl) ff_X2_114 (sh21 hst) (by decide) rfl (rf21_8 hst) rfl ?_
      refine gj_iload (q := 42) (gj_dk okX2_likingOf 19 rfl) rfl rfl ?_
      refine gj_callS (q := 45) [jR 27, jI x2] rfl (c_X7_at (sh27 hst) (by decide) (by decide) _) (gj_dk okX2_likingOf 20 rfl) ml_X2_39 me_X7_at (gj_nm rfl) rfl (gj_kI fun x17 S2 M2 h16 => ?_)
      obtain ⟨-, eS, eM⟩ := h16; subst eS; subst eM
      refine gj_goto (tgt := 49) (gj_dk okX2_likingOf 21 rfl) (by decide) ?_
      refine gj_sub [(0, jR 35), (1, jI a1), (2, jI a2), (4, jI x2), (5, jI x4)] ⟨rfl, rfl, rfl, rfl, rfl, trivial⟩ ?_
      exact J49 _
  refine gj_if_eq (q := 11) (tgt := 26) (gj_dk okX2_likingOf 5 rfl) (by decide) rfl (fun c8 => ?_) (fun c8 => ?_)
  · -- 26
    refine gj_iconst (q := 27) (gj_dk okX2_likingOf 12 rfl) (by decide) rfl ?_
    refine gj_sub [(0, jR 35), (1, jI a1), (2, jI a2), (3, jI a3), (4, jI x2)] ⟨rfl, rfl, rfl, rfl, rfl, trivial⟩ ?_
    exact J27 _
  · -- 11
    refine gj_aload_n (q := 12) (gj_dk okX2_likingOf 6 rfl) rfl rfl ?_
    refine gj_gR (q := 15) (j := 1) (gj_dk okX2_likingOf 7 rfl) ff_X2_32 (sh35 hst) (by decide) rfl (rf35_1 hst) rfl ?_
    refine gj_gR (q := 18) (j := 7) (gj_dk okX2_likingOf 8 rfl) ff_X2_111 (sh21 hst) (by decide) rfl (rf21_7 hst) rfl ?_
    refine gj_iload (q := 20) (gj_dk okX2_likingOf 9 rfl) rfl rfl ?_
    refine gj_callS (q := 23) [jR 26, jI x2] rfl (c_X7_at (sh26 hst) (by decide) (by decide) _) (gj_dk okX2_likingOf 10 rfl) ml_X2_39 me_X7_at (gj_nm rfl) rfl (gj_kI fun x20 S2 M2 h19 => ?_)
    obtain ⟨-, eS, eM⟩ := h19; subst eS; subst eM
    refine gj_goto (tgt := 27) (gj_dk okX2_likingOf 11 rfl) (by decide) ?_
    refine gj_sub [(0, jR 35), (1, jI a1), (2, jI a2), (3, jI a3), (4, jI x2)] ⟨rfl, rfl, rfl, rfl, rfl, trivial⟩ ?_
    exact J27 _

set_option maxHeartbeats 4000000 in
set_option maxRecDepth 20000 in
theorem w_X2_likes (hst : gj_Stat S) (a1 a2 : Int)  : gj_C G l 2 0 0 yX2_likes cX2_likes 3 (some .int) [jR 35, jI a1, jI a2] S M (gj_qI fun x S' M' => S = S' ∧ M = M') := by
  refine gj_Cof (by decide +kernel) (Nat.le_of_ble_eq_true rfl) ?_
  change gj_W G l 2 0 0 yX2_likes cX2_likes 3 (some .int) (gj_qI fun x S' M' => S = S' ∧ M = M') 0 0 0 [(0, jR 35), (1, jI a1), (2, jI a2)] [] S M
  refine gj_aload_n (q := 1) (gj_dk okX2_likes 0 rfl) rfl rfl ?_
  refine gj_gR (q := 4) (j := 2) (gj_dk okX2_likes 1 rfl) ff_X2_9 (sh35 hst) (by decide) rfl (rf35_2 hst) rfl ?_
  refine gj_iload_n (q := 5) (gj_dk okX2_likes 2 rfl) rfl rfl ?_
  refine gj_iload_n (q := 6) (gj_dk okX2_likes 3 rfl) rfl rfl ?_
  refine gj_callS (q := 9) [jI a1, jI a2] rfl (c_X10_view _ _) (gj_dk okX2_likes 4 rfl) ml_X2_55 me_X10_view (gj_nm rfl) rfl (gj_kI fun x2 S2 M2 h1 => ?_)
  obtain ⟨-, eS, eM⟩ := h1; subst eS; subst eM
  refine gj_callS (q := 12) [jR 36, jI x2] rfl (c_X7_at (sh36 hst) (by decide) (by decide) _) (gj_dk okX2_likes 5 rfl) ml_X2_39 me_X7_at (gj_nm rfl) rfl (gj_kI fun x5 S2 M2 h4 => ?_)
  obtain ⟨-, eS, eM⟩ := h4; subst eS; subst eM
  exact gj_iret (gj_dk okX2_likes 6 rfl) rfl ⟨_, rfl, rfl, rfl⟩

set_option maxHeartbeats 4000000 in
set_option maxRecDepth 20000 in
theorem w_X2_would (hst : gj_Stat S) (a1 a2 : Int)  : gj_C G l 3 0 0 yX2_would cX2_would 3 (some .boolean) [jR 35, jI a1, jI a2] S M (gj_qI fun x S' M' => (x = 0 ∨ x = 1) ∧ S = S' ∧ M = M') := by
  refine gj_Cof (by decide +kernel) (Nat.le_of_ble_eq_true rfl) ?_
  change gj_W G l 3 0 0 yX2_would cX2_would 3 (some .boolean) (gj_qI fun x S' M' => (x = 0 ∨ x = 1) ∧ S = S' ∧ M = M') 0 0 0 [(0, jR 35), (1, jI a1), (2, jI a2)] [] S M
  refine gj_aload_n (q := 1) (gj_dk okX2_would 0 rfl) rfl rfl ?_
  refine gj_iload_n (q := 2) (gj_dk okX2_would 1 rfl) rfl rfl ?_
  refine gj_iload_n (q := 3) (gj_dk okX2_would 2 rfl) rfl rfl ?_
  refine gj_callV (q := 6) (z := 35) (ci := 2) [jI a1, jI a2] rfl (w_X2_likes hst  _ _) (gj_dk okX2_would 3 rfl) ml_X2_94 me_X2_likes (sh35 hst) rfl (gj_nm rfl) rfl (gj_kI fun x2 S2 M2 h1 => ?_)
  obtain ⟨eS, eM⟩ := h1; subst eS; subst eM
  refine gj_sipush (q := 9) (gj_dk okX2_would 4 rfl) (by decide) rfl rfl ?_
  refine gj_aload_n (q := 10) (gj_dk okX2_would 5 rfl) rfl rfl ?_
  refine gj_gR (q := 13) (j := 0) (gj_dk okX2_would 6 rfl) ff_X2_28 (sh35 hst) (by decide) rfl (rf35_0 hst) rfl ?_
  refine gj_gR (q := 16) (j := 10) (gj_dk okX2_would 7 rfl) ff_X2_128 (sh14 hst) (by decide) rfl (rf14_10 hst) rfl ?_
  refine gj_iload_n (q := 17) (gj_dk okX2_would 8 rfl) rfl rfl ?_
  refine gj_callS (q := 20) [jR 15, jI a1] rfl (c_X7_at (sh15 hst) (by decide) (by decide) _) (gj_dk okX2_would 9 rfl) ml_X2_39 me_X7_at (gj_nm rfl) rfl (gj_kI fun x6 S2 M2 h5 => ?_)
  obtain ⟨-, eS, eM⟩ := h5; subst eS; subst eM
  refine gj_imul (q := 21) (gj_dk okX2_would 10 rfl) rfl ?_
  refine gj_icmp_le (q := 24) (tgt := 28) (gj_dk okX2_would 11 rfl) (by decide) rfl (fun c21 => ?_) (fun c21 => ?_)
  · -- 28
    refine gj_iconst (q := 29) (gj_dk okX2_would 14 rfl) (by decide) rfl ?_
    exact gj_zret (gj_dk okX2_would 15 rfl) rfl (by first | decide | assumption | omega) ⟨_, rfl, (by first | decide | assumption | omega), rfl, rfl⟩
  · -- 24
    refine gj_iconst (q := 25) (gj_dk okX2_would 12 rfl) (by decide) rfl ?_
    refine gj_goto (tgt := 29) (gj_dk okX2_would 13 rfl) (by decide) ?_
    exact gj_zret (gj_dk okX2_would 15 rfl) rfl (by first | decide | assumption | omega) ⟨_, rfl, (by first | decide | assumption | omega), rfl, rfl⟩

set_option maxHeartbeats 4000000 in
set_option maxRecDepth 20000 in
theorem w_X2_look (hst : gj_Stat S) (h : p_W [36, 37] [] M0 M) (a1 : Int)  : gj_C G l 5 0 0 yX2_look cX2_look 4 none [jR 35, jI a1] S M (gj_qV fun S' M' => S = S' ∧ p_W [36, 37] [] M0 M') := by
  refine gj_Cof (by decide +kernel) (Nat.le_of_ble_eq_true rfl) ?_
  change gj_W G l 5 0 0 yX2_look cX2_look 4 none (gj_qV fun S' M' => S = S' ∧ p_W [36, 37] [] M0 M') 0 0 0 [(0, jR 35), (1, jI a1)] [] S M
  refine gj_iconst (q := 1) (gj_dk okX2_look 0 rfl) (by decide) rfl ?_
  refine gj_istore_n (q := 2) (gj_dk okX2_look 1 rfl) (by decide) rfl ?_
  have L2 : ∀ (k2 : Nat) (x1 : Int) (M3 : gj_M), (p_W [36, 37] [] M0 M3) → (2147483647 - x1).toNat < k2 → gj_W G l 5 0 0 yX2_look cX2_look 4 none (gj_qV fun S' M' => S = S' ∧ p_W [36, 37] [] M0 M') 0 0 2 [(0, jR 35), (1, jI a1), (2, jI x1)] [] S M3 := by
    intro k2
    induction k2 with
    | zero => intro x1 M3 w4 hk2; exact absurd hk2 (Nat.not_lt_zero _)
    | succ k2 ih2 =>
      intro x1 M3 w4 hk2
      refine gj_iload_n (q := 3) (gj_dk okX2_look 2 rfl) rfl rfl ?_
      refine gj_iconst (q := 4) (gj_dk okX2_look 3 rfl) (by decide) rfl ?_
      refine gj_rng (fun ho4 _ _ => ?_)
      have ha4 : -2147483648 ≤ x1 ∧ x1 < 2147483648 := gj_o1 ho4
      clear ho4
      refine gj_icmp_ge (q := 7) (tgt := 100) (gj_dk okX2_look 4 rfl) (by decide) rfl (fun c4 => ?_) (fun c4 => ?_)
      · -- 100
        exact gj_vret (gj_dk okX2_look 55 rfl) rfl ⟨rfl, rfl, w4⟩
      · -- 7
        refine gj_iconst (q := 8) (gj_dk okX2_look 5 rfl) (by decide) rfl ?_
        refine gj_istore_n (q := 9) (gj_dk okX2_look 6 rfl) (by decide) rfl ?_
        have L9 : ∀ (k6 : Nat) (x5 : Int) (M7 : gj_M), (p_W [36, 37] [] M0 M7) → (2147483647 - x5).toNat < k6 → gj_W G l 5 0 0 yX2_look cX2_look 4 none (gj_qV fun S' M' => S = S' ∧ p_W [36, 37] [] M0 M') 0 0 9 [(0, jR 35), (1, jI a1), (2, jI x1), (3, jI x5)] [] S M7 := by
          intro k6
          induction k6 with
          | zero => intro x5 M7 w8 hk9; exact absurd hk9 (Nat.not_lt_zero _)
          | succ k6 ih9 =>
            intro x5 M7 w8 hk9
            refine gj_iload_n (q := 10) (gj_dk okX2_look 7 rfl) rfl rfl ?_
            refine gj_bipush (q := 12) (gj_dk okX2_look 8 rfl) (by decide) rfl rfl ?_
            refine gj_rng (fun ho12 _ _ => ?_)
            have ha12 : -2147483648 ≤ x5 ∧ x5 < 2147483648 := gj_o1 ho12
            clear ho12
            refine gj_icmp_ge (q := 15) (tgt := 94) (gj_dk okX2_look 9 rfl) (by decide) rfl (fun c12 => ?_) (fun c12 => ?_)
            · -- 94
              refine gj_iinc (q := 97) (v := x1 + 1) (gj_dk okX2_look 53 rfl) rfl (by decide) (gj_wle (by omega) (by omega)) rfl ?_
              refine gj_goto (tgt := 2) (gj_dk okX2_look 54 rfl) (by decide) ?_
              refine gj_sub [(0, jR 35), (1, jI a1), (2, jI (x1 + 1))] ⟨rfl, rfl, rfl, trivial⟩ ?_
              exact ih2 _ _ w8 (by omega)
            · -- 15
              refine gj_aload_n (q := 16) (gj_dk okX2_look 10 rfl) rfl rfl ?_
              refine gj_gR (q := 19) (j := 2) (gj_dk okX2_look 11 rfl) ff_X2_9 (sh35 hst) (by decide) rfl (rf35_2 hst) rfl ?_
              refine gj_iload_n (q := 20) (gj_dk okX2_look 12 rfl) rfl rfl ?_
              refine gj_iload_n (q := 21) (gj_dk okX2_look 13 rfl) rfl rfl ?_
              refine gj_callS (q := 24) [jI x1, jI x5] rfl (c_X10_view _ _) (gj_dk okX2_look 14 rfl) ml_X2_55 me_X10_view (gj_nm rfl) rfl (gj_kI fun x10 S2 M2 h9 => ?_)
              obtain ⟨-, eS, eM⟩ := h9; subst eS; subst eM
              refine gj_aload_n (q := 25) (gj_dk okX2_look 15 rfl) rfl rfl ?_
              refine gj_iload_n (q := 26) (gj_dk okX2_look 16 rfl) rfl rfl ?_
              refine gj_iload_n (q := 27) (gj_dk okX2_look 17 rfl) rfl rfl ?_
              refine gj_iload_n (q := 28) (gj_dk okX2_look 18 rfl) rfl rfl ?_
              refine gj_callV (q := 31) (z := 35) (ci := 2) [jI x1, jI x5, jI a1] rfl (w_X2_likingOf hst  _ _ _) (gj_dk okX2_look 19 rfl) ml_X2_61 me_X2_likingOf (sh35 hst) rfl (gj_nm rfl) rfl (gj_kI fun x13 S2 M2 h12 => ?_)
              obtain ⟨eS, eM⟩ := h12; subst eS; subst eM
              refine gj_callS (q := 34) [jR 36, jI x10, jI x13] rfl (c_X7_put (sh36 hst) (by decide) (by decide) _ _) (gj_dk okX2_look 20 rfl) ml_X2_65 me_X7_put (gj_nm rfl) rfl (gj_kV fun S2 M2 h16 => ?_)
              obtain ⟨eS, eM⟩ := h16; subst eS
              have w19 : p_W [36, 37] [] M0 M2 := by rw [← eM]; exact p_W.put w8 rfl
              clear eM
              revert w19; generalize M2 = M20; intro w19
              refine gj_aload_n (q := 35) (gj_dk okX2_look 21 rfl) rfl rfl ?_
              refine gj_gR (q := 38) (j := 2) (gj_dk okX2_look 22 rfl) ff_X2_9 (sh35 hst) (by decide) rfl (rf35_2 hst) rfl ?_
              refine gj_iload_n (q := 39) (gj_dk okX2_look 23 rfl) rfl rfl ?_
              refine gj_iload_n (q := 40) (gj_dk okX2_look 24 rfl) rfl rfl ?_
              refine gj_callS (q := 43) [jI x5, jI x1] rfl (c_X10_view _ _) (gj_dk okX2_look 25 rfl) ml_X2_55 me_X10_view (gj_nm rfl) rfl (gj_kI fun x22 S2 M2 h21 => ?_)
              obtain ⟨-, eS, eM⟩ := h21; subst eS; subst eM
              refine gj_aload_n (q := 44) (gj_dk okX2_look 26 rfl) rfl rfl ?_
              refine gj_iload_n (q := 45) (gj_dk okX2_look 27 rfl) rfl rfl ?_
              refine gj_iload_n (q := 46) (gj_dk okX2_look 28 rfl) rfl rfl ?_
              refine gj_iload_n (q := 47) (gj_dk okX2_look 29 rfl) rfl rfl ?_
              refine gj_callV (q := 50) (z := 35) (ci := 2) [jI x5, jI x1, jI a1] rfl (w_X2_likingOf hst  _ _ _) (gj_dk okX2_look 30 rfl) ml_X2_61 me_X2_likingOf (sh35 hst) rfl (gj_nm rfl) rfl (gj_kI fun x25 S2 M2 h24 => ?_)
              obtain ⟨eS, eM⟩ := h24; subst eS; subst eM
              refine gj_callS (q := 53) [jR 36, jI x22, jI x25] rfl (c_X7_put (sh36 hst) (by decide) (by decide) _ _) (gj_dk okX2_look 31 rfl) ml_X2_65 me_X7_put (gj_nm rfl) rfl (gj_kV fun S2 M2 h28 => ?_)
              obtain ⟨eS, eM⟩ := h28; subst eS
              have w31 : p_W [36, 37] [] M0 M2 := by rw [← eM]; exact p_W.put w19 rfl
              clear eM
              revert w31; generalize M2 = M32; intro w31
              refine gj_aload_n (q := 54) (gj_dk okX2_look 32 rfl) rfl rfl ?_
              refine gj_gR (q := 57) (j := 3) (gj_dk okX2_look 33 rfl) ff_X2_15 (sh35 hst) (by decide) rfl (rf35_3 hst) rfl ?_
              refine gj_iload_n (q := 58) (gj_dk okX2_look 34 rfl) rfl rfl ?_
              refine gj_iload_n (q := 59) (gj_dk okX2_look 35 rfl) rfl rfl ?_
              refine gj_callS (q := 62) [jI x1, jI x5] rfl (c_X10_couple _ _) (gj_dk okX2_look 36 rfl) ml_X2_69 me_X10_couple (gj_nm rfl) rfl (gj_kI fun x34 S2 M2 h33 => ?_)
              obtain ⟨-, eS, eM⟩ := h33; subst eS; subst eM
              refine gj_aload_n (q := 63) (gj_dk okX2_look 37 rfl) rfl rfl ?_
              refine gj_iload_n (q := 64) (gj_dk okX2_look 38 rfl) rfl rfl ?_
              refine gj_iload_n (q := 65) (gj_dk okX2_look 39 rfl) rfl rfl ?_
              refine gj_callV (q := 68) (z := 35) (ci := 2) [jI x1, jI x5] rfl (w_X2_would hst  _ _) (gj_dk okX2_look 40 rfl) ml_X2_72 me_X2_would (sh35 hst) rfl (gj_nm rfl) rfl (gj_kI fun x37 S2 M2 h36 => ?_)
              obtain ⟨bx37, eS, eM⟩ := h36; subst eS; subst eM
              refine gj_if_eq (q := 71) (tgt := 84) (gj_dk okX2_look 41 rfl) (by decide) rfl (fun c68 => ?_) (fun c68 => ?_)
              · -- 84
                refine gj_iconst (q := 85) (gj_dk okX2_look 49 rfl) (by decide) rfl ?_
                refine gj_callS (q := 88) [jR 37, jI x34, jI 0] rfl (c_X7_mark (sh37 hst) (by decide) (by decide) _ _ (by first | decide | assumption | omega)) (gj_dk okX2_look 50 rfl) ml_X2_51 me_X7_mark (gj_nm rfl) rfl (gj_kV fun S2 M2 h40 => ?_)
                obtain ⟨eS, eM⟩ := h40; subst eS
                have w43 : p_W [36, 37] [] M0 M2 := by rw [← eM]; exact p_W.put w31 rfl
                clear eM
                revert w43; generalize M2 = M44; intro w43
                refine gj_iinc (q := 91) (v := x5 + 1) (gj_dk okX2_look 51 rfl) rfl (by decide) (gj_wle (by omega) (by omega)) rfl ?_
                refine gj_goto (tgt := 9) (gj_dk okX2_look 52 rfl) (by decide) ?_
                refine gj_sub [(0, jR 35), (1, jI a1), (2, jI x1), (3, jI (x5 + 1))] ⟨rfl, rfl, rfl, rfl, trivial⟩ ?_
                exact ih9 _ _ w43 (by omega)
              · -- 71
                refine gj_aload_n (q := 72) (gj_dk okX2_look 42 rfl) rfl rfl ?_
                refine gj_iload_n (q := 73) (gj_dk okX2_look 43 rfl) rfl rfl ?_
                refine gj_iload_n (q := 74) (gj_dk okX2_look 44 rfl) rfl rfl ?_
                refine gj_callV (q := 77) (z := 35) (ci := 2) [jI x5, jI x1] rfl (w_X2_would hst  _ _) (gj_dk okX2_look 45 rfl) ml_X2_72 me_X2_would (sh35 hst) rfl (gj_nm rfl) rfl (gj_kI fun x46 S2 M2 h45 => ?_)
                obtain ⟨bx46, eS, eM⟩ := h45; subst eS; subst eM
                refine gj_if_eq (q := 80) (tgt := 84) (gj_dk okX2_look 46 rfl) (by decide) rfl (fun c77 => ?_) (fun c77 => ?_)
                · -- 84
                  refine gj_iconst (q := 85) (gj_dk okX2_look 49 rfl) (by decide) rfl ?_
                  refine gj_callS (q := 88) [jR 37, jI x34, jI 0] rfl (c_X7_mark (sh37 hst) (by decide) (by decide) _ _ (by first | decide | assumption | omega)) (gj_dk okX2_look 50 rfl) ml_X2_51 me_X7_mark (gj_nm rfl) rfl (gj_kV fun S2 M2 h49 => ?_)
                  obtain ⟨eS, eM⟩ := h49; subst eS
                  have w52 : p_W [36, 37] [] M0 M2 := by rw [← eM]; exact p_W.put w31 rfl
                  clear eM
                  revert w52; generalize M2 = M53; intro w52
                  refine gj_iinc (q := 91) (v := x5 + 1) (gj_dk okX2_look 51 rfl) rfl (by decide) (gj_wle (by omega) (by omega)) rfl ?_
                  refine gj_goto (tgt := 9) (gj_dk okX2_look 52 rfl) (by decide) ?_
                  refine gj_sub [(0, jR 35), (1, jI a1), (2, jI x1), (3, jI (x5 + 1))] ⟨rfl, rfl, rfl, rfl, trivial⟩ ?_
                  exact ih9 _ _ w52 (by omega)
                · -- 80
                  refine gj_iconst (q := 81) (gj_dk okX2_look 47 rfl) (by decide) rfl ?_
                  refine gj_goto (tgt := 85) (gj_dk okX2_look 48 rfl) (by decide) ?_
                  refine gj_callS (q := 88) [jR 37, jI x34, jI 1] rfl (c_X7_mark (sh37 hst) (by decide) (by decide) _ _ (by first | decide | assumption | omega)) (gj_dk okX2_look 50 rfl) ml_X2_51 me_X7_mark (gj_nm rfl) rfl (gj_kV fun S2 M2 h54 => ?_)
                  obtain ⟨eS, eM⟩ := h54; subst eS
                  have w57 : p_W [36, 37] [] M0 M2 := by rw [← eM]; exact p_W.put w31 rfl
                  clear eM
                  revert w57; generalize M2 = M58; intro w57
                  refine gj_iinc (q := 91) (v := x5 + 1) (gj_dk okX2_look 51 rfl) rfl (by decide) (gj_wle (by omega) (by omega)) rfl ?_
                  refine gj_goto (tgt := 9) (gj_dk okX2_look 52 rfl) (by decide) ?_
                  refine gj_sub [(0, jR 35), (1, jI a1), (2, jI x1), (3, jI (x5 + 1))] ⟨rfl, rfl, rfl, rfl, trivial⟩ ?_
                  exact ih9 _ _ w57 (by omega)
        refine gj_sub [(0, jR 35), (1, jI a1), (2, jI x1), (3, jI 4)] ⟨rfl, rfl, rfl, rfl, trivial⟩ ?_
        exact L9 _ _ _ w4 (Nat.lt_succ_self _)
  refine gj_sub [(0, jR 35), (1, jI a1), (2, jI 0)] ⟨rfl, rfl, rfl, trivial⟩ ?_
  exact L2 _ _ _ h (Nat.lt_succ_self _)

theorem q_X2_look (hst : gj_Stat S) (h : p_F 0 [1, 2, 3, 4, 5, 6, 7, 8, 10, 12, 13, 36, 37, 78] [] M) (a1 : Int) : gj_C G l 5 0 0 yX2_look cX2_look 4 none [jR 35, jI a1] S M (gj_qV fun S' M' => S = S' ∧ p_W [36, 37] [] M M') := w_X2_look hst (fun _ _ _ _ _ => rfl) a1
end GJWL
section GJY
variable {G : gj_G} {l : Launch} {S : gj_S} {M0 M : gj_M}
set_option maxHeartbeats 4000000 in
set_option maxRecDepth 20000 in
theorem q_X5_slotOf (hst : gj_Stat S) (h : p_F 0 [1, 2, 3, 4, 5, 6, 7, 8, 10, 12, 13, 36, 37, 78] [] M)  (a1 : Int)  : gj_C G l 1 0 0 yX5_slotOf cX5_slotOf 2 (some .int) [jR 14, jI a1] S M (gj_qI fun x S' M' => -1 = x ∧ S = S' ∧ M = M') := by
  refine gj_Cof (by decide +kernel) (Nat.le_of_ble_eq_true rfl) ?_
  change gj_W G l 1 0 0 yX5_slotOf cX5_slotOf 2 (some .int) (gj_qI fun x S' M' => -1 = x ∧ S = S' ∧ M = M') 0 0 0 [(0, jR 14), (1, jI a1)] [] S M
  refine gj_iload_n (q := 1) (gj_dk okX5_slotOf 0 rfl) rfl rfl ?_
  refine gj_if_lt (q := 4) (tgt := 14) (gj_dk okX5_slotOf 1 rfl) (by decide) rfl (fun c1 => ?_) (fun c1 => ?_)
  · -- 14
    refine gj_iload_n (q := 15) (gj_dk okX5_slotOf 8 rfl) rfl rfl ?_
    refine gj_bipush (q := 17) (gj_dk okX5_slotOf 9 rfl) (by decide) rfl rfl ?_
    refine gj_icmp_lt (q := 20) (tgt := 38) (gj_dk okX5_slotOf 10 rfl) (by decide) rfl (fun c17 => ?_) (fun c17 => ?_)
    · -- 38
      refine gj_iconst (q := 39) (gj_dk okX5_slotOf 23 rfl) (by decide) rfl ?_
      exact gj_iret (gj_dk okX5_slotOf 24 rfl) rfl ⟨_, rfl, rfl, rfl, rfl⟩
    · exfalso; omega
  · -- 4
    refine gj_iload_n (q := 5) (gj_dk okX5_slotOf 2 rfl) rfl rfl ?_
    refine gj_aload_n (q := 6) (gj_dk okX5_slotOf 3 rfl) rfl rfl ?_
    refine gj_gI (q := 9) (j := 0) (gj_dk okX5_slotOf 4 rfl) ff_X5_30 (sh14 hst) (by decide) rfl rfl ?_
    rw [show M 14 0 = 0 from (h.get 14 0 rfl rfl rfl (v := 0) (by decide))]
    refine gj_icmp_ge (q := 12) (tgt := 14) (gj_dk okX5_slotOf 5 rfl) (by decide) rfl (fun c9 => ?_) (fun c9 => ?_)
    · -- 14
      refine gj_iload_n (q := 15) (gj_dk okX5_slotOf 8 rfl) rfl rfl ?_
      refine gj_bipush (q := 17) (gj_dk okX5_slotOf 9 rfl) (by decide) rfl rfl ?_
      refine gj_icmp_lt (q := 20) (tgt := 38) (gj_dk okX5_slotOf 10 rfl) (by decide) rfl (fun c17 => ?_) (fun c17 => ?_)
      · -- 38
        refine gj_iconst (q := 39) (gj_dk okX5_slotOf 23 rfl) (by decide) rfl ?_
        exact gj_iret (gj_dk okX5_slotOf 24 rfl) rfl ⟨_, rfl, rfl, rfl, rfl⟩
      · -- 20
        refine gj_iload_n (q := 21) (gj_dk okX5_slotOf 11 rfl) rfl rfl ?_
        refine gj_bipush (q := 23) (gj_dk okX5_slotOf 12 rfl) (by decide) rfl rfl ?_
        refine gj_aload_n (q := 24) (gj_dk okX5_slotOf 13 rfl) rfl rfl ?_
        refine gj_gI (q := 27) (j := 1) (gj_dk okX5_slotOf 14 rfl) ff_X5_34 (sh14 hst) (by decide) rfl rfl ?_
        rw [show M 14 1 = 0 from (h.get 14 1 rfl rfl rfl (v := 0) (by decide))]
        refine gj_iaddX (q := 28) (gj_dk okX5_slotOf 15 rfl) (by decide) rfl ?_
        rw [show (10 + 0 : Int) = 10 from rfl]
        refine gj_icmp_ge (q := 31) (tgt := 38) (gj_dk okX5_slotOf 16 rfl) (by decide) rfl (fun c28 => ?_) (fun c28 => ?_)
        · -- 38
          refine gj_iconst (q := 39) (gj_dk okX5_slotOf 23 rfl) (by decide) rfl ?_
          exact gj_iret (gj_dk okX5_slotOf 24 rfl) rfl ⟨_, rfl, rfl, rfl, rfl⟩
        · exfalso; omega
    · exfalso; omega
set_option maxHeartbeats 4000000 in
set_option maxRecDepth 20000 in
theorem q_X5_stands (hst : gj_Stat S) (h : p_F 0 [1, 2, 3, 4, 5, 6, 7, 8, 10, 12, 13, 36, 37, 78] [] M)   : gj_C G l 1 0 0 yX5_stands cX5_stands 1 (some .boolean) [jR 14] S M (gj_qI fun x S' M' => 0 = x ∧ S = S' ∧ M = M') := by
  refine gj_Cof (by decide +kernel) (Nat.le_of_ble_eq_true rfl) ?_
  change gj_W G l 1 0 0 yX5_stands cX5_stands 1 (some .boolean) (gj_qI fun x S' M' => 0 = x ∧ S = S' ∧ M = M') 0 0 0 [(0, jR 14)] [] S M
  refine gj_aload_n (q := 1) (gj_dk okX5_stands 0 rfl) rfl rfl ?_
  refine gj_gI (q := 4) (j := 0) (gj_dk okX5_stands 1 rfl) ff_X5_30 (sh14 hst) (by decide) rfl rfl ?_
  rw [show M 14 0 = 0 from (h.get 14 0 rfl rfl rfl (v := 0) (by decide))]
  refine gj_if_le (q := 7) (tgt := 18) (gj_dk okX5_stands 2 rfl) (by decide) rfl (fun _ => ?_) (fun cc => absurd cc (by decide))
  refine gj_iconst (q := 19) (gj_dk okX5_stands 8 rfl) (by decide) rfl ?_
  exact gj_zret (gj_dk okX5_stands 9 rfl) rfl (by first | decide | assumption | omega) ⟨_, rfl, rfl, rfl, rfl⟩
set_option maxHeartbeats 4000000 in
set_option maxRecDepth 20000 in
theorem q_X5_stands_3 (hst : gj_Stat S) (h : p_F 0 [1, 2, 3, 4, 5, 6, 7, 8, 10, 12, 13, 36, 37, 78] [] M)  (n0 : M 3 0 = 0) (n1 : M 3 1 = 0)  : gj_C G l 1 0 0 yX5_stands cX5_stands 1 (some .boolean) [jR 3] S M (gj_qI fun x S' M' => 0 = x ∧ S = S' ∧ M = M') := by
  refine gj_Cof (by decide +kernel) (Nat.le_of_ble_eq_true rfl) ?_
  change gj_W G l 1 0 0 yX5_stands cX5_stands 1 (some .boolean) (gj_qI fun x S' M' => 0 = x ∧ S = S' ∧ M = M') 0 0 0 [(0, jR 3)] [] S M
  refine gj_aload_n (q := 1) (gj_dk okX5_stands 0 rfl) rfl rfl ?_
  refine gj_gI (q := 4) (j := 0) (gj_dk okX5_stands 1 rfl) ff_X5_30 (sh3 hst) (by decide) rfl rfl ?_
  rw [show M 3 0 = 0 from n0]
  refine gj_if_le (q := 7) (tgt := 18) (gj_dk okX5_stands 2 rfl) (by decide) rfl (fun _ => ?_) (fun cc => absurd cc (by decide))
  refine gj_iconst (q := 19) (gj_dk okX5_stands 8 rfl) (by decide) rfl ?_
  exact gj_zret (gj_dk okX5_stands 9 rfl) rfl (by first | decide | assumption | omega) ⟨_, rfl, rfl, rfl, rfl⟩
set_option maxHeartbeats 4000000 in
set_option maxRecDepth 20000 in
theorem q_X9_length (hst : gj_Stat S) (h : p_F 0 [1, 2, 3, 4, 5, 6, 7, 8, 10, 12, 13, 36, 37, 78] [] M) {t : Int} (n0 : M 1 1 = t)  : gj_C G l 1 0 0 yX9_length cX9_length 1 (some .int) [jR 1] S M (gj_qI fun x S' M' => t = x ∧ S = S' ∧ M = M') := by
  refine gj_Cof (by decide +kernel) (Nat.le_of_ble_eq_true rfl) ?_
  change gj_W G l 1 0 0 yX9_length cX9_length 1 (some .int) (gj_qI fun x S' M' => t = x ∧ S = S' ∧ M = M') 0 0 0 [(0, jR 1)] [] S M
  refine gj_aload_n (q := 1) (gj_dk okX9_length 0 rfl) rfl rfl ?_
  refine gj_gI (q := 4) (j := 1) (gj_dk okX9_length 1 rfl) ff_X9_15 (sh1 hst) (by decide) rfl rfl ?_
  rw [show M 1 1 = t from n0]
  exact gj_iret (gj_dk okX9_length 2 rfl) rfl ⟨_, rfl, (by first | rfl | omega | ((repeat' split) <;> omega)), rfl, rfl⟩
set_option maxHeartbeats 4000000 in
set_option maxRecDepth 20000 in
theorem q_X9_hasRoomFor (hst : gj_Stat S) (h : p_F 0 [1, 2, 3, 4, 5, 6, 7, 8, 10, 12, 13, 36, 37, 78] [] M)  (n0 : M 1 1 = 0)  : gj_C G l 1 0 0 yX9_hasRoomFor cX9_hasRoomFor 2 (some .boolean) [jR 1, jI 20] S M (gj_qI fun x S' M' => 1 = x ∧ S = S' ∧ M = M') := by
  refine gj_Cof (by decide +kernel) (Nat.le_of_ble_eq_true rfl) ?_
  change gj_W G l 1 0 0 yX9_hasRoomFor cX9_hasRoomFor 2 (some .boolean) (gj_qI fun x S' M' => 1 = x ∧ S = S' ∧ M = M') 0 0 0 [(0, jR 1), (1, jI 20)] [] S M
  refine gj_aload_n (q := 1) (gj_dk okX9_hasRoomFor 0 rfl) rfl rfl ?_
  refine gj_gI (q := 4) (j := 1) (gj_dk okX9_hasRoomFor 1 rfl) ff_X9_15 (sh1 hst) (by decide) rfl rfl ?_
  rw [show M 1 1 = 0 from n0]
  refine gj_iload_n (q := 5) (gj_dk okX9_hasRoomFor 2 rfl) rfl rfl ?_
  refine gj_iaddX (q := 6) (gj_dk okX9_hasRoomFor 3 rfl) (by decide) rfl ?_
  rw [show (0 + 20 : Int) = 20 from rfl]
  refine gj_aload_n (q := 7) (gj_dk okX9_hasRoomFor 4 rfl) rfl rfl ?_
  refine gj_gR (q := 10) (j := 0) (gj_dk okX9_hasRoomFor 5 rfl) ff_X9_9 (sh1 hst) (by decide) rfl (rf1_0 hst) rfl ?_
  refine gj_alen (q := 11) (gj_dk okX9_hasRoomFor 6 rfl) (sh2 hst) (by decide) rfl ?_
  refine gj_icmp_gt (q := 14) (tgt := 18) (gj_dk okX9_hasRoomFor 7 rfl) (by decide) rfl (fun cc => absurd cc (by decide)) (fun _ => ?_)
  refine gj_iconst (q := 15) (gj_dk okX9_hasRoomFor 8 rfl) (by decide) rfl ?_
  refine gj_goto (tgt := 19) (gj_dk okX9_hasRoomFor 9 rfl) (by decide) ?_
  exact gj_zret (gj_dk okX9_hasRoomFor 11 rfl) rfl (by first | decide | assumption | omega) ⟨_, rfl, rfl, rfl, rfl⟩
set_option maxHeartbeats 4000000 in
set_option maxRecDepth 20000 in
theorem q_X9_append (hst : gj_Stat S) (h : p_F 0 [1, 2, 3, 4, 5, 6, 7, 8, 10, 12, 13, 36, 37, 78] [] M) {t : Int} (n0 : M 1 1 = t) (a1 : Int) (ht : 0 ≤ t ∧ t ≤ 496) : gj_C G l 2 0 0 yX9_append cX9_append 3 none [jR 1, jI a1] S M (gj_qV fun S' M' => S = S' ∧ p_W [1, 2] [] M M' ∧ M' 1 1 = t + 4) := by
  refine gj_Cof (by decide +kernel) (Nat.le_of_ble_eq_true rfl) ?_
  change gj_W G l 2 0 0 yX9_append cX9_append 3 none (gj_qV fun S' M' => S = S' ∧ p_W [1, 2] [] M M' ∧ M' 1 1 = t + 4) 0 0 0 [(0, jR 1), (1, jI a1)] [] S M
  have w0 : p_W [1, 2] [] M M := fun _ _ _ _ _ => rfl
  refine gj_bipush (q := 2) (gj_dk okX9_append 0 rfl) (by decide) rfl rfl ?_
  refine gj_istore_n (q := 3) (gj_dk okX9_append 1 rfl) (by decide) rfl ?_
  refine gj_iload_n (q := 4) (gj_dk okX9_append 2 rfl) rfl rfl ?_
  refine gj_if_lt (q := 7) (tgt := 53) (gj_dk okX9_append 3 rfl) (by decide) rfl (fun cc => absurd cc (by decide)) (fun _ => ?_)
  refine gj_aload_n (q := 8) (gj_dk okX9_append 4 rfl) rfl rfl ?_
  refine gj_gI (q := 11) (j := 1) (gj_dk okX9_append 5 rfl) ff_X9_15 (sh1 hst) (by decide) rfl rfl ?_
  rw [show M 1 1 = t from n0]
  refine gj_aload_n (q := 12) (gj_dk okX9_append 6 rfl) rfl rfl ?_
  refine gj_gR (q := 15) (j := 0) (gj_dk okX9_append 7 rfl) ff_X9_9 (sh1 hst) (by decide) rfl (rf1_0 hst) rfl ?_
  refine gj_alen (q := 16) (gj_dk okX9_append 8 rfl) (sh2 hst) (by decide) rfl ?_
  refine gj_icmp_ge (q := 19) (tgt := 47) (gj_dk okX9_append 9 rfl) (by decide) rfl (fun c16 => ?_) (fun c16 => ?_)
  · exfalso; omega
  · -- 19
    refine gj_aload_n (q := 20) (gj_dk okX9_append 10 rfl) rfl rfl ?_
    refine gj_gR (q := 23) (j := 0) (gj_dk okX9_append 11 rfl) ff_X9_9 (sh1 hst) (by decide) rfl (rf1_0 hst) rfl ?_
    refine gj_aload_n (q := 24) (gj_dk okX9_append 12 rfl) rfl rfl ?_
    refine gj_gI (q := 27) (j := 1) (gj_dk okX9_append 13 rfl) ff_X9_15 (sh1 hst) (by decide) rfl rfl ?_
    rw [show M 1 1 = t from n0]
    refine gj_iload_n (q := 28) (gj_dk okX9_append 14 rfl) rfl rfl ?_
    refine gj_iload_n (q := 29) (gj_dk okX9_append 15 rfl) rfl rfl ?_
    refine gj_iushr (q := 30) (gj_dk okX9_append 16 rfl) rfl ?_
    refine gj_sipush (q := 33) (gj_dk okX9_append 17 rfl) (by decide) rfl rfl ?_
    refine gj_iand (q := 34) (gj_dk okX9_append 18 rfl) rfl ?_
    refine gj_callS (q := 37) [jR 2, jI t, jI (gj_and (gj_ushr a1 24) 255)] rfl (c_X7_put (sh2 hst) (by decide) (by decide) _ _) (gj_dk okX9_append 19 rfl) ml_X9_19 me_X7_put (gj_nm rfl) rfl (gj_kV fun S2 M2 h1 => ?_)
    obtain ⟨eS, eM⟩ := h1; subst eS
    have w4 : p_W [1, 2] [] M M2 := by rw [← eM]; exact w0.put rfl
    have g5 : M2 1 1 = t := by rw [← eM, f_put_ne (by decide)]; exact n0
    clear eM
    generalize M2 = M3 at *
    refine gj_aload_n (q := 38) (gj_dk okX9_append 20 rfl) rfl rfl ?_
    refine gj_dup (q := 39) (gj_dk okX9_append 21 rfl) rfl rfl ?_
    refine gj_gI (q := 42) (j := 1) (gj_dk okX9_append 22 rfl) ff_X9_15 (sh1 hst) (by decide) rfl rfl ?_
    rw [show M3 1 1 = t from g5]
    refine gj_iconst (q := 43) (gj_dk okX9_append 23 rfl) (by decide) rfl ?_
    refine gj_iaddX (q := 44) (gj_dk okX9_append 24 rfl) (by omega) rfl ?_
    refine gj_pfI (q := 47) (j := 1) (gj_dk okX9_append 25 rfl) ff_X9_15 (sh1 hst) (by decide) rfl rfl ?_
    refine gj_abs (fun M6 e8 => ?_)
    have w7 : p_W [1, 2] [] M M6 := by rw [e8]; exact w4.up rfl
    have g9 : M6 1 1 = (t + 1) := by rw [e8]; exact if_pos ⟨rfl, rfl⟩
    clear e8
    refine gj_iinc (q := 50) (v := 16) (gj_dk okX9_append 26 rfl) rfl (by decide) rfl rfl ?_
    refine gj_goto (tgt := 3) (gj_dk okX9_append 27 rfl) (by decide) ?_
    refine gj_iload_n (q := 4) (gj_dk okX9_append 2 rfl) rfl rfl ?_
    refine gj_if_lt (q := 7) (tgt := 53) (gj_dk okX9_append 3 rfl) (by decide) rfl (fun cc => absurd cc (by decide)) (fun _ => ?_)
    refine gj_aload_n (q := 8) (gj_dk okX9_append 4 rfl) rfl rfl ?_
    refine gj_gI (q := 11) (j := 1) (gj_dk okX9_append 5 rfl) ff_X9_15 (sh1 hst) (by decide) rfl rfl ?_
    rw [show M6 1 1 = t + 1 from g9]
    refine gj_aload_n (q := 12) (gj_dk okX9_append 6 rfl) rfl rfl ?_
    refine gj_gR (q := 15) (j := 0) (gj_dk okX9_append 7 rfl) ff_X9_9 (sh1 hst) (by decide) rfl (rf1_0 hst) rfl ?_
    refine gj_alen (q := 16) (gj_dk okX9_append 8 rfl) (sh2 hst) (by decide) rfl ?_
    refine gj_icmp_ge (q := 19) (tgt := 47) (gj_dk okX9_append 9 rfl) (by decide) rfl (fun c16 => ?_) (fun c16 => ?_)
    · exfalso; omega
    · -- 19
      refine gj_aload_n (q := 20) (gj_dk okX9_append 10 rfl) rfl rfl ?_
      refine gj_gR (q := 23) (j := 0) (gj_dk okX9_append 11 rfl) ff_X9_9 (sh1 hst) (by decide) rfl (rf1_0 hst) rfl ?_
      refine gj_aload_n (q := 24) (gj_dk okX9_append 12 rfl) rfl rfl ?_
      refine gj_gI (q := 27) (j := 1) (gj_dk okX9_append 13 rfl) ff_X9_15 (sh1 hst) (by decide) rfl rfl ?_
      rw [show M6 1 1 = t + 1 from g9]
      refine gj_iload_n (q := 28) (gj_dk okX9_append 14 rfl) rfl rfl ?_
      refine gj_iload_n (q := 29) (gj_dk okX9_append 15 rfl) rfl rfl ?_
      refine gj_iushr (q := 30) (gj_dk okX9_append 16 rfl) rfl ?_
      refine gj_sipush (q := 33) (gj_dk okX9_append 17 rfl) (by decide) rfl rfl ?_
      refine gj_iand (q := 34) (gj_dk okX9_append 18 rfl) rfl ?_
      refine gj_callS (q := 37) [jR 2, jI (t + 1), jI (gj_and (gj_ushr a1 16) 255)] rfl (c_X7_put (sh2 hst) (by decide) (by decide) _ _) (gj_dk okX9_append 19 rfl) ml_X9_19 me_X7_put (gj_nm rfl) rfl (gj_kV fun S2 M2 h10 => ?_)
      obtain ⟨eS, eM⟩ := h10; subst eS
      have w13 : p_W [1, 2] [] M M2 := by rw [← eM]; exact w7.put rfl
      have g14 : M2 1 1 = t + 1 := by rw [← eM, f_put_ne (by decide)]; exact g9
      clear eM
      generalize M2 = M12 at *
      refine gj_aload_n (q := 38) (gj_dk okX9_append 20 rfl) rfl rfl ?_
      refine gj_dup (q := 39) (gj_dk okX9_append 21 rfl) rfl rfl ?_
      refine gj_gI (q := 42) (j := 1) (gj_dk okX9_append 22 rfl) ff_X9_15 (sh1 hst) (by decide) rfl rfl ?_
      rw [show M12 1 1 = t + 1 from g14]
      refine gj_iconst (q := 43) (gj_dk okX9_append 23 rfl) (by decide) rfl ?_
      refine gj_iaddX (q := 44) (gj_dk okX9_append 24 rfl) (by omega) rfl ?_
      refine gj_pfI (q := 47) (j := 1) (gj_dk okX9_append 25 rfl) ff_X9_15 (sh1 hst) (by decide) rfl rfl ?_
      refine gj_abs (fun M15 e17 => ?_)
      have w16 : p_W [1, 2] [] M M15 := by rw [e17]; exact w13.up rfl
      have g18 : M15 1 1 = ((t + 1) + 1) := by rw [e17]; exact if_pos ⟨rfl, rfl⟩
      clear e17
      refine gj_iinc (q := 50) (v := 8) (gj_dk okX9_append 26 rfl) rfl (by decide) rfl rfl ?_
      refine gj_goto (tgt := 3) (gj_dk okX9_append 27 rfl) (by decide) ?_
      refine gj_iload_n (q := 4) (gj_dk okX9_append 2 rfl) rfl rfl ?_
      refine gj_if_lt (q := 7) (tgt := 53) (gj_dk okX9_append 3 rfl) (by decide) rfl (fun cc => absurd cc (by decide)) (fun _ => ?_)
      refine gj_aload_n (q := 8) (gj_dk okX9_append 4 rfl) rfl rfl ?_
      refine gj_gI (q := 11) (j := 1) (gj_dk okX9_append 5 rfl) ff_X9_15 (sh1 hst) (by decide) rfl rfl ?_
      rw [show M15 1 1 = (t + 1) + 1 from g18]
      refine gj_aload_n (q := 12) (gj_dk okX9_append 6 rfl) rfl rfl ?_
      refine gj_gR (q := 15) (j := 0) (gj_dk okX9_append 7 rfl) ff_X9_9 (sh1 hst) (by decide) rfl (rf1_0 hst) rfl ?_
      refine gj_alen (q := 16) (gj_dk okX9_append 8 rfl) (sh2 hst) (by decide) rfl ?_
      refine gj_icmp_ge (q := 19) (tgt := 47) (gj_dk okX9_append 9 rfl) (by decide) rfl (fun c16 => ?_) (fun c16 => ?_)
      · exfalso; omega
      · -- 19
        refine gj_aload_n (q := 20) (gj_dk okX9_append 10 rfl) rfl rfl ?_
        refine gj_gR (q := 23) (j := 0) (gj_dk okX9_append 11 rfl) ff_X9_9 (sh1 hst) (by decide) rfl (rf1_0 hst) rfl ?_
        refine gj_aload_n (q := 24) (gj_dk okX9_append 12 rfl) rfl rfl ?_
        refine gj_gI (q := 27) (j := 1) (gj_dk okX9_append 13 rfl) ff_X9_15 (sh1 hst) (by decide) rfl rfl ?_
        rw [show M15 1 1 = (t + 1) + 1 from g18]
        refine gj_iload_n (q := 28) (gj_dk okX9_append 14 rfl) rfl rfl ?_
        refine gj_iload_n (q := 29) (gj_dk okX9_append 15 rfl) rfl rfl ?_
        refine gj_iushr (q := 30) (gj_dk okX9_append 16 rfl) rfl ?_
        refine gj_sipush (q := 33) (gj_dk okX9_append 17 rfl) (by decide) rfl rfl ?_
        refine gj_iand (q := 34) (gj_dk okX9_append 18 rfl) rfl ?_
        refine gj_callS (q := 37) [jR 2, jI ((t + 1) + 1), jI (gj_and (gj_ushr a1 8) 255)] rfl (c_X7_put (sh2 hst) (by decide) (by decide) _ _) (gj_dk okX9_append 19 rfl) ml_X9_19 me_X7_put (gj_nm rfl) rfl (gj_kV fun S2 M2 h19 => ?_)
        obtain ⟨eS, eM⟩ := h19; subst eS
        have w22 : p_W [1, 2] [] M M2 := by rw [← eM]; exact w16.put rfl
        have g23 : M2 1 1 = (t + 1) + 1 := by rw [← eM, f_put_ne (by decide)]; exact g18
        clear eM
        generalize M2 = M21 at *
        refine gj_aload_n (q := 38) (gj_dk okX9_append 20 rfl) rfl rfl ?_
        refine gj_dup (q := 39) (gj_dk okX9_append 21 rfl) rfl rfl ?_
        refine gj_gI (q := 42) (j := 1) (gj_dk okX9_append 22 rfl) ff_X9_15 (sh1 hst) (by decide) rfl rfl ?_
        rw [show M21 1 1 = (t + 1) + 1 from g23]
        refine gj_iconst (q := 43) (gj_dk okX9_append 23 rfl) (by decide) rfl ?_
        refine gj_iaddX (q := 44) (gj_dk okX9_append 24 rfl) (by omega) rfl ?_
        refine gj_pfI (q := 47) (j := 1) (gj_dk okX9_append 25 rfl) ff_X9_15 (sh1 hst) (by decide) rfl rfl ?_
        refine gj_abs (fun M24 e26 => ?_)
        have w25 : p_W [1, 2] [] M M24 := by rw [e26]; exact w22.up rfl
        have g27 : M24 1 1 = (((t + 1) + 1) + 1) := by rw [e26]; exact if_pos ⟨rfl, rfl⟩
        clear e26
        refine gj_iinc (q := 50) (v := 0) (gj_dk okX9_append 26 rfl) rfl (by decide) rfl rfl ?_
        refine gj_goto (tgt := 3) (gj_dk okX9_append 27 rfl) (by decide) ?_
        refine gj_iload_n (q := 4) (gj_dk okX9_append 2 rfl) rfl rfl ?_
        refine gj_if_lt (q := 7) (tgt := 53) (gj_dk okX9_append 3 rfl) (by decide) rfl (fun cc => absurd cc (by decide)) (fun _ => ?_)
        refine gj_aload_n (q := 8) (gj_dk okX9_append 4 rfl) rfl rfl ?_
        refine gj_gI (q := 11) (j := 1) (gj_dk okX9_append 5 rfl) ff_X9_15 (sh1 hst) (by decide) rfl rfl ?_
        rw [show M24 1 1 = ((t + 1) + 1) + 1 from g27]
        refine gj_aload_n (q := 12) (gj_dk okX9_append 6 rfl) rfl rfl ?_
        refine gj_gR (q := 15) (j := 0) (gj_dk okX9_append 7 rfl) ff_X9_9 (sh1 hst) (by decide) rfl (rf1_0 hst) rfl ?_
        refine gj_alen (q := 16) (gj_dk okX9_append 8 rfl) (sh2 hst) (by decide) rfl ?_
        refine gj_icmp_ge (q := 19) (tgt := 47) (gj_dk okX9_append 9 rfl) (by decide) rfl (fun c16 => ?_) (fun c16 => ?_)
        · exfalso; omega
        · -- 19
          refine gj_aload_n (q := 20) (gj_dk okX9_append 10 rfl) rfl rfl ?_
          refine gj_gR (q := 23) (j := 0) (gj_dk okX9_append 11 rfl) ff_X9_9 (sh1 hst) (by decide) rfl (rf1_0 hst) rfl ?_
          refine gj_aload_n (q := 24) (gj_dk okX9_append 12 rfl) rfl rfl ?_
          refine gj_gI (q := 27) (j := 1) (gj_dk okX9_append 13 rfl) ff_X9_15 (sh1 hst) (by decide) rfl rfl ?_
          rw [show M24 1 1 = ((t + 1) + 1) + 1 from g27]
          refine gj_iload_n (q := 28) (gj_dk okX9_append 14 rfl) rfl rfl ?_
          refine gj_iload_n (q := 29) (gj_dk okX9_append 15 rfl) rfl rfl ?_
          refine gj_iushr (q := 30) (gj_dk okX9_append 16 rfl) rfl ?_
          refine gj_sipush (q := 33) (gj_dk okX9_append 17 rfl) (by decide) rfl rfl ?_
          refine gj_iand (q := 34) (gj_dk okX9_append 18 rfl) rfl ?_
          refine gj_callS (q := 37) [jR 2, jI (((t + 1) + 1) + 1), jI (gj_and (gj_ushr a1 0) 255)] rfl (c_X7_put (sh2 hst) (by decide) (by decide) _ _) (gj_dk okX9_append 19 rfl) ml_X9_19 me_X7_put (gj_nm rfl) rfl (gj_kV fun S2 M2 h28 => ?_)
          obtain ⟨eS, eM⟩ := h28; subst eS
          have w31 : p_W [1, 2] [] M M2 := by rw [← eM]; exact w25.put rfl
          have g32 : M2 1 1 = ((t + 1) + 1) + 1 := by rw [← eM, f_put_ne (by decide)]; exact g27
          clear eM
          generalize M2 = M30 at *
          refine gj_aload_n (q := 38) (gj_dk okX9_append 20 rfl) rfl rfl ?_
          refine gj_dup (q := 39) (gj_dk okX9_append 21 rfl) rfl rfl ?_
          refine gj_gI (q := 42) (j := 1) (gj_dk okX9_append 22 rfl) ff_X9_15 (sh1 hst) (by decide) rfl rfl ?_
          rw [show M30 1 1 = ((t + 1) + 1) + 1 from g32]
          refine gj_iconst (q := 43) (gj_dk okX9_append 23 rfl) (by decide) rfl ?_
          refine gj_iaddX (q := 44) (gj_dk okX9_append 24 rfl) (by omega) rfl ?_
          refine gj_pfI (q := 47) (j := 1) (gj_dk okX9_append 25 rfl) ff_X9_15 (sh1 hst) (by decide) rfl rfl ?_
          refine gj_abs (fun M33 e35 => ?_)
          have w34 : p_W [1, 2] [] M M33 := by rw [e35]; exact w31.up rfl
          have g36 : M33 1 1 = ((((t + 1) + 1) + 1) + 1) := by rw [e35]; exact if_pos ⟨rfl, rfl⟩
          clear e35
          refine gj_iinc (q := 50) (v := -8) (gj_dk okX9_append 26 rfl) rfl (by decide) rfl rfl ?_
          refine gj_goto (tgt := 3) (gj_dk okX9_append 27 rfl) (by decide) ?_
          refine gj_iload_n (q := 4) (gj_dk okX9_append 2 rfl) rfl rfl ?_
          refine gj_if_lt (q := 7) (tgt := 53) (gj_dk okX9_append 3 rfl) (by decide) rfl (fun _ => ?_) (fun cc => absurd cc (by decide))
          exact gj_vret (gj_dk okX9_append 28 rfl) rfl ⟨rfl, rfl, w34, (by rw [g36]; omega)⟩
set_option maxHeartbeats 4000000 in
set_option maxRecDepth 20000 in
theorem q_X9_cutTo (hst : gj_Stat S) (h : p_F 0 [1, 2, 3, 4, 5, 6, 7, 8, 10, 12, 13, 36, 37, 78] [] M) {t : Int} (n0 : M 1 1 = t) (a1 : Int)  : gj_C G l 1 0 0 yX9_cutTo cX9_cutTo 2 none [jR 1, jI a1] S M (gj_qV fun S' M' => S = S' ∧ p_W [1] [] M M') := by
  refine gj_Cof (by decide +kernel) (Nat.le_of_ble_eq_true rfl) ?_
  change gj_W G l 1 0 0 yX9_cutTo cX9_cutTo 2 none (gj_qV fun S' M' => S = S' ∧ p_W [1] [] M M') 0 0 0 [(0, jR 1), (1, jI a1)] [] S M
  have w0 : p_W [1] [] M M := fun _ _ _ _ _ => rfl
  refine gj_iload_n (q := 1) (gj_dk okX9_cutTo 0 rfl) rfl rfl ?_
  refine gj_if_lt (q := 4) (tgt := 17) (gj_dk okX9_cutTo 1 rfl) (by decide) rfl (fun c1 => ?_) (fun c1 => ?_)
  · -- 17
    exact gj_vret (gj_dk okX9_cutTo 9 rfl) rfl ⟨rfl, rfl, w0⟩
  · -- 4
    refine gj_iload_n (q := 5) (gj_dk okX9_cutTo 2 rfl) rfl rfl ?_
    refine gj_aload_n (q := 6) (gj_dk okX9_cutTo 3 rfl) rfl rfl ?_
    refine gj_gI (q := 9) (j := 1) (gj_dk okX9_cutTo 4 rfl) ff_X9_15 (sh1 hst) (by decide) rfl rfl ?_
    rw [show M 1 1 = t from n0]
    refine gj_icmp_gt (q := 12) (tgt := 17) (gj_dk okX9_cutTo 5 rfl) (by decide) rfl (fun c9 => ?_) (fun c9 => ?_)
    · -- 17
      exact gj_vret (gj_dk okX9_cutTo 9 rfl) rfl ⟨rfl, rfl, w0⟩
    · -- 12
      refine gj_aload_n (q := 13) (gj_dk okX9_cutTo 6 rfl) rfl rfl ?_
      refine gj_iload_n (q := 14) (gj_dk okX9_cutTo 7 rfl) rfl rfl ?_
      refine gj_pfI (q := 17) (j := 1) (gj_dk okX9_cutTo 8 rfl) ff_X9_15 (sh1 hst) (by decide) rfl rfl ?_
      refine gj_abs (fun M1 e3 => ?_)
      have w2 : p_W [1] [] M M1 := by rw [e3]; exact w0.up rfl
      clear e3
      exact gj_vret (gj_dk okX9_cutTo 9 rfl) rfl ⟨rfl, rfl, w2⟩
set_option maxHeartbeats 4000000 in
set_option maxRecDepth 20000 in
theorem q_X9_byteAt (hst : gj_Stat S) (h : p_F 0 [1, 2, 3, 4, 5, 6, 7, 8, 10, 12, 13, 36, 37, 78] [] M)  (n0 : M 1 1 = 0)  : gj_C G l 2 0 0 yX9_byteAt cX9_byteAt 2 (some .int) [jR 1, jI 0] S M (gj_qI fun x S' M' => -1 = x ∧ S = S' ∧ M = M') := by
  refine gj_Cof (by decide +kernel) (Nat.le_of_ble_eq_true rfl) ?_
  change gj_W G l 2 0 0 yX9_byteAt cX9_byteAt 2 (some .int) (gj_qI fun x S' M' => -1 = x ∧ S = S' ∧ M = M') 0 0 0 [(0, jR 1), (1, jI 0)] [] S M
  refine gj_iload_n (q := 1) (gj_dk okX9_byteAt 0 rfl) rfl rfl ?_
  refine gj_aload_n (q := 2) (gj_dk okX9_byteAt 1 rfl) rfl rfl ?_
  refine gj_gI (q := 5) (j := 1) (gj_dk okX9_byteAt 2 rfl) ff_X9_15 (sh1 hst) (by decide) rfl rfl ?_
  rw [show M 1 1 = 0 from n0]
  refine gj_icmp_ge (q := 8) (tgt := 19) (gj_dk okX9_byteAt 3 rfl) (by decide) rfl (fun _ => ?_) (fun cc => absurd cc (by decide))
  refine gj_iconst (q := 20) (gj_dk okX9_byteAt 9 rfl) (by decide) rfl ?_
  exact gj_iret (gj_dk okX9_byteAt 10 rfl) rfl ⟨_, rfl, rfl, rfl, rfl⟩
set_option maxHeartbeats 4000000 in
set_option maxRecDepth 20000 in
theorem q_X11_refuse (hst : gj_Stat S) (h : p_F 0 [1, 2, 3, 4, 5, 6, 7, 8, 10, 12, 13, 36, 37, 78] [] M)  (a1 : Int)  : gj_C G l 2 0 0 yX11_refuse cX11_refuse 2 (some .boolean) [jR 0, jI a1] S M (gj_qI fun x S' M' => 0 = x ∧ S = S' ∧ p_W [78] [] M M') := by
  refine gj_Cof (by decide +kernel) (Nat.le_of_ble_eq_true rfl) ?_
  change gj_W G l 2 0 0 yX11_refuse cX11_refuse 2 (some .boolean) (gj_qI fun x S' M' => 0 = x ∧ S = S' ∧ p_W [78] [] M M') 0 0 0 [(0, jR 0), (1, jI a1)] [] S M
  have w0 : p_W [78] [] M M := fun _ _ _ _ _ => rfl
  refine gj_aload_n (q := 1) (gj_dk okX11_refuse 0 rfl) rfl rfl ?_
  refine gj_gR (q := 4) (j := 11) (gj_dk okX11_refuse 1 rfl) ff_X11_84 (sh0 hst) (by decide) rfl (rf0_11 hst) rfl ?_
  refine gj_iload_n (q := 5) (gj_dk okX11_refuse 2 rfl) rfl rfl ?_
  refine gj_aload_n (q := 6) (gj_dk okX11_refuse 3 rfl) rfl rfl ?_
  refine gj_gR (q := 9) (j := 11) (gj_dk okX11_refuse 4 rfl) ff_X11_84 (sh0 hst) (by decide) rfl (rf0_11 hst) rfl ?_
  refine gj_iload_n (q := 10) (gj_dk okX11_refuse 5 rfl) rfl rfl ?_
  refine gj_callS (q := 13) [jR 78, jI a1] rfl (c_X7_at (sh78 hst) (by decide) (by decide) _) (gj_dk okX11_refuse 6 rfl) ml_X11_139 me_X7_at (gj_nm rfl) rfl (gj_kI fun x2 S2 M2 h1 => ?_)
  obtain ⟨ex2, eS, eM⟩ := h1; subst eS; subst eM; subst ex2
  refine gj_iconst (q := 14) (gj_dk okX11_refuse 7 rfl) (by decide) rfl ?_
  refine gj_iadd (q := 15) (gj_dk okX11_refuse 8 rfl) rfl ?_
  refine gj_callS (q := 18) [jR 78, jI a1, jI (gj_w ((f_at M 78 3 a1) + 1))] rfl (c_X7_put (sh78 hst) (by decide) (by decide) _ _) (gj_dk okX11_refuse 9 rfl) ml_X11_333 me_X7_put (gj_nm rfl) rfl (gj_kV fun S2 M2 h3 => ?_)
  obtain ⟨eS, eM⟩ := h3; subst eS
  have w6 : p_W [78] [] M M2 := by rw [← eM]; exact w0.put rfl
  clear eM
  generalize M2 = M5 at *
  refine gj_iconst (q := 19) (gj_dk okX11_refuse 10 rfl) (by decide) rfl ?_
  exact gj_zret (gj_dk okX11_refuse 11 rfl) rfl (by first | decide | assumption | omega) ⟨_, rfl, rfl, rfl, w6⟩
set_option maxHeartbeats 4000000 in
set_option maxRecDepth 20000 in
theorem q_X11_pictureAt (hst : gj_Stat S) (h : p_F 0 [1, 2, 3, 4, 5, 6, 7, 8, 10, 12, 13, 36, 37, 78] [] M)  (a1 : Int)  : gj_C G l 1 0 0 yX11_pictureAt cX11_pictureAt 2 (some (.object "MayGreen$Life")) [jR 0, jI a1] S M (gj_qR fun x S' M' => f_pic a1 = x ∧ S = S' ∧ M = M') := by
  refine gj_Cof (by decide +kernel) (Nat.le_of_ble_eq_true rfl) ?_
  change gj_W G l 1 0 0 yX11_pictureAt cX11_pictureAt 2 (some (.object "MayGreen$Life")) (gj_qR fun x S' M' => f_pic a1 = x ∧ S = S' ∧ M = M') 0 0 0 [(0, jR 0), (1, jI a1)] [] S M
  refine gj_iload_n (q := 1) (gj_dk okX11_pictureAt 0 rfl) rfl rfl ?_
  refine gj_if_lt (q := 4) (tgt := 13) (gj_dk okX11_pictureAt 1 rfl) (by decide) rfl (fun c1 => ?_) (fun c1 => ?_)
  · -- 13
    refine gj_null (q := 14) (gj_dk okX11_pictureAt 7 rfl) rfl ?_
    refine gj_goto (tgt := 23) (gj_dk okX11_pictureAt 8 rfl) (by decide) ?_
    exact gj_aret (gj_dk okX11_pictureAt 13 rfl) rfl ⟨_, rfl, (by unfold f_pic; first | (subst_vars; rfl) | (rw [if_neg (by omega), if_neg (by omega), if_neg (by omega)])), rfl, rfl⟩
  · -- 4
    refine gj_iload_n (q := 5) (gj_dk okX11_pictureAt 2 rfl) rfl rfl ?_
    refine gj_aload_n (q := 6) (gj_dk okX11_pictureAt 3 rfl) rfl rfl ?_
    refine gj_gR (q := 9) (j := 9) (gj_dk okX11_pictureAt 4 rfl) ff_X11_76 (sh0 hst) (by decide) rfl (rf0_9 hst) rfl ?_
    refine gj_alen (q := 10) (gj_dk okX11_pictureAt 5 rfl) (sh46 hst) (by decide) rfl ?_
    refine gj_icmp_lt (q := 13) (tgt := 17) (gj_dk okX11_pictureAt 6 rfl) (by decide) rfl (fun c10 => ?_) (fun c10 => ?_)
    · -- 17
      refine gj_aload_n (q := 18) (gj_dk okX11_pictureAt 9 rfl) rfl rfl ?_
      refine gj_gR (q := 21) (j := 9) (gj_dk okX11_pictureAt 10 rfl) ff_X11_76 (sh0 hst) (by decide) rfl (rf0_9 hst) rfl ?_
      refine gj_iload_n (q := 22) (gj_dk okX11_pictureAt 11 rfl) rfl rfl ?_
      have hi22 : a1 = 0 ∨ a1 = 1 ∨ a1 = 2 := by omega
      rcases hi22 with hi22 | hi22 | hi22
      · refine gj_aald (q := 23) (w := 47) (gj_dk okX11_pictureAt 12 rfl) (sh46 hst) (by omega) (by omega) (by omega) (by rw [hi22]; exact (rf46_0 hst)) rfl ?_
        exact gj_aret (gj_dk okX11_pictureAt 13 rfl) rfl ⟨_, rfl, (by unfold f_pic; first | (subst_vars; rfl) | (rw [if_neg (by omega), if_neg (by omega), if_neg (by omega)])), rfl, rfl⟩
      · refine gj_aald (q := 23) (w := 57) (gj_dk okX11_pictureAt 12 rfl) (sh46 hst) (by omega) (by omega) (by omega) (by rw [hi22]; exact (rf46_1 hst)) rfl ?_
        exact gj_aret (gj_dk okX11_pictureAt 13 rfl) rfl ⟨_, rfl, (by unfold f_pic; first | (subst_vars; rfl) | (rw [if_neg (by omega), if_neg (by omega), if_neg (by omega)])), rfl, rfl⟩
      · refine gj_aald (q := 23) (w := 67) (gj_dk okX11_pictureAt 12 rfl) (sh46 hst) (by omega) (by omega) (by omega) (by rw [hi22]; exact (rf46_2 hst)) rfl ?_
        exact gj_aret (gj_dk okX11_pictureAt 13 rfl) rfl ⟨_, rfl, (by unfold f_pic; first | (subst_vars; rfl) | (rw [if_neg (by omega), if_neg (by omega), if_neg (by omega)])), rfl, rfl⟩
    · -- 13
      refine gj_null (q := 14) (gj_dk okX11_pictureAt 7 rfl) rfl ?_
      refine gj_goto (tgt := 23) (gj_dk okX11_pictureAt 8 rfl) (by decide) ?_
      exact gj_aret (gj_dk okX11_pictureAt 13 rfl) rfl ⟨_, rfl, (by unfold f_pic; first | (subst_vars; rfl) | (rw [if_neg (by omega), if_neg (by omega), if_neg (by omega)])), rfl, rfl⟩
set_option maxHeartbeats 4000000 in
set_option maxRecDepth 20000 in
theorem q_X6_kindOf (hst : gj_Stat S) (h : p_F 0 [1, 2, 3, 4, 5, 6, 7, 8, 10, 12, 13, 36, 37, 78] [] M)   : gj_C G l 1 0 0 yX6_kindOf cX6_kindOf 1 (some .int) [jI (-1)] S M (gj_qI fun x S' M' => 0 = x ∧ S = S' ∧ M = M') := by
  refine gj_Cof (by decide +kernel) (Nat.le_of_ble_eq_true rfl) ?_
  change gj_W G l 1 0 0 yX6_kindOf cX6_kindOf 1 (some .int) (gj_qI fun x S' M' => 0 = x ∧ S = S' ∧ M = M') 0 0 0 [(0, jI (-1))] [] S M
  refine gj_iload_n (q := 1) (gj_dk okX6_kindOf 0 rfl) rfl rfl ?_
  refine gj_iconst (q := 2) (gj_dk okX6_kindOf 1 rfl) (by decide) rfl ?_
  refine gj_icmp_ne (q := 5) (tgt := 7) (gj_dk okX6_kindOf 2 rfl) (by decide) rfl (fun cc => absurd cc (by decide)) (fun _ => ?_)
  refine gj_iconst (q := 6) (gj_dk okX6_kindOf 3 rfl) (by decide) rfl ?_
  exact gj_iret (gj_dk okX6_kindOf 4 rfl) rfl ⟨_, rfl, rfl, rfl, rfl⟩
set_option maxHeartbeats 4000000 in
set_option maxRecDepth 20000 in
theorem q_X6_scan (hst : gj_Stat S) (h : p_F 0 [1, 2, 3, 4, 5, 6, 7, 8, 10, 12, 13, 36, 37, 78] [] M)  (n0 : M 1 1 = 0) (n1 : M 10 8 = 0)  : gj_C G l 3 0 0 yX6_scan cX6_scan 1 none [jR 10] S M (gj_qV fun S' M' => S = S' ∧ p_W [10] [] M M' ∧ M' 10 6 = 0 ∧ M' 10 7 = 0) := by
  refine gj_Cof (by decide +kernel) (Nat.le_of_ble_eq_true rfl) ?_
  change gj_W G l 3 0 0 yX6_scan cX6_scan 1 none (gj_qV fun S' M' => S = S' ∧ p_W [10] [] M M' ∧ M' 10 6 = 0 ∧ M' 10 7 = 0) 0 0 0 [(0, jR 10)] [] S M
  have w0 : p_W [10] [] M M := fun _ _ _ _ _ => rfl
  refine gj_aload_n (q := 1) (gj_dk okX6_scan 0 rfl) rfl rfl ?_
  refine gj_aload_n (q := 2) (gj_dk okX6_scan 1 rfl) rfl rfl ?_
  refine gj_gI (q := 5) (j := 8) (gj_dk okX6_scan 2 rfl) ff_X6_39 (sh10 hst) (by decide) rfl rfl ?_
  rw [show M 10 8 = 0 from n1]
  refine gj_pfI (q := 8) (j := 7) (gj_dk okX6_scan 3 rfl) ff_X6_64 (sh10 hst) (by decide) rfl rfl ?_
  refine gj_abs (fun M1 e3 => ?_)
  have w2 : p_W [10] [] M M1 := by rw [e3]; exact w0.up rfl
  have g4 : M1 1 1 = 0 := by rw [e3, gj_upne (by decide)]; exact n0
  have g5 : M1 10 8 = 0 := by rw [e3, gj_upne (by decide)]; exact n1
  have g6 : M1 10 7 = 0 := by rw [e3]; exact if_pos ⟨rfl, rfl⟩
  clear e3
  refine gj_aload_n (q := 9) (gj_dk okX6_scan 4 rfl) rfl rfl ?_
  refine gj_gI (q := 12) (j := 7) (gj_dk okX6_scan 5 rfl) ff_X6_64 (sh10 hst) (by decide) rfl rfl ?_
  rw [show M1 10 7 = 0 from g6]
  refine gj_aload_n (q := 13) (gj_dk okX6_scan 6 rfl) rfl rfl ?_
  refine gj_gR (q := 16) (j := 0) (gj_dk okX6_scan 7 rfl) ff_X6_22 (sh10 hst) (by decide) rfl (rf10_0 hst) rfl ?_
  refine gj_callV (q := 19) (z := 1) (ci := 8) [] rfl (q_X9_length hst (h.of w2 rfl) g4  ) (gj_dk okX6_scan 8 rfl) ml_X6_51 me_X9_length (sh1 hst) rfl (gj_nm rfl) rfl (gj_kI fun x8 S2 M2 h7 => ?_)
  obtain ⟨ex8, eS, eM⟩ := h7
  subst eS
  subst eM
  subst ex8
  refine gj_icmp_ge (q := 22) (tgt := 52) (gj_dk okX6_scan 9 rfl) (by decide) rfl (fun _ => ?_) (fun cc => absurd cc (by decide))
  refine gj_aload_n (q := 53) (gj_dk okX6_scan 24 rfl) rfl rfl ?_
  refine gj_aload_n (q := 54) (gj_dk okX6_scan 25 rfl) rfl rfl ?_
  refine gj_gR (q := 57) (j := 0) (gj_dk okX6_scan 26 rfl) ff_X6_22 (sh10 hst) (by decide) rfl (rf10_0 hst) rfl ?_
  refine gj_aload_n (q := 58) (gj_dk okX6_scan 27 rfl) rfl rfl ?_
  refine gj_gI (q := 61) (j := 7) (gj_dk okX6_scan 28 rfl) ff_X6_64 (sh10 hst) (by decide) rfl rfl ?_
  rw [show M1 10 7 = 0 from g6]
  refine gj_callV (q := 64) (z := 1) (ci := 8) [jI 0] rfl (q_X9_byteAt hst (h.of w2 rfl) g4  ) (gj_dk okX6_scan 29 rfl) ml_X6_70 me_X9_byteAt (sh1 hst) rfl (gj_nm rfl) rfl (gj_kI fun x10 S2 M2 h9 => ?_)
  obtain ⟨ex10, eS, eM⟩ := h9
  subst eS
  subst eM
  subst ex10
  refine gj_callS (q := 67) [jI (-1)] rfl (q_X6_kindOf hst (h.of w2 rfl)   ) (gj_dk okX6_scan 30 rfl) ml_X6_78 me_X6_kindOf (gj_nm rfl) rfl (gj_kI fun x12 S2 M2 h11 => ?_)
  obtain ⟨ex12, eS, eM⟩ := h11
  subst eS
  subst eM
  subst ex12
  refine gj_pfI (q := 70) (j := 6) (gj_dk okX6_scan 31 rfl) ff_X6_57 (sh10 hst) (by decide) rfl rfl ?_
  refine gj_abs (fun M13 e15 => ?_)
  have w14 : p_W [10] [] M M13 := by rw [e15]; exact w2.up rfl
  have g16 : M13 1 1 = 0 := by rw [e15, gj_upne (by decide)]; exact g4
  have g17 : M13 10 8 = 0 := by rw [e15, gj_upne (by decide)]; exact g5
  have g18 : M13 10 7 = 0 := by rw [e15, gj_upne (by decide)]; exact g6
  have g19 : M13 10 6 = 0 := by rw [e15]; exact if_pos ⟨rfl, rfl⟩
  clear e15
  refine gj_aload_n (q := 71) (gj_dk okX6_scan 32 rfl) rfl rfl ?_
  refine gj_aload_n (q := 72) (gj_dk okX6_scan 33 rfl) rfl rfl ?_
  refine gj_gI (q := 75) (j := 6) (gj_dk okX6_scan 34 rfl) ff_X6_57 (sh10 hst) (by decide) rfl rfl ?_
  rw [show M13 10 6 = 0 from g19]
  refine gj_if_ne (q := 78) (tgt := 85) (gj_dk okX6_scan 35 rfl) (by decide) rfl (fun cc => absurd cc (by decide)) (fun _ => ?_)
  refine gj_aload_n (q := 79) (gj_dk okX6_scan 36 rfl) rfl rfl ?_
  refine gj_gI (q := 82) (j := 7) (gj_dk okX6_scan 37 rfl) ff_X6_64 (sh10 hst) (by decide) rfl rfl ?_
  rw [show M13 10 7 = 0 from g18]
  refine gj_goto (tgt := 91) (gj_dk okX6_scan 38 rfl) (by decide) ?_
  refine gj_pfI (q := 94) (j := 8) (gj_dk okX6_scan 43 rfl) ff_X6_39 (sh10 hst) (by decide) rfl rfl ?_
  refine gj_abs (fun M20 e22 => ?_)
  have w21 : p_W [10] [] M M20 := by rw [e22]; exact w14.up rfl
  have g23 : M20 1 1 = 0 := by rw [e22, gj_upne (by decide)]; exact g16
  have g24 : M20 10 7 = 0 := by rw [e22, gj_upne (by decide)]; exact g18
  have g25 : M20 10 6 = 0 := by rw [e22, gj_upne (by decide)]; exact g19
  have g26 : M20 10 8 = 0 := by rw [e22]; exact if_pos ⟨rfl, rfl⟩
  clear e22
  refine gj_aload_n (q := 95) (gj_dk okX6_scan 44 rfl) rfl rfl ?_
  refine gj_gI (q := 98) (j := 6) (gj_dk okX6_scan 45 rfl) ff_X6_57 (sh10 hst) (by decide) rfl rfl ?_
  rw [show M20 10 6 = 0 from g25]
  refine gj_iconst (q := 99) (gj_dk okX6_scan 46 rfl) (by decide) rfl ?_
  refine gj_icmp_eq (q := 102) (tgt := 110) (gj_dk okX6_scan 47 rfl) (by decide) rfl (fun cc => absurd cc (by decide)) (fun _ => ?_)
  refine gj_aload_n (q := 103) (gj_dk okX6_scan 48 rfl) rfl rfl ?_
  refine gj_gI (q := 106) (j := 6) (gj_dk okX6_scan 49 rfl) ff_X6_57 (sh10 hst) (by decide) rfl rfl ?_
  rw [show M20 10 6 = 0 from g25]
  refine gj_iconst (q := 107) (gj_dk okX6_scan 50 rfl) (by decide) rfl ?_
  refine gj_icmp_ne (q := 110) (tgt := 158) (gj_dk okX6_scan 51 rfl) (by decide) rfl (fun _ => ?_) (fun cc => absurd cc (by decide))
  exact gj_vret (gj_dk okX6_scan 74 rfl) rfl ⟨rfl, rfl, w21, g25, g24⟩
set_option maxHeartbeats 4000000 in
set_option maxRecDepth 20000 in
theorem q_X5_clear (hst : gj_Stat S) (h : p_F 0 [1, 2, 3, 4, 5, 6, 7, 8, 10, 12, 13, 36, 37, 78] [] M)   : gj_C G l 2 0 0 yX5_clear cX5_clear 1 none [jR 3] S M (gj_qV fun S' M' => S = S' ∧ p_W [3, 4, 5, 6, 7, 8] [] M M' ∧ M' 3 0 = 0 ∧ M' 3 1 = 0) := by
  refine gj_Cof (by decide +kernel) (Nat.le_of_ble_eq_true rfl) ?_
  change gj_W G l 2 0 0 yX5_clear cX5_clear 1 none (gj_qV fun S' M' => S = S' ∧ p_W [3, 4, 5, 6, 7, 8] [] M M' ∧ M' 3 0 = 0 ∧ M' 3 1 = 0) 0 0 0 [(0, jR 3)] [] S M
  have w0 : p_W [3, 4, 5, 6, 7, 8] [] M M := fun _ _ _ _ _ => rfl
  refine gj_aload_n (q := 1) (gj_dk okX5_clear 0 rfl) rfl rfl ?_
  refine gj_iconst (q := 2) (gj_dk okX5_clear 1 rfl) (by decide) rfl ?_
  refine gj_pfI (q := 5) (j := 0) (gj_dk okX5_clear 2 rfl) ff_X5_30 (sh3 hst) (by decide) rfl rfl ?_
  refine gj_abs (fun M1 e3 => ?_)
  have w2 : p_W [3, 4, 5, 6, 7, 8] [] M M1 := by rw [e3]; exact w0.up rfl
  have g4 : M1 3 0 = 0 := by rw [e3]; exact if_pos ⟨rfl, rfl⟩
  clear e3
  refine gj_aload_n (q := 6) (gj_dk okX5_clear 3 rfl) rfl rfl ?_
  refine gj_iconst (q := 7) (gj_dk okX5_clear 4 rfl) (by decide) rfl ?_
  refine gj_pfI (q := 10) (j := 1) (gj_dk okX5_clear 5 rfl) ff_X5_34 (sh3 hst) (by decide) rfl rfl ?_
  refine gj_abs (fun M5 e7 => ?_)
  have w6 : p_W [3, 4, 5, 6, 7, 8] [] M M5 := by rw [e7]; exact w2.up rfl
  have g8 : M5 3 0 = 0 := by rw [e7, gj_upne (by decide)]; exact g4
  have g9 : M5 3 1 = 0 := by rw [e7]; exact if_pos ⟨rfl, rfl⟩
  clear e7
  refine gj_aload_n (q := 11) (gj_dk okX5_clear 6 rfl) rfl rfl ?_
  refine gj_bipush (q := 13) (gj_dk okX5_clear 7 rfl) (by decide) rfl rfl ?_
  refine gj_pfI (q := 16) (j := 2) (gj_dk okX5_clear 8 rfl) ff_X5_37 (sh3 hst) (by decide) rfl rfl ?_
  refine gj_abs (fun M10 e12 => ?_)
  have w11 : p_W [3, 4, 5, 6, 7, 8] [] M M10 := by rw [e12]; exact w6.up rfl
  have g13 : M10 3 0 = 0 := by rw [e12, gj_upne (by decide)]; exact g8
  have g14 : M10 3 1 = 0 := by rw [e12, gj_upne (by decide)]; exact g9
  clear e12
  refine gj_aload_n (q := 17) (gj_dk okX5_clear 9 rfl) rfl rfl ?_
  refine gj_iconst (q := 18) (gj_dk okX5_clear 10 rfl) (by decide) rfl ?_
  refine gj_pfI (q := 21) (j := 3) (gj_dk okX5_clear 11 rfl) ff_X5_40 (sh3 hst) (by decide) rfl rfl ?_
  refine gj_abs (fun M15 e17 => ?_)
  have w16 : p_W [3, 4, 5, 6, 7, 8] [] M M15 := by rw [e17]; exact w11.up rfl
  have g18 : M15 3 0 = 0 := by rw [e17, gj_upne (by decide)]; exact g13
  have g19 : M15 3 1 = 0 := by rw [e17, gj_upne (by decide)]; exact g14
  clear e17
  refine gj_aload_n (q := 22) (gj_dk okX5_clear 12 rfl) rfl rfl ?_
  refine gj_iconst (q := 23) (gj_dk okX5_clear 13 rfl) (by decide) rfl ?_
  refine gj_pfI (q := 26) (j := 4) (gj_dk okX5_clear 14 rfl) ff_X5_43 (sh3 hst) (by decide) rfl rfl ?_
  refine gj_abs (fun M20 e22 => ?_)
  have w21 : p_W [3, 4, 5, 6, 7, 8] [] M M20 := by rw [e22]; exact w16.up rfl
  have g23 : M20 3 0 = 0 := by rw [e22, gj_upne (by decide)]; exact g18
  have g24 : M20 3 1 = 0 := by rw [e22, gj_upne (by decide)]; exact g19
  clear e22
  refine gj_aload_n (q := 27) (gj_dk okX5_clear 15 rfl) rfl rfl ?_
  refine gj_iconst (q := 28) (gj_dk okX5_clear 16 rfl) (by decide) rfl ?_
  refine gj_pfI (q := 31) (j := 5) (gj_dk okX5_clear 17 rfl) ff_X5_46 (sh3 hst) (by decide) rfl rfl ?_
  refine gj_abs (fun M25 e27 => ?_)
  have w26 : p_W [3, 4, 5, 6, 7, 8] [] M M25 := by rw [e27]; exact w21.up rfl
  have g28 : M25 3 0 = 0 := by rw [e27, gj_upne (by decide)]; exact g23
  have g29 : M25 3 1 = 0 := by rw [e27, gj_upne (by decide)]; exact g24
  clear e27
  refine gj_aload_n (q := 32) (gj_dk okX5_clear 18 rfl) rfl rfl ?_
  refine gj_iconst (q := 33) (gj_dk okX5_clear 19 rfl) (by decide) rfl ?_
  refine gj_pfI (q := 36) (j := 6) (gj_dk okX5_clear 20 rfl) ff_X5_49 (sh3 hst) (by decide) rfl rfl ?_
  refine gj_abs (fun M30 e32 => ?_)
  have w31 : p_W [3, 4, 5, 6, 7, 8] [] M M30 := by rw [e32]; exact w26.up rfl
  have g33 : M30 3 0 = 0 := by rw [e32, gj_upne (by decide)]; exact g28
  have g34 : M30 3 1 = 0 := by rw [e32, gj_upne (by decide)]; exact g29
  clear e32
  refine gj_aload_n (q := 37) (gj_dk okX5_clear 21 rfl) rfl rfl ?_
  refine gj_iconst (q := 38) (gj_dk okX5_clear 22 rfl) (by decide) rfl ?_
  refine gj_pfI (q := 41) (j := 7) (gj_dk okX5_clear 23 rfl) ff_X5_52 (sh3 hst) (by decide) rfl rfl ?_
  refine gj_abs (fun M35 e37 => ?_)
  have w36 : p_W [3, 4, 5, 6, 7, 8] [] M M35 := by rw [e37]; exact w31.up rfl
  have g38 : M35 3 0 = 0 := by rw [e37, gj_upne (by decide)]; exact g33
  have g39 : M35 3 1 = 0 := by rw [e37, gj_upne (by decide)]; exact g34
  clear e37
  refine gj_aload_n (q := 42) (gj_dk okX5_clear 24 rfl) rfl rfl ?_
  refine gj_iconst (q := 43) (gj_dk okX5_clear 25 rfl) (by decide) rfl ?_
  refine gj_pfI (q := 46) (j := 8) (gj_dk okX5_clear 26 rfl) ff_X5_55 (sh3 hst) (by decide) rfl rfl ?_
  refine gj_abs (fun M40 e42 => ?_)
  have w41 : p_W [3, 4, 5, 6, 7, 8] [] M M40 := by rw [e42]; exact w36.up rfl
  have g43 : M40 3 0 = 0 := by rw [e42, gj_upne (by decide)]; exact g38
  have g44 : M40 3 1 = 0 := by rw [e42, gj_upne (by decide)]; exact g39
  clear e42
  refine gj_aload_n (q := 47) (gj_dk okX5_clear 27 rfl) rfl rfl ?_
  refine gj_iconst (q := 48) (gj_dk okX5_clear 28 rfl) (by decide) rfl ?_
  refine gj_pfI (q := 51) (j := 9) (gj_dk okX5_clear 29 rfl) ff_X5_58 (sh3 hst) (by decide) rfl rfl ?_
  refine gj_abs (fun M45 e47 => ?_)
  have w46 : p_W [3, 4, 5, 6, 7, 8] [] M M45 := by rw [e47]; exact w41.up rfl
  have g48 : M45 3 0 = 0 := by rw [e47, gj_upne (by decide)]; exact g43
  have g49 : M45 3 1 = 0 := by rw [e47, gj_upne (by decide)]; exact g44
  clear e47
  refine gj_aload_n (q := 52) (gj_dk okX5_clear 30 rfl) rfl rfl ?_
  refine gj_gR (q := 55) (j := 10) (gj_dk okX5_clear 31 rfl) ff_X5_9 (sh3 hst) (by decide) rfl (rf3_10 hst) rfl ?_
  refine gj_iconst (q := 56) (gj_dk okX5_clear 32 rfl) (by decide) rfl ?_
  refine gj_callS (q := 59) [jR 4, jI 0] rfl (c_X7_fill (sh4 hst) (by decide) (by decide) _) (gj_dk okX5_clear 33 rfl) ml_X5_61 me_X7_fill (gj_nm rfl) rfl (gj_kV fun S2 M2 h50 => ?_)
  obtain ⟨eS, eM⟩ := h50; subst eS
  have w53 : p_W [3, 4, 5, 6, 7, 8] [] M M2 := by rw [← eM]; exact w46.fill rfl
  have g54 : M2 3 0 = 0 := by rw [← eM, f_fill_ne (by decide)]; exact g48
  have g55 : M2 3 1 = 0 := by rw [← eM, f_fill_ne (by decide)]; exact g49
  clear eM
  generalize M2 = M52 at *
  refine gj_aload_n (q := 60) (gj_dk okX5_clear 34 rfl) rfl rfl ?_
  refine gj_gR (q := 63) (j := 11) (gj_dk okX5_clear 35 rfl) ff_X5_15 (sh3 hst) (by decide) rfl (rf3_11 hst) rfl ?_
  refine gj_bipush (q := 65) (gj_dk okX5_clear 36 rfl) (by decide) rfl rfl ?_
  refine gj_callS (q := 68) [jR 5, jI 8] rfl (c_X7_fill (sh5 hst) (by decide) (by decide) _) (gj_dk okX5_clear 37 rfl) ml_X5_61 me_X7_fill (gj_nm rfl) rfl (gj_kV fun S2 M2 h56 => ?_)
  obtain ⟨eS, eM⟩ := h56; subst eS
  have w59 : p_W [3, 4, 5, 6, 7, 8] [] M M2 := by rw [← eM]; exact w53.fill rfl
  have g60 : M2 3 0 = 0 := by rw [← eM, f_fill_ne (by decide)]; exact g54
  have g61 : M2 3 1 = 0 := by rw [← eM, f_fill_ne (by decide)]; exact g55
  clear eM
  generalize M2 = M58 at *
  refine gj_aload_n (q := 69) (gj_dk okX5_clear 38 rfl) rfl rfl ?_
  refine gj_gR (q := 72) (j := 12) (gj_dk okX5_clear 39 rfl) ff_X5_18 (sh3 hst) (by decide) rfl (rf3_12 hst) rfl ?_
  refine gj_bipush (q := 74) (gj_dk okX5_clear 40 rfl) (by decide) rfl rfl ?_
  refine gj_callS (q := 77) [jR 6, jI 12] rfl (c_X7_fill (sh6 hst) (by decide) (by decide) _) (gj_dk okX5_clear 41 rfl) ml_X5_61 me_X7_fill (gj_nm rfl) rfl (gj_kV fun S2 M2 h62 => ?_)
  obtain ⟨eS, eM⟩ := h62; subst eS
  have w65 : p_W [3, 4, 5, 6, 7, 8] [] M M2 := by rw [← eM]; exact w59.fill rfl
  have g66 : M2 3 0 = 0 := by rw [← eM, f_fill_ne (by decide)]; exact g60
  have g67 : M2 3 1 = 0 := by rw [← eM, f_fill_ne (by decide)]; exact g61
  clear eM
  generalize M2 = M64 at *
  refine gj_aload_n (q := 78) (gj_dk okX5_clear 42 rfl) rfl rfl ?_
  refine gj_gR (q := 81) (j := 13) (gj_dk okX5_clear 43 rfl) ff_X5_21 (sh3 hst) (by decide) rfl (rf3_13 hst) rfl ?_
  refine gj_iconst (q := 82) (gj_dk okX5_clear 44 rfl) (by decide) rfl ?_
  refine gj_callS (q := 85) [jR 7, jI 4] rfl (c_X7_fill (sh7 hst) (by decide) (by decide) _) (gj_dk okX5_clear 45 rfl) ml_X5_61 me_X7_fill (gj_nm rfl) rfl (gj_kV fun S2 M2 h68 => ?_)
  obtain ⟨eS, eM⟩ := h68; subst eS
  have w71 : p_W [3, 4, 5, 6, 7, 8] [] M M2 := by rw [← eM]; exact w65.fill rfl
  have g72 : M2 3 0 = 0 := by rw [← eM, f_fill_ne (by decide)]; exact g66
  have g73 : M2 3 1 = 0 := by rw [← eM, f_fill_ne (by decide)]; exact g67
  clear eM
  generalize M2 = M70 at *
  refine gj_aload_n (q := 86) (gj_dk okX5_clear 46 rfl) rfl rfl ?_
  refine gj_gR (q := 89) (j := 14) (gj_dk okX5_clear 47 rfl) ff_X5_24 (sh3 hst) (by decide) rfl (rf3_14 hst) rfl ?_
  refine gj_bipush (q := 91) (gj_dk okX5_clear 48 rfl) (by decide) rfl rfl ?_
  refine gj_callS (q := 94) [jR 8, jI 8] rfl (c_X7_fill (sh8 hst) (by decide) (by decide) _) (gj_dk okX5_clear 49 rfl) ml_X5_61 me_X7_fill (gj_nm rfl) rfl (gj_kV fun S2 M2 h74 => ?_)
  obtain ⟨eS, eM⟩ := h74; subst eS
  have w77 : p_W [3, 4, 5, 6, 7, 8] [] M M2 := by rw [← eM]; exact w71.fill rfl
  have g78 : M2 3 0 = 0 := by rw [← eM, f_fill_ne (by decide)]; exact g72
  have g79 : M2 3 1 = 0 := by rw [← eM, f_fill_ne (by decide)]; exact g73
  clear eM
  generalize M2 = M76 at *
  exact gj_vret (gj_dk okX5_clear 50 rfl) rfl ⟨rfl, rfl, w77, g78, g79⟩
set_option maxHeartbeats 4000000 in
set_option maxRecDepth 20000 in
theorem q_X6_read (hst : gj_Stat S) (h : p_F 0 [1, 2, 3, 4, 5, 6, 7, 8, 10, 12, 13, 36, 37, 78] [] M)  (n0 : M 1 1 = 0)  : gj_C G l 4 0 0 yX6_read cX6_read 2 (some .int) [jR 10] S M (gj_qI fun x S' M' => 0 = x ∧ S = S' ∧ p_W [3, 4, 5, 6, 7, 8, 10, 12, 13] [] M M') := by
  refine gj_Cof (by decide +kernel) (Nat.le_of_ble_eq_true rfl) ?_
  change gj_W G l 4 0 0 yX6_read cX6_read 2 (some .int) (gj_qI fun x S' M' => 0 = x ∧ S = S' ∧ p_W [3, 4, 5, 6, 7, 8, 10, 12, 13] [] M M') 0 0 0 [(0, jR 10)] [] S M
  have w0 : p_W [3, 4, 5, 6, 7, 8, 10, 12, 13] [] M M := fun _ _ _ _ _ => rfl
  refine gj_aload_n (q := 1) (gj_dk okX6_read 0 rfl) rfl rfl ?_
  refine gj_gR (q := 4) (j := 1) (gj_dk okX6_read 1 rfl) ff_X6_26 (sh10 hst) (by decide) rfl (rf10_1 hst) rfl ?_
  refine gj_callV (q := 7) (z := 3) (ci := 5) [] rfl (q_X5_clear hst (h.of p_W.rf rfl)   ) (gj_dk okX6_read 2 rfl) ml_X6_30 me_X5_clear (sh3 hst) rfl (gj_nm rfl) rfl (gj_kV fun S2 M2 h1 => ?_)
  obtain ⟨eS, wc, fo0, fo1⟩ := h1
  subst eS
  have w4 : p_W [3, 4, 5, 6, 7, 8, 10, 12, 13] [] M M2 := w0.trans (wc.wide rfl)
  have g5 : M2 1 1 = 0 := (wc 1 1 rfl rfl rfl).trans n0
  have g6 : M2 3 0 = 0 := fo0
  have g7 : M2 3 1 = 0 := fo1
  clear wc fo0 fo1
  generalize M2 = M3 at *
  refine gj_aload_n (q := 8) (gj_dk okX6_read 3 rfl) rfl rfl ?_
  refine gj_iconst (q := 9) (gj_dk okX6_read 4 rfl) (by decide) rfl ?_
  refine gj_pfI (q := 12) (j := 5) (gj_dk okX6_read 5 rfl) ff_X6_35 (sh10 hst) (by decide) rfl rfl ?_
  refine gj_abs (fun M8 e10 => ?_)
  have w9 : p_W [3, 4, 5, 6, 7, 8, 10, 12, 13] [] M M8 := by rw [e10]; exact w4.up rfl
  have g11 : M8 1 1 = 0 := by rw [e10, gj_upne (by decide)]; exact g5
  have g12 : M8 3 0 = 0 := by rw [e10, gj_upne (by decide)]; exact g6
  have g13 : M8 3 1 = 0 := by rw [e10, gj_upne (by decide)]; exact g7
  clear e10
  refine gj_aload_n (q := 13) (gj_dk okX6_read 6 rfl) rfl rfl ?_
  refine gj_iconst (q := 14) (gj_dk okX6_read 7 rfl) (by decide) rfl ?_
  refine gj_pfI (q := 17) (j := 8) (gj_dk okX6_read 8 rfl) ff_X6_39 (sh10 hst) (by decide) rfl rfl ?_
  refine gj_abs (fun M14 e16 => ?_)
  have w15 : p_W [3, 4, 5, 6, 7, 8, 10, 12, 13] [] M M14 := by rw [e16]; exact w9.up rfl
  have g17 : M14 1 1 = 0 := by rw [e16, gj_upne (by decide)]; exact g11
  have g18 : M14 3 0 = 0 := by rw [e16, gj_upne (by decide)]; exact g12
  have g19 : M14 3 1 = 0 := by rw [e16, gj_upne (by decide)]; exact g13
  have g20 : M14 10 8 = 0 := by rw [e16]; exact if_pos ⟨rfl, rfl⟩
  clear e16
  refine gj_aload_n (q := 18) (gj_dk okX6_read 9 rfl) rfl rfl ?_
  refine gj_gR (q := 21) (j := 3) (gj_dk okX6_read 10 rfl) ff_X6_15 (sh10 hst) (by decide) rfl (rf10_3 hst) rfl ?_
  refine gj_callS (q := 24) [jR 12] rfl (c_X7_unmark (sh12 hst) (by decide) (by decide)) (gj_dk okX6_read 11 rfl) ml_X6_42 me_X7_unmark (gj_nm rfl) rfl (gj_kV fun S2 M2 h21 => ?_)
  obtain ⟨eS, eM⟩ := h21; subst eS
  have w24 : p_W [3, 4, 5, 6, 7, 8, 10, 12, 13] [] M M2 := by rw [← eM]; exact w15.fill rfl
  have g25 : M2 1 1 = 0 := by rw [← eM, f_fill_ne (by decide)]; exact g17
  have g26 : M2 3 0 = 0 := by rw [← eM, f_fill_ne (by decide)]; exact g18
  have g27 : M2 3 1 = 0 := by rw [← eM, f_fill_ne (by decide)]; exact g19
  have g28 : M2 10 8 = 0 := by rw [← eM, f_fill_ne (by decide)]; exact g20
  clear eM
  generalize M2 = M23 at *
  refine gj_aload_n (q := 25) (gj_dk okX6_read 12 rfl) rfl rfl ?_
  refine gj_gR (q := 28) (j := 4) (gj_dk okX6_read 13 rfl) ff_X6_19 (sh10 hst) (by decide) rfl (rf10_4 hst) rfl ?_
  refine gj_callS (q := 31) [jR 13] rfl (c_X7_unmark (sh13 hst) (by decide) (by decide)) (gj_dk okX6_read 14 rfl) ml_X6_42 me_X7_unmark (gj_nm rfl) rfl (gj_kV fun S2 M2 h29 => ?_)
  obtain ⟨eS, eM⟩ := h29; subst eS
  have w32 : p_W [3, 4, 5, 6, 7, 8, 10, 12, 13] [] M M2 := by rw [← eM]; exact w24.fill rfl
  have g33 : M2 1 1 = 0 := by rw [← eM, f_fill_ne (by decide)]; exact g25
  have g34 : M2 3 0 = 0 := by rw [← eM, f_fill_ne (by decide)]; exact g26
  have g35 : M2 3 1 = 0 := by rw [← eM, f_fill_ne (by decide)]; exact g27
  have g36 : M2 10 8 = 0 := by rw [← eM, f_fill_ne (by decide)]; exact g28
  clear eM
  generalize M2 = M31 at *
  refine gj_aload_n (q := 32) (gj_dk okX6_read 15 rfl) rfl rfl ?_
  refine gj_callV (q := 35) (z := 10) (ci := 6) [] rfl (q_X6_scan hst (h.of w32 rfl) g33 g36  ) (gj_dk okX6_read 16 rfl) ml_X6_48 me_X6_scan (sh10 hst) rfl (gj_nm rfl) rfl (gj_kV fun S2 M2 h37 => ?_)
  obtain ⟨eS, wc, fo0, fo1⟩ := h37
  subst eS
  have w40 : p_W [3, 4, 5, 6, 7, 8, 10, 12, 13] [] M M2 := w32.trans (wc.wide rfl)
  have g41 : M2 1 1 = 0 := (wc 1 1 rfl rfl rfl).trans g33
  have g42 : M2 3 0 = 0 := (wc 3 0 rfl rfl rfl).trans g34
  have g43 : M2 3 1 = 0 := (wc 3 1 rfl rfl rfl).trans g35
  have g44 : M2 10 6 = 0 := fo0
  have g45 : M2 10 7 = 0 := fo1
  clear wc fo0 fo1
  generalize M2 = M39 at *
  refine gj_iconst (q := 36) (gj_dk okX6_read 17 rfl) (by decide) rfl ?_
  refine gj_istore_n (q := 37) (gj_dk okX6_read 18 rfl) (by decide) rfl ?_
  refine gj_iload_n (q := 38) (gj_dk okX6_read 19 rfl) rfl rfl ?_
  refine gj_aload_n (q := 39) (gj_dk okX6_read 20 rfl) rfl rfl ?_
  refine gj_gR (q := 42) (j := 0) (gj_dk okX6_read 21 rfl) ff_X6_22 (sh10 hst) (by decide) rfl (rf10_0 hst) rfl ?_
  refine gj_callV (q := 45) (z := 1) (ci := 8) [] rfl (q_X9_length hst (h.of w40 rfl) g41  ) (gj_dk okX6_read 22 rfl) ml_X6_51 me_X9_length (sh1 hst) rfl (gj_nm rfl) rfl (gj_kI fun x47 S2 M2 h46 => ?_)
  obtain ⟨ex47, eS, eM⟩ := h46
  subst eS
  subst eM
  subst ex47
  refine gj_icmp_gt (q := 48) (tgt := 73) (gj_dk okX6_read 23 rfl) (by decide) rfl (fun cc => absurd cc (by decide)) (fun _ => ?_)
  refine gj_aload_n (q := 49) (gj_dk okX6_read 24 rfl) rfl rfl ?_
  refine gj_gI (q := 52) (j := 6) (gj_dk okX6_read 25 rfl) ff_X6_57 (sh10 hst) (by decide) rfl rfl ?_
  rw [show M39 10 6 = 0 from g44]
  refine gj_if_eq (q := 55) (tgt := 73) (gj_dk okX6_read 26 rfl) (by decide) rfl (fun _ => ?_) (fun cc => absurd cc (by decide))
  refine gj_aload_n (q := 74) (gj_dk okX6_read 35 rfl) rfl rfl ?_
  refine gj_gR (q := 77) (j := 1) (gj_dk okX6_read 36 rfl) ff_X6_26 (sh10 hst) (by decide) rfl (rf10_1 hst) rfl ?_
  refine gj_callV (q := 80) (z := 3) (ci := 5) [] rfl (q_X5_stands_3 hst (h.of w40 rfl) g42 g43  ) (gj_dk okX6_read 37 rfl) ml_X6_67 me_X5_stands (sh3 hst) rfl (gj_nm rfl) rfl (gj_kI fun x49 S2 M2 h48 => ?_)
  obtain ⟨ex49, eS, eM⟩ := h48
  subst eS
  subst eM
  subst ex49
  refine gj_if_eq (q := 83) (tgt := 87) (gj_dk okX6_read 38 rfl) (by decide) rfl (fun _ => ?_) (fun cc => absurd cc (by decide))
  refine gj_aload_n (q := 88) (gj_dk okX6_read 41 rfl) rfl rfl ?_
  refine gj_gR (q := 91) (j := 0) (gj_dk okX6_read 42 rfl) ff_X6_22 (sh10 hst) (by decide) rfl (rf10_0 hst) rfl ?_
  refine gj_callV (q := 94) (z := 1) (ci := 8) [] rfl (q_X9_length hst (h.of w40 rfl) g41  ) (gj_dk okX6_read 43 rfl) ml_X6_51 me_X9_length (sh1 hst) rfl (gj_nm rfl) rfl (gj_kI fun x51 S2 M2 h50 => ?_)
  obtain ⟨ex51, eS, eM⟩ := h50
  subst eS
  subst eM
  subst ex51
  exact gj_iret (gj_dk okX6_read 44 rfl) rfl ⟨_, rfl, rfl, rfl, w40⟩
set_option maxHeartbeats 4000000 in
set_option maxRecDepth 20000 in
theorem q_X3_pairsOf (hst : gj_Stat S) (h : p_F 0 [1, 2, 3, 4, 5, 6, 7, 8, 10, 12, 13, 36, 37, 78] [] M)  (a1 : Int)  : gj_C G l 2 0 0 yX3_pairsOf cX3_pairsOf 4 (some .int) [jR 21, jI a1] S M (gj_qI fun x S' M' => 0 = x ∧ S = S' ∧ M = M') := by
  refine gj_Cof (by decide +kernel) (Nat.le_of_ble_eq_true rfl) ?_
  change gj_W G l 2 0 0 yX3_pairsOf cX3_pairsOf 4 (some .int) (gj_qI fun x S' M' => 0 = x ∧ S = S' ∧ M = M') 0 0 0 [(0, jR 21), (1, jI a1)] [] S M
  refine gj_iconst (q := 1) (gj_dk okX3_pairsOf 0 rfl) (by decide) rfl ?_
  refine gj_istore_n (q := 2) (gj_dk okX3_pairsOf 1 rfl) (by decide) rfl ?_
  refine gj_iconst (q := 3) (gj_dk okX3_pairsOf 2 rfl) (by decide) rfl ?_
  refine gj_istore_n (q := 4) (gj_dk okX3_pairsOf 3 rfl) (by decide) rfl ?_
  refine gj_iload_n (q := 5) (gj_dk okX3_pairsOf 4 rfl) rfl rfl ?_
  refine gj_iconst (q := 6) (gj_dk okX3_pairsOf 5 rfl) (by decide) rfl ?_
  refine gj_icmp_ge (q := 9) (tgt := 42) (gj_dk okX3_pairsOf 6 rfl) (by decide) rfl (fun cc => absurd cc (by decide)) (fun _ => ?_)
  refine gj_aload_n (q := 10) (gj_dk okX3_pairsOf 7 rfl) rfl rfl ?_
  refine gj_gR (q := 13) (j := 3) (gj_dk okX3_pairsOf 8 rfl) ff_X3_9 (sh21 hst) (by decide) rfl (rf21_3 hst) rfl ?_
  refine gj_iload_n (q := 14) (gj_dk okX3_pairsOf 9 rfl) rfl rfl ?_
  refine gj_callS (q := 17) [jR 22, jI 0] rfl (c_X7_at (sh22 hst) (by decide) (by decide) _) (gj_dk okX3_pairsOf 10 rfl) ml_X3_75 me_X7_at (gj_nm rfl) rfl (gj_kI fun x2 S2 M2 h1 => ?_)
  obtain ⟨ex2, eS, eM⟩ := h1; subst eS; subst eM; subst ex2
  rw [show f_at M 22 8 0 = -1 from (if_pos (by decide)).trans (h.get 22 0 rfl rfl rfl (v := -1) (by decide))]
  refine gj_iconst (q := 18) (gj_dk okX3_pairsOf 11 rfl) (by decide) rfl ?_
  refine gj_icmp_eq (q := 21) (tgt := 36) (gj_dk okX3_pairsOf 12 rfl) (by decide) rfl (fun _ => ?_) (fun cc => absurd cc (by decide))
  refine gj_iinc (q := 39) (v := 1) (gj_dk okX3_pairsOf 20 rfl) rfl (by decide) rfl rfl ?_
  refine gj_goto (tgt := 4) (gj_dk okX3_pairsOf 21 rfl) (by decide) ?_
  refine gj_iload_n (q := 5) (gj_dk okX3_pairsOf 4 rfl) rfl rfl ?_
  refine gj_iconst (q := 6) (gj_dk okX3_pairsOf 5 rfl) (by decide) rfl ?_
  refine gj_icmp_ge (q := 9) (tgt := 42) (gj_dk okX3_pairsOf 6 rfl) (by decide) rfl (fun cc => absurd cc (by decide)) (fun _ => ?_)
  refine gj_aload_n (q := 10) (gj_dk okX3_pairsOf 7 rfl) rfl rfl ?_
  refine gj_gR (q := 13) (j := 3) (gj_dk okX3_pairsOf 8 rfl) ff_X3_9 (sh21 hst) (by decide) rfl (rf21_3 hst) rfl ?_
  refine gj_iload_n (q := 14) (gj_dk okX3_pairsOf 9 rfl) rfl rfl ?_
  refine gj_callS (q := 17) [jR 22, jI 1] rfl (c_X7_at (sh22 hst) (by decide) (by decide) _) (gj_dk okX3_pairsOf 10 rfl) ml_X3_75 me_X7_at (gj_nm rfl) rfl (gj_kI fun x4 S2 M2 h3 => ?_)
  obtain ⟨ex4, eS, eM⟩ := h3; subst eS; subst eM; subst ex4
  rw [show f_at M 22 8 1 = -1 from (if_pos (by decide)).trans (h.get 22 1 rfl rfl rfl (v := -1) (by decide))]
  refine gj_iconst (q := 18) (gj_dk okX3_pairsOf 11 rfl) (by decide) rfl ?_
  refine gj_icmp_eq (q := 21) (tgt := 36) (gj_dk okX3_pairsOf 12 rfl) (by decide) rfl (fun _ => ?_) (fun cc => absurd cc (by decide))
  refine gj_iinc (q := 39) (v := 2) (gj_dk okX3_pairsOf 20 rfl) rfl (by decide) rfl rfl ?_
  refine gj_goto (tgt := 4) (gj_dk okX3_pairsOf 21 rfl) (by decide) ?_
  refine gj_iload_n (q := 5) (gj_dk okX3_pairsOf 4 rfl) rfl rfl ?_
  refine gj_iconst (q := 6) (gj_dk okX3_pairsOf 5 rfl) (by decide) rfl ?_
  refine gj_icmp_ge (q := 9) (tgt := 42) (gj_dk okX3_pairsOf 6 rfl) (by decide) rfl (fun cc => absurd cc (by decide)) (fun _ => ?_)
  refine gj_aload_n (q := 10) (gj_dk okX3_pairsOf 7 rfl) rfl rfl ?_
  refine gj_gR (q := 13) (j := 3) (gj_dk okX3_pairsOf 8 rfl) ff_X3_9 (sh21 hst) (by decide) rfl (rf21_3 hst) rfl ?_
  refine gj_iload_n (q := 14) (gj_dk okX3_pairsOf 9 rfl) rfl rfl ?_
  refine gj_callS (q := 17) [jR 22, jI 2] rfl (c_X7_at (sh22 hst) (by decide) (by decide) _) (gj_dk okX3_pairsOf 10 rfl) ml_X3_75 me_X7_at (gj_nm rfl) rfl (gj_kI fun x6 S2 M2 h5 => ?_)
  obtain ⟨ex6, eS, eM⟩ := h5; subst eS; subst eM; subst ex6
  rw [show f_at M 22 8 2 = -1 from (if_pos (by decide)).trans (h.get 22 2 rfl rfl rfl (v := -1) (by decide))]
  refine gj_iconst (q := 18) (gj_dk okX3_pairsOf 11 rfl) (by decide) rfl ?_
  refine gj_icmp_eq (q := 21) (tgt := 36) (gj_dk okX3_pairsOf 12 rfl) (by decide) rfl (fun _ => ?_) (fun cc => absurd cc (by decide))
  refine gj_iinc (q := 39) (v := 3) (gj_dk okX3_pairsOf 20 rfl) rfl (by decide) rfl rfl ?_
  refine gj_goto (tgt := 4) (gj_dk okX3_pairsOf 21 rfl) (by decide) ?_
  refine gj_iload_n (q := 5) (gj_dk okX3_pairsOf 4 rfl) rfl rfl ?_
  refine gj_iconst (q := 6) (gj_dk okX3_pairsOf 5 rfl) (by decide) rfl ?_
  refine gj_icmp_ge (q := 9) (tgt := 42) (gj_dk okX3_pairsOf 6 rfl) (by decide) rfl (fun cc => absurd cc (by decide)) (fun _ => ?_)
  refine gj_aload_n (q := 10) (gj_dk okX3_pairsOf 7 rfl) rfl rfl ?_
  refine gj_gR (q := 13) (j := 3) (gj_dk okX3_pairsOf 8 rfl) ff_X3_9 (sh21 hst) (by decide) rfl (rf21_3 hst) rfl ?_
  refine gj_iload_n (q := 14) (gj_dk okX3_pairsOf 9 rfl) rfl rfl ?_
  refine gj_callS (q := 17) [jR 22, jI 3] rfl (c_X7_at (sh22 hst) (by decide) (by decide) _) (gj_dk okX3_pairsOf 10 rfl) ml_X3_75 me_X7_at (gj_nm rfl) rfl (gj_kI fun x8 S2 M2 h7 => ?_)
  obtain ⟨ex8, eS, eM⟩ := h7; subst eS; subst eM; subst ex8
  rw [show f_at M 22 8 3 = -1 from (if_pos (by decide)).trans (h.get 22 3 rfl rfl rfl (v := -1) (by decide))]
  refine gj_iconst (q := 18) (gj_dk okX3_pairsOf 11 rfl) (by decide) rfl ?_
  refine gj_icmp_eq (q := 21) (tgt := 36) (gj_dk okX3_pairsOf 12 rfl) (by decide) rfl (fun _ => ?_) (fun cc => absurd cc (by decide))
  refine gj_iinc (q := 39) (v := 4) (gj_dk okX3_pairsOf 20 rfl) rfl (by decide) rfl rfl ?_
  refine gj_goto (tgt := 4) (gj_dk okX3_pairsOf 21 rfl) (by decide) ?_
  refine gj_iload_n (q := 5) (gj_dk okX3_pairsOf 4 rfl) rfl rfl ?_
  refine gj_iconst (q := 6) (gj_dk okX3_pairsOf 5 rfl) (by decide) rfl ?_
  refine gj_icmp_ge (q := 9) (tgt := 42) (gj_dk okX3_pairsOf 6 rfl) (by decide) rfl (fun _ => ?_) (fun cc => absurd cc (by decide))
  refine gj_iload_n (q := 43) (gj_dk okX3_pairsOf 22 rfl) rfl rfl ?_
  exact gj_iret (gj_dk okX3_pairsOf 23 rfl) rfl ⟨_, rfl, rfl, rfl, rfl⟩
set_option maxHeartbeats 4000000 in
set_option maxRecDepth 20000 in
theorem q_X1_size (hst : gj_Stat S) (h : p_F 0 [1, 2, 3, 4, 5, 6, 7, 8, 10, 12, 13, 36, 37, 78] [] M)   : gj_C G l 1 0 0 yX1_size cX1_size 1 (some .int) [jR 29] S M (gj_qI fun x S' M' => 0 = x ∧ S = S' ∧ M = M') := by
  refine gj_Cof (by decide +kernel) (Nat.le_of_ble_eq_true rfl) ?_
  change gj_W G l 1 0 0 yX1_size cX1_size 1 (some .int) (gj_qI fun x S' M' => 0 = x ∧ S = S' ∧ M = M') 0 0 0 [(0, jR 29)] [] S M
  refine gj_aload_n (q := 1) (gj_dk okX1_size 0 rfl) rfl rfl ?_
  refine gj_gI (q := 4) (j := 2) (gj_dk okX1_size 1 rfl) ff_X1_15 (sh29 hst) (by decide) rfl rfl ?_
  rw [show M 29 2 = 0 from (h.get 29 2 rfl rfl rfl (v := 0) (by decide))]
  exact gj_iret (gj_dk okX1_size 2 rfl) rfl ⟨_, rfl, rfl, rfl, rfl⟩
set_option maxHeartbeats 4000000 in
set_option maxRecDepth 20000 in
theorem q_X1_tell (hst : gj_Stat S) (h : p_F 0 [1, 2, 3, 4, 5, 6, 7, 8, 10, 12, 13, 36, 37, 78] [] M)  (a1 a2 : Int)  : gj_C G l 2 0 0 yX1_tell cX1_tell 3 (some .int) [jR 29, jI a1, jI a2] S M (gj_qI fun x S' M' => -1 = x ∧ S = S' ∧ M = M') := by
  refine gj_Cof (by decide +kernel) (Nat.le_of_ble_eq_true rfl) ?_
  change gj_W G l 2 0 0 yX1_tell cX1_tell 3 (some .int) (gj_qI fun x S' M' => -1 = x ∧ S = S' ∧ M = M') 0 0 0 [(0, jR 29), (1, jI a1), (2, jI a2)] [] S M
  refine gj_iload_n (q := 1) (gj_dk okX1_tell 0 rfl) rfl rfl ?_
  refine gj_if_lt (q := 4) (tgt := 21) (gj_dk okX1_tell 1 rfl) (by decide) rfl (fun c1 => ?_) (fun c1 => ?_)
  · -- 21
    refine gj_iconst (q := 22) (gj_dk okX1_tell 11 rfl) (by decide) rfl ?_
    exact gj_iret (gj_dk okX1_tell 12 rfl) rfl ⟨_, rfl, rfl, rfl, rfl⟩
  · -- 4
    refine gj_iload_n (q := 5) (gj_dk okX1_tell 2 rfl) rfl rfl ?_
    refine gj_aload_n (q := 6) (gj_dk okX1_tell 3 rfl) rfl rfl ?_
    refine gj_gI (q := 9) (j := 2) (gj_dk okX1_tell 4 rfl) ff_X1_15 (sh29 hst) (by decide) rfl rfl ?_
    rw [show M 29 2 = 0 from (h.get 29 2 rfl rfl rfl (v := 0) (by decide))]
    refine gj_icmp_ge (q := 12) (tgt := 21) (gj_dk okX1_tell 5 rfl) (by decide) rfl (fun c9 => ?_) (fun c9 => ?_)
    · -- 21
      refine gj_iconst (q := 22) (gj_dk okX1_tell 11 rfl) (by decide) rfl ?_
      exact gj_iret (gj_dk okX1_tell 12 rfl) rfl ⟨_, rfl, rfl, rfl, rfl⟩
    · exfalso; omega
set_option maxHeartbeats 4000000 in
set_option maxRecDepth 20000 in
theorem q_X11_feed (hst : gj_Stat S) (h : p_F 0 [] [] M)  (a1 a2 a3 a4 a5 : Int)  : gj_C G l 3 0 0 yX11_feed cX11_feed 6 (some .int) [jR 0, jI a1, jI a2, jI a3, jI a4, jI a5] S M (gj_qI fun x S' M' => 20 = x ∧ S = S' ∧ p_W [1, 2] [] M M') := by
  refine gj_Cof (by decide +kernel) (Nat.le_of_ble_eq_true rfl) ?_
  change gj_W G l 3 0 0 yX11_feed cX11_feed 6 (some .int) (gj_qI fun x S' M' => 20 = x ∧ S = S' ∧ p_W [1, 2] [] M M') 0 0 0 [(0, jR 0), (1, jI a1), (2, jI a2), (3, jI a3), (4, jI a4), (5, jI a5)] [] S M
  have w0 : p_W [1, 2] [] M M := fun _ _ _ _ _ => rfl
  refine gj_aload_n (q := 1) (gj_dk okX11_feed 0 rfl) rfl rfl ?_
  refine gj_gR (q := 4) (j := 0) (gj_dk okX11_feed 1 rfl) ff_X11_10 (sh0 hst) (by decide) rfl (rf0_0 hst) rfl ?_
  refine gj_bipush (q := 6) (gj_dk okX11_feed 2 rfl) (by decide) rfl rfl ?_
  refine gj_callV (q := 9) (z := 1) (ci := 8) [jI 20] rfl (q_X9_hasRoomFor hst (h.of p_W.rf rfl) (h.get 1 1 rfl rfl rfl (v := 0) (by decide))  ) (gj_dk okX11_feed 3 rfl) ml_X11_88 me_X9_hasRoomFor (sh1 hst) rfl (gj_nm rfl) rfl (gj_kI fun x2 S2 M2 h1 => ?_)
  obtain ⟨ex2, eS, eM⟩ := h1
  subst eS
  subst eM
  subst ex2
  refine gj_if_ne (q := 12) (tgt := 20) (gj_dk okX11_feed 4 rfl) (by decide) rfl (fun _ => ?_) (fun cc => absurd cc (by decide))
  refine gj_aload_n (q := 21) (gj_dk okX11_feed 11 rfl) rfl rfl ?_
  refine gj_gR (q := 24) (j := 0) (gj_dk okX11_feed 12 rfl) ff_X11_10 (sh0 hst) (by decide) rfl (rf0_0 hst) rfl ?_
  refine gj_iload_n (q := 25) (gj_dk okX11_feed 13 rfl) rfl rfl ?_
  refine gj_callV (q := 28) (z := 1) (ci := 8) [jI a1] rfl (q_X9_append hst (h.of p_W.rf rfl) (h.get 1 1 rfl rfl rfl (v := 0) (by decide)) _ (by first | decide | omega)) (gj_dk okX11_feed 14 rfl) ml_X11_95 me_X9_append (sh1 hst) rfl (gj_nm rfl) rfl (gj_kV fun S2 M2 h3 => ?_)
  obtain ⟨eS, wc, fo0⟩ := h3
  subst eS
  have w6 : p_W [1, 2] [] M M2 := w0.trans (wc.wide rfl)
  have g7 : M2 1 1 = 4 := fo0
  clear wc fo0
  generalize M2 = M5 at *
  refine gj_aload_n (q := 29) (gj_dk okX11_feed 15 rfl) rfl rfl ?_
  refine gj_gR (q := 32) (j := 0) (gj_dk okX11_feed 16 rfl) ff_X11_10 (sh0 hst) (by decide) rfl (rf0_0 hst) rfl ?_
  refine gj_iload_n (q := 33) (gj_dk okX11_feed 17 rfl) rfl rfl ?_
  refine gj_callV (q := 36) (z := 1) (ci := 8) [jI a2] rfl (q_X9_append hst (h.of w6 rfl) g7 _ (by first | decide | omega)) (gj_dk okX11_feed 18 rfl) ml_X11_95 me_X9_append (sh1 hst) rfl (gj_nm rfl) rfl (gj_kV fun S2 M2 h8 => ?_)
  obtain ⟨eS, wc, fo0⟩ := h8
  subst eS
  have w11 : p_W [1, 2] [] M M2 := w6.trans (wc.wide rfl)
  have g12 : M2 1 1 = 8 := fo0
  clear wc fo0
  generalize M2 = M10 at *
  refine gj_aload_n (q := 37) (gj_dk okX11_feed 19 rfl) rfl rfl ?_
  refine gj_gR (q := 40) (j := 0) (gj_dk okX11_feed 20 rfl) ff_X11_10 (sh0 hst) (by decide) rfl (rf0_0 hst) rfl ?_
  refine gj_iload_n (q := 41) (gj_dk okX11_feed 21 rfl) rfl rfl ?_
  refine gj_callV (q := 44) (z := 1) (ci := 8) [jI a3] rfl (q_X9_append hst (h.of w11 rfl) g12 _ (by first | decide | omega)) (gj_dk okX11_feed 22 rfl) ml_X11_95 me_X9_append (sh1 hst) rfl (gj_nm rfl) rfl (gj_kV fun S2 M2 h13 => ?_)
  obtain ⟨eS, wc, fo0⟩ := h13
  subst eS
  have w16 : p_W [1, 2] [] M M2 := w11.trans (wc.wide rfl)
  have g17 : M2 1 1 = 12 := fo0
  clear wc fo0
  generalize M2 = M15 at *
  refine gj_aload_n (q := 45) (gj_dk okX11_feed 23 rfl) rfl rfl ?_
  refine gj_gR (q := 48) (j := 0) (gj_dk okX11_feed 24 rfl) ff_X11_10 (sh0 hst) (by decide) rfl (rf0_0 hst) rfl ?_
  refine gj_iload (q := 50) (gj_dk okX11_feed 25 rfl) rfl rfl ?_
  refine gj_callV (q := 53) (z := 1) (ci := 8) [jI a4] rfl (q_X9_append hst (h.of w16 rfl) g17 _ (by first | decide | omega)) (gj_dk okX11_feed 26 rfl) ml_X11_95 me_X9_append (sh1 hst) rfl (gj_nm rfl) rfl (gj_kV fun S2 M2 h18 => ?_)
  obtain ⟨eS, wc, fo0⟩ := h18
  subst eS
  have w21 : p_W [1, 2] [] M M2 := w16.trans (wc.wide rfl)
  have g22 : M2 1 1 = 16 := fo0
  clear wc fo0
  generalize M2 = M20 at *
  refine gj_aload_n (q := 54) (gj_dk okX11_feed 27 rfl) rfl rfl ?_
  refine gj_gR (q := 57) (j := 0) (gj_dk okX11_feed 28 rfl) ff_X11_10 (sh0 hst) (by decide) rfl (rf0_0 hst) rfl ?_
  refine gj_iload (q := 59) (gj_dk okX11_feed 29 rfl) rfl rfl ?_
  refine gj_callV (q := 62) (z := 1) (ci := 8) [jI a5] rfl (q_X9_append hst (h.of w21 rfl) g22 _ (by first | decide | omega)) (gj_dk okX11_feed 30 rfl) ml_X11_95 me_X9_append (sh1 hst) rfl (gj_nm rfl) rfl (gj_kV fun S2 M2 h23 => ?_)
  obtain ⟨eS, wc, fo0⟩ := h23
  subst eS
  have w26 : p_W [1, 2] [] M M2 := w21.trans (wc.wide rfl)
  have g27 : M2 1 1 = 20 := fo0
  clear wc fo0
  generalize M2 = M25 at *
  refine gj_aload_n (q := 63) (gj_dk okX11_feed 31 rfl) rfl rfl ?_
  refine gj_gR (q := 66) (j := 0) (gj_dk okX11_feed 32 rfl) ff_X11_10 (sh0 hst) (by decide) rfl (rf0_0 hst) rfl ?_
  refine gj_callV (q := 69) (z := 1) (ci := 8) [] rfl (q_X9_length hst (h.of w26 rfl) g27  ) (gj_dk okX11_feed 33 rfl) ml_X11_99 me_X9_length (sh1 hst) rfl (gj_nm rfl) rfl (gj_kI fun x29 S2 M2 h28 => ?_)
  obtain ⟨ex29, eS, eM⟩ := h28
  subst eS
  subst eM
  subst ex29
  exact gj_iret (gj_dk okX11_feed 34 rfl) rfl ⟨_, rfl, rfl, rfl, w26⟩
set_option maxHeartbeats 4000000 in
set_option maxRecDepth 20000 in
theorem q_X11_end (hst : gj_Stat S) (h : p_F 0 [] [] M)  (a1 : Int)  : gj_C G l 3 0 0 yX11_end cX11_end 2 (some .boolean) [jR 0, jI a1] S M (gj_qI fun x S' M' => (if a1 = 0 then 1 else 0) = x ∧ S = S' ∧ p_W [1, 78] [] M M') := by
  refine gj_Cof (by decide +kernel) (Nat.le_of_ble_eq_true rfl) ?_
  change gj_W G l 3 0 0 yX11_end cX11_end 2 (some .boolean) (gj_qI fun x S' M' => (if a1 = 0 then 1 else 0) = x ∧ S = S' ∧ p_W [1, 78] [] M M') 0 0 0 [(0, jR 0), (1, jI a1)] [] S M
  have w0 : p_W [1, 78] [] M M := fun _ _ _ _ _ => rfl
  refine gj_iload_n (q := 1) (gj_dk okX11_end 0 rfl) rfl rfl ?_
  refine gj_if_lt (q := 4) (tgt := 15) (gj_dk okX11_end 1 rfl) (by decide) rfl (fun c1 => ?_) (fun c1 => ?_)
  · -- 15
    refine gj_aload_n (q := 16) (gj_dk okX11_end 7 rfl) rfl rfl ?_
    refine gj_iconst (q := 17) (gj_dk okX11_end 8 rfl) (by decide) rfl ?_
    refine gj_callV (q := 20) (z := 0) (ci := 9) [jI 2] rfl (q_X11_refuse hst (h.of p_W.rf rfl)  _ ) (gj_dk okX11_end 9 rfl) ml_X11_92 me_X11_refuse (sh0 hst) rfl (gj_nm rfl) rfl (gj_kI fun x2 S2 M2 h1 => ?_)
    obtain ⟨ex2, eS, wc⟩ := h1
    subst eS
    have w4 : p_W [1, 78] [] M M2 := w0.trans (wc.wide rfl)
    have g5 : M2 1 1 = 0 := (wc 1 1 rfl rfl rfl).trans (h.get 1 1 rfl rfl rfl (v := 0) (by decide))
    clear wc 
    generalize M2 = M3 at *
    subst ex2
    exact gj_zret (gj_dk okX11_end 10 rfl) rfl (by first | decide | assumption | omega) ⟨_, rfl, (by first | rfl | omega | ((repeat' split) <;> omega)), rfl, w4⟩
  · -- 4
    refine gj_iload_n (q := 5) (gj_dk okX11_end 2 rfl) rfl rfl ?_
    refine gj_aload_n (q := 6) (gj_dk okX11_end 3 rfl) rfl rfl ?_
    refine gj_gR (q := 9) (j := 0) (gj_dk okX11_end 4 rfl) ff_X11_10 (sh0 hst) (by decide) rfl (rf0_0 hst) rfl ?_
    refine gj_callV (q := 12) (z := 1) (ci := 8) [] rfl (q_X9_length hst (h.of p_W.rf rfl) (h.get 1 1 rfl rfl rfl (v := 0) (by decide))  ) (gj_dk okX11_end 5 rfl) ml_X11_99 me_X9_length (sh1 hst) rfl (gj_nm rfl) rfl (gj_kI fun x7 S2 M2 h6 => ?_)
    obtain ⟨ex7, eS, eM⟩ := h6
    subst eS
    subst eM
    subst ex7
    refine gj_icmp_le (q := 15) (tgt := 21) (gj_dk okX11_end 6 rfl) (by decide) rfl (fun c12 => ?_) (fun c12 => ?_)
    · -- 21
      refine gj_aload_n (q := 22) (gj_dk okX11_end 11 rfl) rfl rfl ?_
      refine gj_gR (q := 25) (j := 0) (gj_dk okX11_end 12 rfl) ff_X11_10 (sh0 hst) (by decide) rfl (rf0_0 hst) rfl ?_
      refine gj_iload_n (q := 26) (gj_dk okX11_end 13 rfl) rfl rfl ?_
      refine gj_callV (q := 29) (z := 1) (ci := 8) [jI a1] rfl (q_X9_cutTo hst (h.of p_W.rf rfl) (h.get 1 1 rfl rfl rfl (v := 0) (by decide)) _ ) (gj_dk okX11_end 14 rfl) ml_X11_103 me_X9_cutTo (sh1 hst) rfl (gj_nm rfl) rfl (gj_kV fun S2 M2 h8 => ?_)
      obtain ⟨eS, wc⟩ := h8
      subst eS
      have w11 : p_W [1, 78] [] M M2 := w0.trans (wc.wide rfl)
      clear wc 
      generalize M2 = M10 at *
      refine gj_iconst (q := 30) (gj_dk okX11_end 15 rfl) (by decide) rfl ?_
      exact gj_zret (gj_dk okX11_end 16 rfl) rfl (by first | decide | assumption | omega) ⟨_, rfl, (by first | rfl | omega | ((repeat' split) <;> omega)), rfl, w11⟩
    · -- 15
      refine gj_aload_n (q := 16) (gj_dk okX11_end 7 rfl) rfl rfl ?_
      refine gj_iconst (q := 17) (gj_dk okX11_end 8 rfl) (by decide) rfl ?_
      refine gj_callV (q := 20) (z := 0) (ci := 9) [jI 2] rfl (q_X11_refuse hst (h.of p_W.rf rfl)  _ ) (gj_dk okX11_end 9 rfl) ml_X11_92 me_X11_refuse (sh0 hst) rfl (gj_nm rfl) rfl (gj_kI fun x13 S2 M2 h12 => ?_)
      obtain ⟨ex13, eS, wc⟩ := h12
      subst eS
      have w15 : p_W [1, 78] [] M M2 := w0.trans (wc.wide rfl)
      have g16 : M2 1 1 = 0 := (wc 1 1 rfl rfl rfl).trans (h.get 1 1 rfl rfl rfl (v := 0) (by decide))
      clear wc 
      generalize M2 = M14 at *
      subst ex13
      exact gj_zret (gj_dk okX11_end 10 rfl) rfl (by first | decide | assumption | omega) ⟨_, rfl, (by first | rfl | omega | ((repeat' split) <;> omega)), rfl, w15⟩
set_option maxHeartbeats 4000000 in
set_option maxRecDepth 20000 in
theorem q_X11_fault (hst : gj_Stat S) (h : p_F 0 [] [] M)   : gj_C G l 5 0 0 yX11_fault cX11_fault 1 (some .int) [jR 0] S M (gj_qI fun x S' M' => 0 = x ∧ S = S' ∧ p_W [3, 4, 5, 6, 7, 8, 10, 12, 13] [] M M') := by
  refine gj_Cof (by decide +kernel) (Nat.le_of_ble_eq_true rfl) ?_
  change gj_W G l 5 0 0 yX11_fault cX11_fault 1 (some .int) (gj_qI fun x S' M' => 0 = x ∧ S = S' ∧ p_W [3, 4, 5, 6, 7, 8, 10, 12, 13] [] M M') 0 0 0 [(0, jR 0)] [] S M
  have w0 : p_W [3, 4, 5, 6, 7, 8, 10, 12, 13] [] M M := fun _ _ _ _ _ => rfl
  refine gj_aload_n (q := 1) (gj_dk okX11_fault 0 rfl) rfl rfl ?_
  refine gj_gR (q := 4) (j := 2) (gj_dk okX11_fault 1 rfl) ff_X11_28 (sh0 hst) (by decide) rfl (rf0_2 hst) rfl ?_
  refine gj_callV (q := 7) (z := 10) (ci := 6) [] rfl (q_X6_read hst (h.of p_W.rf rfl) (h.get 1 1 rfl rfl rfl (v := 0) (by decide))  ) (gj_dk okX11_fault 2 rfl) ml_X11_106 me_X6_read (sh10 hst) rfl (gj_nm rfl) rfl (gj_kI fun x2 S2 M2 h1 => ?_)
  obtain ⟨ex2, eS, wc⟩ := h1
  subst eS
  have w4 : p_W [3, 4, 5, 6, 7, 8, 10, 12, 13] [] M M2 := w0.trans (wc.wide rfl)
  clear wc 
  generalize M2 = M3 at *
  subst ex2
  exact gj_iret (gj_dk okX11_fault 3 rfl) rfl ⟨_, rfl, rfl, rfl, w4⟩
set_option maxHeartbeats 4000000 in
set_option maxRecDepth 20000 in
theorem q_X11_village (hst : gj_Stat S) (h : p_F 0 [] [] M)   : gj_C G l 5 0 0 yX11_village cX11_village 1 (some .int) [jR 0] S M (gj_qI fun x S' M' => -1 = x ∧ S = S' ∧ p_W [3, 4, 5, 6, 7, 8, 10, 12, 13, 78] [] M M') := by
  refine gj_Cof (by decide +kernel) (Nat.le_of_ble_eq_true rfl) ?_
  change gj_W G l 5 0 0 yX11_village cX11_village 1 (some .int) (gj_qI fun x S' M' => -1 = x ∧ S = S' ∧ p_W [3, 4, 5, 6, 7, 8, 10, 12, 13, 78] [] M M') 0 0 0 [(0, jR 0)] [] S M
  have w0 : p_W [3, 4, 5, 6, 7, 8, 10, 12, 13, 78] [] M M := fun _ _ _ _ _ => rfl
  refine gj_aload_n (q := 1) (gj_dk okX11_village 0 rfl) rfl rfl ?_
  refine gj_gR (q := 4) (j := 2) (gj_dk okX11_village 1 rfl) ff_X11_28 (sh0 hst) (by decide) rfl (rf0_2 hst) rfl ?_
  refine gj_callV (q := 7) (z := 10) (ci := 6) [] rfl (q_X6_read hst (h.of p_W.rf rfl) (h.get 1 1 rfl rfl rfl (v := 0) (by decide))  ) (gj_dk okX11_village 2 rfl) ml_X11_106 me_X6_read (sh10 hst) rfl (gj_nm rfl) rfl (gj_kI fun x2 S2 M2 h1 => ?_)
  obtain ⟨ex2, eS, wc⟩ := h1
  subst eS
  have w4 : p_W [3, 4, 5, 6, 7, 8, 10, 12, 13, 78] [] M M2 := w0.trans (wc.wide rfl)
  clear wc 
  generalize M2 = M3 at *
  subst ex2
  refine gj_iconst (q := 8) (gj_dk okX11_village 3 rfl) (by decide) rfl ?_
  refine gj_icmp_eq (q := 11) (tgt := 19) (gj_dk okX11_village 4 rfl) (by decide) rfl (fun cc => absurd cc (by decide)) (fun _ => ?_)
  refine gj_aload_n (q := 12) (gj_dk okX11_village 5 rfl) rfl rfl ?_
  refine gj_iconst (q := 13) (gj_dk okX11_village 6 rfl) (by decide) rfl ?_
  refine gj_callV (q := 16) (z := 0) (ci := 9) [jI 2] rfl (q_X11_refuse hst (h.of w4 rfl)  _ ) (gj_dk okX11_village 7 rfl) ml_X11_92 me_X11_refuse (sh0 hst) rfl (gj_nm rfl) rfl (gj_kI fun x6 S2 M2 h5 => ?_)
  obtain ⟨ex6, eS, wc⟩ := h5
  subst eS
  have w8 : p_W [3, 4, 5, 6, 7, 8, 10, 12, 13, 78] [] M M2 := w4.trans (wc.wide rfl)
  clear wc 
  generalize M2 = M7 at *
  subst ex6
  refine gj_pop (q := 17) (gj_dk okX11_village 8 rfl) rfl rfl ?_
  refine gj_iconst (q := 18) (gj_dk okX11_village 9 rfl) (by decide) rfl ?_
  exact gj_iret (gj_dk okX11_village 10 rfl) rfl ⟨_, rfl, rfl, rfl, w8⟩
set_option maxHeartbeats 4000000 in
set_option maxRecDepth 20000 in
theorem q_X11_person (hst : gj_Stat S) (h : p_F 0 [] [] M)  (a1 a2 : Int)  : gj_C G l 2 0 0 yX11_person cX11_person 4 (some .int) [jR 0, jI a1, jI a2] S M (gj_qI fun x S' M' => -2147483648 = x ∧ S = S' ∧ M = M') := by
  refine gj_Cof (by decide +kernel) (Nat.le_of_ble_eq_true rfl) ?_
  change gj_W G l 2 0 0 yX11_person cX11_person 4 (some .int) (gj_qI fun x S' M' => -2147483648 = x ∧ S = S' ∧ M = M') 0 0 0 [(0, jR 0), (1, jI a1), (2, jI a2)] [] S M
  refine gj_aload_n (q := 1) (gj_dk okX11_person 0 rfl) rfl rfl ?_
  refine gj_gR (q := 4) (j := 3) (gj_dk okX11_person 1 rfl) ff_X11_32 (sh0 hst) (by decide) rfl (rf0_3 hst) rfl ?_
  refine gj_iload_n (q := 5) (gj_dk okX11_person 2 rfl) rfl rfl ?_
  refine gj_callV (q := 8) (z := 14) (ci := 5) [jI a1] rfl (q_X5_slotOf hst (h.of p_W.rf rfl)  _ ) (gj_dk okX11_person 3 rfl) ml_X11_131 me_X5_slotOf (sh14 hst) rfl (gj_nm rfl) rfl (gj_kI fun x2 S2 M2 h1 => ?_)
  obtain ⟨ex2, eS, eM⟩ := h1
  subst eS
  subst eM
  subst ex2
  refine gj_istore_n (q := 9) (gj_dk okX11_person 4 rfl) (by decide) rfl ?_
  refine gj_iload_n (q := 10) (gj_dk okX11_person 5 rfl) rfl rfl ?_
  refine gj_iconst (q := 11) (gj_dk okX11_person 6 rfl) (by decide) rfl ?_
  refine gj_icmp_ne (q := 14) (tgt := 17) (gj_dk okX11_person 7 rfl) (by decide) rfl (fun cc => absurd cc (by decide)) (fun _ => ?_)
  refine gj_ldc (q := 16) (z := -2147483648) (gj_dk okX11_person 8 rfl) kc_X11_135 (by decide) rfl ?_
  exact gj_iret (gj_dk okX11_person 9 rfl) rfl ⟨_, rfl, rfl, rfl, rfl⟩
set_option maxHeartbeats 4000000 in
set_option maxRecDepth 20000 in
theorem q_X11_earned (hst : gj_Stat S) (h : p_F 0 [] [] M)  (a1 : Int)  : gj_C G l 2 0 0 yX11_earned cX11_earned 3 (some .int) [jR 0, jI a1] S M (gj_qI fun x S' M' => -2147483648 = x ∧ S = S' ∧ M = M') := by
  refine gj_Cof (by decide +kernel) (Nat.le_of_ble_eq_true rfl) ?_
  change gj_W G l 2 0 0 yX11_earned cX11_earned 3 (some .int) (gj_qI fun x S' M' => -2147483648 = x ∧ S = S' ∧ M = M') 0 0 0 [(0, jR 0), (1, jI a1)] [] S M
  refine gj_aload_n (q := 1) (gj_dk okX11_earned 0 rfl) rfl rfl ?_
  refine gj_gR (q := 4) (j := 3) (gj_dk okX11_earned 1 rfl) ff_X11_32 (sh0 hst) (by decide) rfl (rf0_3 hst) rfl ?_
  refine gj_iload_n (q := 5) (gj_dk okX11_earned 2 rfl) rfl rfl ?_
  refine gj_callV (q := 8) (z := 14) (ci := 5) [jI a1] rfl (q_X5_slotOf hst (h.of p_W.rf rfl)  _ ) (gj_dk okX11_earned 3 rfl) ml_X11_131 me_X5_slotOf (sh14 hst) rfl (gj_nm rfl) rfl (gj_kI fun x2 S2 M2 h1 => ?_)
  obtain ⟨ex2, eS, eM⟩ := h1
  subst eS
  subst eM
  subst ex2
  refine gj_istore_n (q := 9) (gj_dk okX11_earned 4 rfl) (by decide) rfl ?_
  refine gj_iload_n (q := 10) (gj_dk okX11_earned 5 rfl) rfl rfl ?_
  refine gj_iconst (q := 11) (gj_dk okX11_earned 6 rfl) (by decide) rfl ?_
  refine gj_icmp_ne (q := 14) (tgt := 19) (gj_dk okX11_earned 7 rfl) (by decide) rfl (fun cc => absurd cc (by decide)) (fun _ => ?_)
  refine gj_ldc (q := 16) (z := -2147483648) (gj_dk okX11_earned 8 rfl) kc_X11_135 (by decide) rfl ?_
  refine gj_goto (tgt := 30) (gj_dk okX11_earned 9 rfl) (by decide) ?_
  exact gj_iret (gj_dk okX11_earned 15 rfl) rfl ⟨_, rfl, rfl, rfl, rfl⟩
set_option maxHeartbeats 4000000 in
set_option maxRecDepth 20000 in
theorem q_X11_two (hst : gj_Stat S) (h : p_F 0 [] [] M)  (a1 a2 a3 : Int)  : gj_C G l 2 0 0 yX11_two cX11_two 7 (some .int) [jR 0, jI a1, jI a2, jI a3] S M (gj_qI fun x S' M' => -1 = x ∧ S = S' ∧ M = M') := by
  refine gj_Cof (by decide +kernel) (Nat.le_of_ble_eq_true rfl) ?_
  change gj_W G l 2 0 0 yX11_two cX11_two 7 (some .int) (gj_qI fun x S' M' => -1 = x ∧ S = S' ∧ M = M') 0 0 0 [(0, jR 0), (1, jI a1), (2, jI a2), (3, jI a3)] [] S M
  refine gj_aload_n (q := 1) (gj_dk okX11_two 0 rfl) rfl rfl ?_
  refine gj_gR (q := 4) (j := 3) (gj_dk okX11_two 1 rfl) ff_X11_32 (sh0 hst) (by decide) rfl (rf0_3 hst) rfl ?_
  refine gj_iload_n (q := 5) (gj_dk okX11_two 2 rfl) rfl rfl ?_
  refine gj_callV (q := 8) (z := 14) (ci := 5) [jI a1] rfl (q_X5_slotOf hst (h.of p_W.rf rfl)  _ ) (gj_dk okX11_two 3 rfl) ml_X11_131 me_X5_slotOf (sh14 hst) rfl (gj_nm rfl) rfl (gj_kI fun x2 S2 M2 h1 => ?_)
  obtain ⟨ex2, eS, eM⟩ := h1
  subst eS
  subst eM
  subst ex2
  refine gj_istore (q := 10) (gj_dk okX11_two 4 rfl) (by decide) rfl ?_
  refine gj_aload_n (q := 11) (gj_dk okX11_two 5 rfl) rfl rfl ?_
  refine gj_gR (q := 14) (j := 3) (gj_dk okX11_two 6 rfl) ff_X11_32 (sh0 hst) (by decide) rfl (rf0_3 hst) rfl ?_
  refine gj_iload_n (q := 15) (gj_dk okX11_two 7 rfl) rfl rfl ?_
  refine gj_callV (q := 18) (z := 14) (ci := 5) [jI a2] rfl (q_X5_slotOf hst (h.of p_W.rf rfl)  _ ) (gj_dk okX11_two 8 rfl) ml_X11_131 me_X5_slotOf (sh14 hst) rfl (gj_nm rfl) rfl (gj_kI fun x4 S2 M2 h3 => ?_)
  obtain ⟨ex4, eS, eM⟩ := h3
  subst eS
  subst eM
  subst ex4
  refine gj_istore (q := 20) (gj_dk okX11_two 9 rfl) (by decide) rfl ?_
  refine gj_iload (q := 22) (gj_dk okX11_two 10 rfl) rfl rfl ?_
  refine gj_iload (q := 24) (gj_dk okX11_two 11 rfl) rfl rfl ?_
  refine gj_callS (q := 27) [jI (-1), jI (-1)] rfl (c_X10_unlike _ _) (gj_dk okX11_two 12 rfl) ml_X11_157 me_X10_unlike (gj_nm rfl) rfl (gj_kI fun x6 S2 M2 h5 => ?_)
  obtain ⟨ex6, eS, eM⟩ := h5; subst eS; subst eM; subst ex6
  rw [show f_unl (-1) (-1) = 0 from by decide]
  refine gj_if_ne (q := 30) (tgt := 32) (gj_dk okX11_two 13 rfl) (by decide) rfl (fun cc => absurd cc (by decide)) (fun _ => ?_)
  refine gj_iconst (q := 31) (gj_dk okX11_two 14 rfl) (by decide) rfl ?_
  exact gj_iret (gj_dk okX11_two 15 rfl) rfl ⟨_, rfl, rfl, rfl, rfl⟩
set_option maxHeartbeats 4000000 in
set_option maxRecDepth 20000 in
theorem q_X11_think (hst : gj_Stat S) (h : p_F 0 [] [] M)  (a1 a2 a3 : Int)  : gj_C G l 2 0 0 yX11_think cX11_think 7 (some .int) [jR 0, jI a1, jI a2, jI a3] S M (gj_qI fun x S' M' => -1 = x ∧ S = S' ∧ M = M') := by
  refine gj_Cof (by decide +kernel) (Nat.le_of_ble_eq_true rfl) ?_
  change gj_W G l 2 0 0 yX11_think cX11_think 7 (some .int) (gj_qI fun x S' M' => -1 = x ∧ S = S' ∧ M = M') 0 0 0 [(0, jR 0), (1, jI a1), (2, jI a2), (3, jI a3)] [] S M
  refine gj_aload_n (q := 1) (gj_dk okX11_think 0 rfl) rfl rfl ?_
  refine gj_gR (q := 4) (j := 3) (gj_dk okX11_think 1 rfl) ff_X11_32 (sh0 hst) (by decide) rfl (rf0_3 hst) rfl ?_
  refine gj_iload_n (q := 5) (gj_dk okX11_think 2 rfl) rfl rfl ?_
  refine gj_callV (q := 8) (z := 14) (ci := 5) [jI a1] rfl (q_X5_slotOf hst (h.of p_W.rf rfl)  _ ) (gj_dk okX11_think 3 rfl) ml_X11_131 me_X5_slotOf (sh14 hst) rfl (gj_nm rfl) rfl (gj_kI fun x2 S2 M2 h1 => ?_)
  obtain ⟨ex2, eS, eM⟩ := h1
  subst eS
  subst eM
  subst ex2
  refine gj_istore (q := 10) (gj_dk okX11_think 4 rfl) (by decide) rfl ?_
  refine gj_aload_n (q := 11) (gj_dk okX11_think 5 rfl) rfl rfl ?_
  refine gj_gR (q := 14) (j := 3) (gj_dk okX11_think 6 rfl) ff_X11_32 (sh0 hst) (by decide) rfl (rf0_3 hst) rfl ?_
  refine gj_iload_n (q := 15) (gj_dk okX11_think 7 rfl) rfl rfl ?_
  refine gj_callV (q := 18) (z := 14) (ci := 5) [jI a2] rfl (q_X5_slotOf hst (h.of p_W.rf rfl)  _ ) (gj_dk okX11_think 8 rfl) ml_X11_131 me_X5_slotOf (sh14 hst) rfl (gj_nm rfl) rfl (gj_kI fun x4 S2 M2 h3 => ?_)
  obtain ⟨ex4, eS, eM⟩ := h3
  subst eS
  subst eM
  subst ex4
  refine gj_istore (q := 20) (gj_dk okX11_think 9 rfl) (by decide) rfl ?_
  refine gj_iload (q := 22) (gj_dk okX11_think 10 rfl) rfl rfl ?_
  refine gj_iload (q := 24) (gj_dk okX11_think 11 rfl) rfl rfl ?_
  refine gj_callS (q := 27) [jI (-1), jI (-1)] rfl (c_X10_unlike _ _) (gj_dk okX11_think 12 rfl) ml_X11_157 me_X10_unlike (gj_nm rfl) rfl (gj_kI fun x6 S2 M2 h5 => ?_)
  obtain ⟨ex6, eS, eM⟩ := h5; subst eS; subst eM; subst ex6
  rw [show f_unl (-1) (-1) = 0 from by decide]
  refine gj_if_ne (q := 30) (tgt := 32) (gj_dk okX11_think 13 rfl) (by decide) rfl (fun cc => absurd cc (by decide)) (fun _ => ?_)
  refine gj_iconst (q := 31) (gj_dk okX11_think 14 rfl) (by decide) rfl ?_
  exact gj_iret (gj_dk okX11_think 15 rfl) rfl ⟨_, rfl, rfl, rfl, rfl⟩
set_option maxHeartbeats 4000000 in
set_option maxRecDepth 20000 in
theorem q_X11_shown (hst : gj_Stat S) (h : p_F 0 [] [] M)  (a1 a2 a3 : Int)  : gj_C G l 2 0 0 yX11_shown cX11_shown 10 (some .int) [jR 0, jI a1, jI a2, jI a3] S M (gj_qI fun x S' M' => -1 = x ∧ S = S' ∧ M = M') := by
  refine gj_Cof (by decide +kernel) (Nat.le_of_ble_eq_true rfl) ?_
  change gj_W G l 2 0 0 yX11_shown cX11_shown 10 (some .int) (gj_qI fun x S' M' => -1 = x ∧ S = S' ∧ M = M') 0 0 0 [(0, jR 0), (1, jI a1), (2, jI a2), (3, jI a3)] [] S M
  refine gj_aload_n (q := 1) (gj_dk okX11_shown 0 rfl) rfl rfl ?_
  refine gj_gR (q := 4) (j := 3) (gj_dk okX11_shown 1 rfl) ff_X11_32 (sh0 hst) (by decide) rfl (rf0_3 hst) rfl ?_
  refine gj_iload_n (q := 5) (gj_dk okX11_shown 2 rfl) rfl rfl ?_
  refine gj_callV (q := 8) (z := 14) (ci := 5) [jI a1] rfl (q_X5_slotOf hst (h.of p_W.rf rfl)  _ ) (gj_dk okX11_shown 3 rfl) ml_X11_131 me_X5_slotOf (sh14 hst) rfl (gj_nm rfl) rfl (gj_kI fun x2 S2 M2 h1 => ?_)
  obtain ⟨ex2, eS, eM⟩ := h1
  subst eS
  subst eM
  subst ex2
  refine gj_istore (q := 10) (gj_dk okX11_shown 4 rfl) (by decide) rfl ?_
  refine gj_aload_n (q := 11) (gj_dk okX11_shown 5 rfl) rfl rfl ?_
  refine gj_gR (q := 14) (j := 3) (gj_dk okX11_shown 6 rfl) ff_X11_32 (sh0 hst) (by decide) rfl (rf0_3 hst) rfl ?_
  refine gj_iload_n (q := 15) (gj_dk okX11_shown 7 rfl) rfl rfl ?_
  refine gj_callV (q := 18) (z := 14) (ci := 5) [jI a2] rfl (q_X5_slotOf hst (h.of p_W.rf rfl)  _ ) (gj_dk okX11_shown 8 rfl) ml_X11_131 me_X5_slotOf (sh14 hst) rfl (gj_nm rfl) rfl (gj_kI fun x4 S2 M2 h3 => ?_)
  obtain ⟨ex4, eS, eM⟩ := h3
  subst eS
  subst eM
  subst ex4
  refine gj_istore (q := 20) (gj_dk okX11_shown 9 rfl) (by decide) rfl ?_
  refine gj_iload (q := 22) (gj_dk okX11_shown 10 rfl) rfl rfl ?_
  refine gj_iload (q := 24) (gj_dk okX11_shown 11 rfl) rfl rfl ?_
  refine gj_callS (q := 27) [jI (-1), jI (-1)] rfl (c_X10_unlike _ _) (gj_dk okX11_shown 12 rfl) ml_X11_157 me_X10_unlike (gj_nm rfl) rfl (gj_kI fun x6 S2 M2 h5 => ?_)
  obtain ⟨ex6, eS, eM⟩ := h5; subst eS; subst eM; subst ex6
  rw [show f_unl (-1) (-1) = 0 from by decide]
  refine gj_if_ne (q := 30) (tgt := 32) (gj_dk okX11_shown 13 rfl) (by decide) rfl (fun cc => absurd cc (by decide)) (fun _ => ?_)
  refine gj_iconst (q := 31) (gj_dk okX11_shown 14 rfl) (by decide) rfl ?_
  exact gj_iret (gj_dk okX11_shown 15 rfl) rfl ⟨_, rfl, rfl, rfl, rfl⟩
set_option maxHeartbeats 4000000 in
set_option maxRecDepth 20000 in
theorem q_X11_liking (hst : gj_Stat S) (h : p_F 0 [] [] M)  (a1 a2 : Int)  : gj_C G l 2 0 0 yX11_liking cX11_liking 5 (some .int) [jR 0, jI a1, jI a2] S M (gj_qI fun x S' M' => -1 = x ∧ S = S' ∧ M = M') := by
  refine gj_Cof (by decide +kernel) (Nat.le_of_ble_eq_true rfl) ?_
  change gj_W G l 2 0 0 yX11_liking cX11_liking 5 (some .int) (gj_qI fun x S' M' => -1 = x ∧ S = S' ∧ M = M') 0 0 0 [(0, jR 0), (1, jI a1), (2, jI a2)] [] S M
  refine gj_aload_n (q := 1) (gj_dk okX11_liking 0 rfl) rfl rfl ?_
  refine gj_gR (q := 4) (j := 3) (gj_dk okX11_liking 1 rfl) ff_X11_32 (sh0 hst) (by decide) rfl (rf0_3 hst) rfl ?_
  refine gj_iload_n (q := 5) (gj_dk okX11_liking 2 rfl) rfl rfl ?_
  refine gj_callV (q := 8) (z := 14) (ci := 5) [jI a1] rfl (q_X5_slotOf hst (h.of p_W.rf rfl)  _ ) (gj_dk okX11_liking 3 rfl) ml_X11_131 me_X5_slotOf (sh14 hst) rfl (gj_nm rfl) rfl (gj_kI fun x2 S2 M2 h1 => ?_)
  obtain ⟨ex2, eS, eM⟩ := h1
  subst eS
  subst eM
  subst ex2
  refine gj_istore_n (q := 9) (gj_dk okX11_liking 4 rfl) (by decide) rfl ?_
  refine gj_aload_n (q := 10) (gj_dk okX11_liking 5 rfl) rfl rfl ?_
  refine gj_gR (q := 13) (j := 3) (gj_dk okX11_liking 6 rfl) ff_X11_32 (sh0 hst) (by decide) rfl (rf0_3 hst) rfl ?_
  refine gj_iload_n (q := 14) (gj_dk okX11_liking 7 rfl) rfl rfl ?_
  refine gj_callV (q := 17) (z := 14) (ci := 5) [jI a2] rfl (q_X5_slotOf hst (h.of p_W.rf rfl)  _ ) (gj_dk okX11_liking 8 rfl) ml_X11_131 me_X5_slotOf (sh14 hst) rfl (gj_nm rfl) rfl (gj_kI fun x4 S2 M2 h3 => ?_)
  obtain ⟨ex4, eS, eM⟩ := h3
  subst eS
  subst eM
  subst ex4
  refine gj_istore (q := 19) (gj_dk okX11_liking 9 rfl) (by decide) rfl ?_
  refine gj_iload_n (q := 20) (gj_dk okX11_liking 10 rfl) rfl rfl ?_
  refine gj_iload (q := 22) (gj_dk okX11_liking 11 rfl) rfl rfl ?_
  refine gj_callS (q := 25) [jI (-1), jI (-1)] rfl (c_X10_unlike _ _) (gj_dk okX11_liking 12 rfl) ml_X11_157 me_X10_unlike (gj_nm rfl) rfl (gj_kI fun x6 S2 M2 h5 => ?_)
  obtain ⟨ex6, eS, eM⟩ := h5; subst eS; subst eM; subst ex6
  rw [show f_unl (-1) (-1) = 0 from by decide]
  refine gj_if_eq (q := 28) (tgt := 42) (gj_dk okX11_liking 13 rfl) (by decide) rfl (fun _ => ?_) (fun cc => absurd cc (by decide))
  refine gj_iconst (q := 43) (gj_dk okX11_liking 21 rfl) (by decide) rfl ?_
  exact gj_iret (gj_dk okX11_liking 22 rfl) rfl ⟨_, rfl, rfl, rfl, rfl⟩
set_option maxHeartbeats 4000000 in
set_option maxRecDepth 20000 in
theorem q_X11_sooner (hst : gj_Stat S) (h : p_F 0 [] [] M)  (a1 a2 a3 : Int)  : gj_C G l 6 0 0 yX11_sooner cX11_sooner 7 (some .int) [jR 0, jI a1, jI a2, jI a3] S M (gj_qI fun x S' M' => -1 = x ∧ S = S' ∧ M = M') := by
  refine gj_Cof (by decide +kernel) (Nat.le_of_ble_eq_true rfl) ?_
  change gj_W G l 6 0 0 yX11_sooner cX11_sooner 7 (some .int) (gj_qI fun x S' M' => -1 = x ∧ S = S' ∧ M = M') 0 0 0 [(0, jR 0), (1, jI a1), (2, jI a2), (3, jI a3)] [] S M
  refine gj_aload_n (q := 1) (gj_dk okX11_sooner 0 rfl) rfl rfl ?_
  refine gj_gR (q := 4) (j := 3) (gj_dk okX11_sooner 1 rfl) ff_X11_32 (sh0 hst) (by decide) rfl (rf0_3 hst) rfl ?_
  refine gj_iload_n (q := 5) (gj_dk okX11_sooner 2 rfl) rfl rfl ?_
  refine gj_callV (q := 8) (z := 14) (ci := 5) [jI a1] rfl (q_X5_slotOf hst (h.of p_W.rf rfl)  _ ) (gj_dk okX11_sooner 3 rfl) ml_X11_131 me_X5_slotOf (sh14 hst) rfl (gj_nm rfl) rfl (gj_kI fun x2 S2 M2 h1 => ?_)
  obtain ⟨ex2, eS, eM⟩ := h1
  subst eS
  subst eM
  subst ex2
  refine gj_istore (q := 10) (gj_dk okX11_sooner 4 rfl) (by decide) rfl ?_
  refine gj_aload_n (q := 11) (gj_dk okX11_sooner 5 rfl) rfl rfl ?_
  refine gj_gR (q := 14) (j := 3) (gj_dk okX11_sooner 6 rfl) ff_X11_32 (sh0 hst) (by decide) rfl (rf0_3 hst) rfl ?_
  refine gj_iload_n (q := 15) (gj_dk okX11_sooner 7 rfl) rfl rfl ?_
  refine gj_callV (q := 18) (z := 14) (ci := 5) [jI a2] rfl (q_X5_slotOf hst (h.of p_W.rf rfl)  _ ) (gj_dk okX11_sooner 8 rfl) ml_X11_131 me_X5_slotOf (sh14 hst) rfl (gj_nm rfl) rfl (gj_kI fun x4 S2 M2 h3 => ?_)
  obtain ⟨ex4, eS, eM⟩ := h3
  subst eS
  subst eM
  subst ex4
  refine gj_istore (q := 20) (gj_dk okX11_sooner 9 rfl) (by decide) rfl ?_
  refine gj_aload_n (q := 21) (gj_dk okX11_sooner 10 rfl) rfl rfl ?_
  refine gj_gR (q := 24) (j := 3) (gj_dk okX11_sooner 11 rfl) ff_X11_32 (sh0 hst) (by decide) rfl (rf0_3 hst) rfl ?_
  refine gj_iload_n (q := 25) (gj_dk okX11_sooner 12 rfl) rfl rfl ?_
  refine gj_callV (q := 28) (z := 14) (ci := 5) [jI a3] rfl (q_X5_slotOf hst (h.of p_W.rf rfl)  _ ) (gj_dk okX11_sooner 13 rfl) ml_X11_131 me_X5_slotOf (sh14 hst) rfl (gj_nm rfl) rfl (gj_kI fun x6 S2 M2 h5 => ?_)
  obtain ⟨ex6, eS, eM⟩ := h5
  subst eS
  subst eM
  subst ex6
  refine gj_istore (q := 30) (gj_dk okX11_sooner 14 rfl) (by decide) rfl ?_
  refine gj_iload (q := 32) (gj_dk okX11_sooner 15 rfl) rfl rfl ?_
  refine gj_iload (q := 34) (gj_dk okX11_sooner 16 rfl) rfl rfl ?_
  refine gj_callS (q := 37) [jI (-1), jI (-1)] rfl (c_X10_unlike _ _) (gj_dk okX11_sooner 17 rfl) ml_X11_157 me_X10_unlike (gj_nm rfl) rfl (gj_kI fun x8 S2 M2 h7 => ?_)
  obtain ⟨ex8, eS, eM⟩ := h7; subst eS; subst eM; subst ex8
  rw [show f_unl (-1) (-1) = 0 from by decide]
  refine gj_if_eq (q := 40) (tgt := 50) (gj_dk okX11_sooner 18 rfl) (by decide) rfl (fun _ => ?_) (fun cc => absurd cc (by decide))
  refine gj_iconst (q := 51) (gj_dk okX11_sooner 23 rfl) (by decide) rfl ?_
  exact gj_iret (gj_dk okX11_sooner 24 rfl) rfl ⟨_, rfl, rfl, rfl, rfl⟩
set_option maxHeartbeats 4000000 in
set_option maxRecDepth 20000 in
theorem q_X11_best (hst : gj_Stat S) (h : p_F 0 [] [] M)  (a1 a2 a3 : Int)  : gj_C G l 2 0 0 yX11_best cX11_best 5 (some .int) [jR 0, jI a1, jI a2, jI a3] S M (gj_qI fun x S' M' => -2147483648 = x ∧ S = S' ∧ M = M') := by
  refine gj_Cof (by decide +kernel) (Nat.le_of_ble_eq_true rfl) ?_
  change gj_W G l 2 0 0 yX11_best cX11_best 5 (some .int) (gj_qI fun x S' M' => -2147483648 = x ∧ S = S' ∧ M = M') 0 0 0 [(0, jR 0), (1, jI a1), (2, jI a2), (3, jI a3)] [] S M
  refine gj_aload_n (q := 1) (gj_dk okX11_best 0 rfl) rfl rfl ?_
  refine gj_gR (q := 4) (j := 3) (gj_dk okX11_best 1 rfl) ff_X11_32 (sh0 hst) (by decide) rfl (rf0_3 hst) rfl ?_
  refine gj_iload_n (q := 5) (gj_dk okX11_best 2 rfl) rfl rfl ?_
  refine gj_callV (q := 8) (z := 14) (ci := 5) [jI a1] rfl (q_X5_slotOf hst (h.of p_W.rf rfl)  _ ) (gj_dk okX11_best 3 rfl) ml_X11_131 me_X5_slotOf (sh14 hst) rfl (gj_nm rfl) rfl (gj_kI fun x2 S2 M2 h1 => ?_)
  obtain ⟨ex2, eS, eM⟩ := h1
  subst eS
  subst eM
  subst ex2
  refine gj_istore (q := 10) (gj_dk okX11_best 4 rfl) (by decide) rfl ?_
  refine gj_iload (q := 12) (gj_dk okX11_best 5 rfl) rfl rfl ?_
  refine gj_iconst (q := 13) (gj_dk okX11_best 6 rfl) (by decide) rfl ?_
  refine gj_icmp_eq (q := 16) (tgt := 23) (gj_dk okX11_best 7 rfl) (by decide) rfl (fun _ => ?_) (fun cc => absurd cc (by decide))
  refine gj_ldc (q := 25) (z := -2147483648) (gj_dk okX11_best 11 rfl) kc_X11_135 (by decide) rfl ?_
  exact gj_iret (gj_dk okX11_best 12 rfl) rfl ⟨_, rfl, rfl, rfl, rfl⟩
set_option maxHeartbeats 4000000 in
set_option maxRecDepth 20000 in
theorem q_X11_act (hst : gj_Stat S) (h : p_F 0 [] [] M)  (a1 a2 a3 : Int)  : gj_C G l 2 0 0 yX11_act cX11_act 6 (some .int) [jR 0, jI a1, jI a2, jI a3] S M (gj_qI fun x S' M' => -2147483648 = x ∧ S = S' ∧ M = M') := by
  refine gj_Cof (by decide +kernel) (Nat.le_of_ble_eq_true rfl) ?_
  change gj_W G l 2 0 0 yX11_act cX11_act 6 (some .int) (gj_qI fun x S' M' => -2147483648 = x ∧ S = S' ∧ M = M') 0 0 0 [(0, jR 0), (1, jI a1), (2, jI a2), (3, jI a3)] [] S M
  refine gj_aload_n (q := 1) (gj_dk okX11_act 0 rfl) rfl rfl ?_
  refine gj_gR (q := 4) (j := 3) (gj_dk okX11_act 1 rfl) ff_X11_32 (sh0 hst) (by decide) rfl (rf0_3 hst) rfl ?_
  refine gj_iload_n (q := 5) (gj_dk okX11_act 2 rfl) rfl rfl ?_
  refine gj_callV (q := 8) (z := 14) (ci := 5) [jI a1] rfl (q_X5_slotOf hst (h.of p_W.rf rfl)  _ ) (gj_dk okX11_act 3 rfl) ml_X11_131 me_X5_slotOf (sh14 hst) rfl (gj_nm rfl) rfl (gj_kI fun x2 S2 M2 h1 => ?_)
  obtain ⟨ex2, eS, eM⟩ := h1
  subst eS
  subst eM
  subst ex2
  refine gj_istore (q := 10) (gj_dk okX11_act 4 rfl) (by decide) rfl ?_
  refine gj_aload_n (q := 11) (gj_dk okX11_act 5 rfl) rfl rfl ?_
  refine gj_gR (q := 14) (j := 3) (gj_dk okX11_act 6 rfl) ff_X11_32 (sh0 hst) (by decide) rfl (rf0_3 hst) rfl ?_
  refine gj_iload_n (q := 15) (gj_dk okX11_act 7 rfl) rfl rfl ?_
  refine gj_callV (q := 18) (z := 14) (ci := 5) [jI a3] rfl (q_X5_slotOf hst (h.of p_W.rf rfl)  _ ) (gj_dk okX11_act 8 rfl) ml_X11_131 me_X5_slotOf (sh14 hst) rfl (gj_nm rfl) rfl (gj_kI fun x4 S2 M2 h3 => ?_)
  obtain ⟨ex4, eS, eM⟩ := h3
  subst eS
  subst eM
  subst ex4
  refine gj_istore (q := 20) (gj_dk okX11_act 9 rfl) (by decide) rfl ?_
  refine gj_iload (q := 22) (gj_dk okX11_act 10 rfl) rfl rfl ?_
  refine gj_iconst (q := 23) (gj_dk okX11_act 11 rfl) (by decide) rfl ?_
  refine gj_icmp_eq (q := 26) (tgt := 48) (gj_dk okX11_act 12 rfl) (by decide) rfl (fun _ => ?_) (fun cc => absurd cc (by decide))
  refine gj_ldc (q := 50) (z := -2147483648) (gj_dk okX11_act 23 rfl) kc_X11_135 (by decide) rfl ?_
  exact gj_iret (gj_dk okX11_act 24 rfl) rfl ⟨_, rfl, rfl, rfl, rfl⟩
set_option maxHeartbeats 4000000 in
set_option maxRecDepth 20000 in
theorem q_X11_silent (hst : gj_Stat S) (h : p_F 0 [] [] M)  (a1 a2 : Int)  : gj_C G l 2 0 0 yX11_silent cX11_silent 4 (some .int) [jR 0, jI a1, jI a2] S M (gj_qI fun x S' M' => -1 = x ∧ S = S' ∧ M = M') := by
  refine gj_Cof (by decide +kernel) (Nat.le_of_ble_eq_true rfl) ?_
  change gj_W G l 2 0 0 yX11_silent cX11_silent 4 (some .int) (gj_qI fun x S' M' => -1 = x ∧ S = S' ∧ M = M') 0 0 0 [(0, jR 0), (1, jI a1), (2, jI a2)] [] S M
  refine gj_aload_n (q := 1) (gj_dk okX11_silent 0 rfl) rfl rfl ?_
  refine gj_gR (q := 4) (j := 3) (gj_dk okX11_silent 1 rfl) ff_X11_32 (sh0 hst) (by decide) rfl (rf0_3 hst) rfl ?_
  refine gj_iload_n (q := 5) (gj_dk okX11_silent 2 rfl) rfl rfl ?_
  refine gj_callV (q := 8) (z := 14) (ci := 5) [jI a1] rfl (q_X5_slotOf hst (h.of p_W.rf rfl)  _ ) (gj_dk okX11_silent 3 rfl) ml_X11_131 me_X5_slotOf (sh14 hst) rfl (gj_nm rfl) rfl (gj_kI fun x2 S2 M2 h1 => ?_)
  obtain ⟨ex2, eS, eM⟩ := h1
  subst eS
  subst eM
  subst ex2
  refine gj_istore_n (q := 9) (gj_dk okX11_silent 4 rfl) (by decide) rfl ?_
  refine gj_iload_n (q := 10) (gj_dk okX11_silent 5 rfl) rfl rfl ?_
  refine gj_iconst (q := 11) (gj_dk okX11_silent 6 rfl) (by decide) rfl ?_
  refine gj_icmp_eq (q := 14) (tgt := 21) (gj_dk okX11_silent 7 rfl) (by decide) rfl (fun _ => ?_) (fun cc => absurd cc (by decide))
  refine gj_iconst (q := 22) (gj_dk okX11_silent 11 rfl) (by decide) rfl ?_
  exact gj_iret (gj_dk okX11_silent 12 rfl) rfl ⟨_, rfl, rfl, rfl, rfl⟩
set_option maxHeartbeats 4000000 in
set_option maxRecDepth 20000 in
theorem q_X11_bar (hst : gj_Stat S) (h : p_F 0 [] [] M)  (a1 a2 a3 a4 : Int)  : gj_C G l 2 0 0 yX11_bar cX11_bar 7 (some .int) [jR 0, jI a1, jI a2, jI a3, jI a4] S M (gj_qI fun x S' M' => -1 = x ∧ S = S' ∧ M = M') := by
  refine gj_Cof (by decide +kernel) (Nat.le_of_ble_eq_true rfl) ?_
  change gj_W G l 2 0 0 yX11_bar cX11_bar 7 (some .int) (gj_qI fun x S' M' => -1 = x ∧ S = S' ∧ M = M') 0 0 0 [(0, jR 0), (1, jI a1), (2, jI a2), (3, jI a3), (4, jI a4)] [] S M
  refine gj_aload_n (q := 1) (gj_dk okX11_bar 0 rfl) rfl rfl ?_
  refine gj_gR (q := 4) (j := 3) (gj_dk okX11_bar 1 rfl) ff_X11_32 (sh0 hst) (by decide) rfl (rf0_3 hst) rfl ?_
  refine gj_iload_n (q := 5) (gj_dk okX11_bar 2 rfl) rfl rfl ?_
  refine gj_callV (q := 8) (z := 14) (ci := 5) [jI a1] rfl (q_X5_slotOf hst (h.of p_W.rf rfl)  _ ) (gj_dk okX11_bar 3 rfl) ml_X11_131 me_X5_slotOf (sh14 hst) rfl (gj_nm rfl) rfl (gj_kI fun x2 S2 M2 h1 => ?_)
  obtain ⟨ex2, eS, eM⟩ := h1
  subst eS
  subst eM
  subst ex2
  refine gj_istore (q := 10) (gj_dk okX11_bar 4 rfl) (by decide) rfl ?_
  refine gj_aload_n (q := 11) (gj_dk okX11_bar 5 rfl) rfl rfl ?_
  refine gj_gR (q := 14) (j := 3) (gj_dk okX11_bar 6 rfl) ff_X11_32 (sh0 hst) (by decide) rfl (rf0_3 hst) rfl ?_
  refine gj_iload_n (q := 15) (gj_dk okX11_bar 7 rfl) rfl rfl ?_
  refine gj_callV (q := 18) (z := 14) (ci := 5) [jI a2] rfl (q_X5_slotOf hst (h.of p_W.rf rfl)  _ ) (gj_dk okX11_bar 8 rfl) ml_X11_131 me_X5_slotOf (sh14 hst) rfl (gj_nm rfl) rfl (gj_kI fun x4 S2 M2 h3 => ?_)
  obtain ⟨ex4, eS, eM⟩ := h3
  subst eS
  subst eM
  subst ex4
  refine gj_istore (q := 20) (gj_dk okX11_bar 9 rfl) (by decide) rfl ?_
  refine gj_iload (q := 22) (gj_dk okX11_bar 10 rfl) rfl rfl ?_
  refine gj_iload (q := 24) (gj_dk okX11_bar 11 rfl) rfl rfl ?_
  refine gj_callS (q := 27) [jI (-1), jI (-1)] rfl (c_X10_unlike _ _) (gj_dk okX11_bar 12 rfl) ml_X11_157 me_X10_unlike (gj_nm rfl) rfl (gj_kI fun x6 S2 M2 h5 => ?_)
  obtain ⟨ex6, eS, eM⟩ := h5; subst eS; subst eM; subst ex6
  rw [show f_unl (-1) (-1) = 0 from by decide]
  refine gj_if_eq (q := 30) (tgt := 49) (gj_dk okX11_bar 13 rfl) (by decide) rfl (fun _ => ?_) (fun cc => absurd cc (by decide))
  refine gj_iconst (q := 50) (gj_dk okX11_bar 23 rfl) (by decide) rfl ?_
  exact gj_iret (gj_dk okX11_bar 24 rfl) rfl ⟨_, rfl, rfl, rfl, rfl⟩
set_option maxHeartbeats 4000000 in
set_option maxRecDepth 20000 in
theorem q_X11_price (hst : gj_Stat S) (h : p_F 0 [] [] M)  (a1 a2 : Int)  : gj_C G l 2 0 0 yX11_price cX11_price 4 (some .int) [jR 0, jI a1, jI a2] S M (gj_qI fun x S' M' => -1 = x ∧ S = S' ∧ M = M') := by
  refine gj_Cof (by decide +kernel) (Nat.le_of_ble_eq_true rfl) ?_
  change gj_W G l 2 0 0 yX11_price cX11_price 4 (some .int) (gj_qI fun x S' M' => -1 = x ∧ S = S' ∧ M = M') 0 0 0 [(0, jR 0), (1, jI a1), (2, jI a2)] [] S M
  refine gj_aload_n (q := 1) (gj_dk okX11_price 0 rfl) rfl rfl ?_
  refine gj_gR (q := 4) (j := 3) (gj_dk okX11_price 1 rfl) ff_X11_32 (sh0 hst) (by decide) rfl (rf0_3 hst) rfl ?_
  refine gj_iload_n (q := 5) (gj_dk okX11_price 2 rfl) rfl rfl ?_
  refine gj_callV (q := 8) (z := 14) (ci := 5) [jI a1] rfl (q_X5_slotOf hst (h.of p_W.rf rfl)  _ ) (gj_dk okX11_price 3 rfl) ml_X11_131 me_X5_slotOf (sh14 hst) rfl (gj_nm rfl) rfl (gj_kI fun x2 S2 M2 h1 => ?_)
  obtain ⟨ex2, eS, eM⟩ := h1
  subst eS
  subst eM
  subst ex2
  refine gj_istore_n (q := 9) (gj_dk okX11_price 4 rfl) (by decide) rfl ?_
  refine gj_iload_n (q := 10) (gj_dk okX11_price 5 rfl) rfl rfl ?_
  refine gj_iconst (q := 11) (gj_dk okX11_price 6 rfl) (by decide) rfl ?_
  refine gj_icmp_eq (q := 14) (tgt := 36) (gj_dk okX11_price 7 rfl) (by decide) rfl (fun _ => ?_) (fun cc => absurd cc (by decide))
  refine gj_iconst (q := 37) (gj_dk okX11_price 18 rfl) (by decide) rfl ?_
  exact gj_iret (gj_dk okX11_price 19 rfl) rfl ⟨_, rfl, rfl, rfl, rfl⟩
set_option maxHeartbeats 4000000 in
set_option maxRecDepth 20000 in
theorem q_X11_waits (hst : gj_Stat S) (h : p_F 0 [] [] M)  (a1 a2 a3 : Int)  : gj_C G l 2 0 0 yX11_waits cX11_waits 9 (some .int) [jR 0, jI a1, jI a2, jI a3] S M (gj_qI fun x S' M' => -2147483648 = x ∧ S = S' ∧ M = M') := by
  refine gj_Cof (by decide +kernel) (Nat.le_of_ble_eq_true rfl) ?_
  change gj_W G l 2 0 0 yX11_waits cX11_waits 9 (some .int) (gj_qI fun x S' M' => -2147483648 = x ∧ S = S' ∧ M = M') 0 0 0 [(0, jR 0), (1, jI a1), (2, jI a2), (3, jI a3)] [] S M
  refine gj_aload_n (q := 1) (gj_dk okX11_waits 0 rfl) rfl rfl ?_
  refine gj_gR (q := 4) (j := 3) (gj_dk okX11_waits 1 rfl) ff_X11_32 (sh0 hst) (by decide) rfl (rf0_3 hst) rfl ?_
  refine gj_iload_n (q := 5) (gj_dk okX11_waits 2 rfl) rfl rfl ?_
  refine gj_callV (q := 8) (z := 14) (ci := 5) [jI a1] rfl (q_X5_slotOf hst (h.of p_W.rf rfl)  _ ) (gj_dk okX11_waits 3 rfl) ml_X11_131 me_X5_slotOf (sh14 hst) rfl (gj_nm rfl) rfl (gj_kI fun x2 S2 M2 h1 => ?_)
  obtain ⟨ex2, eS, eM⟩ := h1
  subst eS
  subst eM
  subst ex2
  refine gj_istore (q := 10) (gj_dk okX11_waits 4 rfl) (by decide) rfl ?_
  refine gj_aload_n (q := 11) (gj_dk okX11_waits 5 rfl) rfl rfl ?_
  refine gj_gR (q := 14) (j := 3) (gj_dk okX11_waits 6 rfl) ff_X11_32 (sh0 hst) (by decide) rfl (rf0_3 hst) rfl ?_
  refine gj_iload_n (q := 15) (gj_dk okX11_waits 7 rfl) rfl rfl ?_
  refine gj_callV (q := 18) (z := 14) (ci := 5) [jI a2] rfl (q_X5_slotOf hst (h.of p_W.rf rfl)  _ ) (gj_dk okX11_waits 8 rfl) ml_X11_131 me_X5_slotOf (sh14 hst) rfl (gj_nm rfl) rfl (gj_kI fun x4 S2 M2 h3 => ?_)
  obtain ⟨ex4, eS, eM⟩ := h3
  subst eS
  subst eM
  subst ex4
  refine gj_istore (q := 20) (gj_dk okX11_waits 9 rfl) (by decide) rfl ?_
  refine gj_iload (q := 22) (gj_dk okX11_waits 10 rfl) rfl rfl ?_
  refine gj_iload (q := 24) (gj_dk okX11_waits 11 rfl) rfl rfl ?_
  refine gj_callS (q := 27) [jI (-1), jI (-1)] rfl (c_X10_unlike _ _) (gj_dk okX11_waits 12 rfl) ml_X11_157 me_X10_unlike (gj_nm rfl) rfl (gj_kI fun x6 S2 M2 h5 => ?_)
  obtain ⟨ex6, eS, eM⟩ := h5; subst eS; subst eM; subst ex6
  rw [show f_unl (-1) (-1) = 0 from by decide]
  refine gj_if_eq (q := 30) (tgt := 56) (gj_dk okX11_waits 13 rfl) (by decide) rfl (fun _ => ?_) (fun cc => absurd cc (by decide))
  refine gj_ldc (q := 58) (z := -2147483648) (gj_dk okX11_waits 26 rfl) kc_X11_135 (by decide) rfl ?_
  exact gj_iret (gj_dk okX11_waits 27 rfl) rfl ⟨_, rfl, rfl, rfl, rfl⟩
set_option maxHeartbeats 4000000 in
set_option maxRecDepth 20000 in
theorem q_X11_way (hst : gj_Stat S) (h : p_F 0 [] [] M)  (a1 : Int)  : gj_C G l 3 0 0 yX11_way cX11_way 2 (some .boolean) [jR 0, jI a1] S M (gj_qI fun x S' M' => (if 0 ≤ a1 ∧ a1 ≤ 3 then 1 else 0) = x ∧ S = S' ∧ p_W [21, 78] [] M M') := by
  refine gj_Cof (by decide +kernel) (Nat.le_of_ble_eq_true rfl) ?_
  change gj_W G l 3 0 0 yX11_way cX11_way 2 (some .boolean) (gj_qI fun x S' M' => (if 0 ≤ a1 ∧ a1 ≤ 3 then 1 else 0) = x ∧ S = S' ∧ p_W [21, 78] [] M M') 0 0 0 [(0, jR 0), (1, jI a1)] [] S M
  have w0 : p_W [21, 78] [] M M := fun _ _ _ _ _ => rfl
  refine gj_iload_n (q := 1) (gj_dk okX11_way 0 rfl) rfl rfl ?_
  refine gj_if_lt (q := 4) (tgt := 9) (gj_dk okX11_way 1 rfl) (by decide) rfl (fun c1 => ?_) (fun c1 => ?_)
  · -- 9
    refine gj_aload_n (q := 10) (gj_dk okX11_way 5 rfl) rfl rfl ?_
    refine gj_iconst (q := 11) (gj_dk okX11_way 6 rfl) (by decide) rfl ?_
    refine gj_callV (q := 14) (z := 0) (ci := 9) [jI 0] rfl (q_X11_refuse hst (h.of p_W.rf rfl)  _ ) (gj_dk okX11_way 7 rfl) ml_X11_92 me_X11_refuse (sh0 hst) rfl (gj_nm rfl) rfl (gj_kI fun x2 S2 M2 h1 => ?_)
    obtain ⟨ex2, eS, wc⟩ := h1
    subst eS
    have w4 : p_W [21, 78] [] M M2 := w0.trans (wc.wide rfl)
    clear wc 
    generalize M2 = M3 at *
    subst ex2
    exact gj_zret (gj_dk okX11_way 8 rfl) rfl (by first | decide | assumption | omega) ⟨_, rfl, (by first | rfl | omega | ((repeat' split) <;> omega)), rfl, w4⟩
  · -- 4
    refine gj_iload_n (q := 5) (gj_dk okX11_way 2 rfl) rfl rfl ?_
    refine gj_iconst (q := 6) (gj_dk okX11_way 3 rfl) (by decide) rfl ?_
    refine gj_icmp_le (q := 9) (tgt := 15) (gj_dk okX11_way 4 rfl) (by decide) rfl (fun c6 => ?_) (fun c6 => ?_)
    · -- 15
      refine gj_aload_n (q := 16) (gj_dk okX11_way 9 rfl) rfl rfl ?_
      refine gj_gR (q := 19) (j := 4) (gj_dk okX11_way 10 rfl) ff_X11_38 (sh0 hst) (by decide) rfl (rf0_4 hst) rfl ?_
      refine gj_iload_n (q := 20) (gj_dk okX11_way 11 rfl) rfl rfl ?_
      refine gj_pfI (q := 23) (j := 1) (gj_dk okX11_way 12 rfl) ff_X11_254 (sh21 hst) (by decide) rfl rfl ?_
      refine gj_abs (fun M5 e7 => ?_)
      have w6 : p_W [21, 78] [] M M5 := by rw [e7]; exact w0.up rfl
      clear e7
      refine gj_iconst (q := 24) (gj_dk okX11_way 13 rfl) (by decide) rfl ?_
      exact gj_zret (gj_dk okX11_way 14 rfl) rfl (by first | decide | assumption | omega) ⟨_, rfl, (by first | rfl | omega | ((repeat' split) <;> omega)), rfl, w6⟩
    · -- 9
      refine gj_aload_n (q := 10) (gj_dk okX11_way 5 rfl) rfl rfl ?_
      refine gj_iconst (q := 11) (gj_dk okX11_way 6 rfl) (by decide) rfl ?_
      refine gj_callV (q := 14) (z := 0) (ci := 9) [jI 0] rfl (q_X11_refuse hst (h.of p_W.rf rfl)  _ ) (gj_dk okX11_way 7 rfl) ml_X11_92 me_X11_refuse (sh0 hst) rfl (gj_nm rfl) rfl (gj_kI fun x9 S2 M2 h8 => ?_)
      obtain ⟨ex9, eS, wc⟩ := h8
      subst eS
      have w11 : p_W [21, 78] [] M M2 := w0.trans (wc.wide rfl)
      clear wc 
      generalize M2 = M10 at *
      subst ex9
      exact gj_zret (gj_dk okX11_way 8 rfl) rfl (by first | decide | assumption | omega) ⟨_, rfl, (by first | rfl | omega | ((repeat' split) <;> omega)), rfl, w11⟩
set_option maxHeartbeats 4000000 in
set_option maxRecDepth 20000 in
theorem q_X11_seed (hst : gj_Stat S) (h : p_F 0 [] [] M)  (a1 : Int)  : gj_C G l 3 0 0 yX11_seed cX11_seed 2 (some .boolean) [jR 0, jI a1] S M (gj_qI fun x S' M' => (if 0 ≤ a1 ∧ a1 ≤ 1000000 then 1 else 0) = x ∧ S = S' ∧ p_W [21, 78] [] M M') := by
  refine gj_Cof (by decide +kernel) (Nat.le_of_ble_eq_true rfl) ?_
  change gj_W G l 3 0 0 yX11_seed cX11_seed 2 (some .boolean) (gj_qI fun x S' M' => (if 0 ≤ a1 ∧ a1 ≤ 1000000 then 1 else 0) = x ∧ S = S' ∧ p_W [21, 78] [] M M') 0 0 0 [(0, jR 0), (1, jI a1)] [] S M
  have w0 : p_W [21, 78] [] M M := fun _ _ _ _ _ => rfl
  refine gj_iload_n (q := 1) (gj_dk okX11_seed 0 rfl) rfl rfl ?_
  refine gj_if_lt (q := 4) (tgt := 11) (gj_dk okX11_seed 1 rfl) (by decide) rfl (fun c1 => ?_) (fun c1 => ?_)
  · -- 11
    refine gj_aload_n (q := 12) (gj_dk okX11_seed 5 rfl) rfl rfl ?_
    refine gj_iconst (q := 13) (gj_dk okX11_seed 6 rfl) (by decide) rfl ?_
    refine gj_callV (q := 16) (z := 0) (ci := 9) [jI 2] rfl (q_X11_refuse hst (h.of p_W.rf rfl)  _ ) (gj_dk okX11_seed 7 rfl) ml_X11_92 me_X11_refuse (sh0 hst) rfl (gj_nm rfl) rfl (gj_kI fun x2 S2 M2 h1 => ?_)
    obtain ⟨ex2, eS, wc⟩ := h1
    subst eS
    have w4 : p_W [21, 78] [] M M2 := w0.trans (wc.wide rfl)
    clear wc 
    generalize M2 = M3 at *
    subst ex2
    exact gj_zret (gj_dk okX11_seed 8 rfl) rfl (by first | decide | assumption | omega) ⟨_, rfl, (by first | rfl | omega | ((repeat' split) <;> omega)), rfl, w4⟩
  · -- 4
    refine gj_iload_n (q := 5) (gj_dk okX11_seed 2 rfl) rfl rfl ?_
    refine gj_ldcw (q := 8) (z := 1000000) (gj_dk okX11_seed 3 rfl) kc_X11_257 (by decide) rfl ?_
    refine gj_icmp_le (q := 11) (tgt := 17) (gj_dk okX11_seed 4 rfl) (by decide) rfl (fun c8 => ?_) (fun c8 => ?_)
    · -- 17
      refine gj_aload_n (q := 18) (gj_dk okX11_seed 9 rfl) rfl rfl ?_
      refine gj_gR (q := 21) (j := 4) (gj_dk okX11_seed 10 rfl) ff_X11_38 (sh0 hst) (by decide) rfl (rf0_4 hst) rfl ?_
      refine gj_iload_n (q := 22) (gj_dk okX11_seed 11 rfl) rfl rfl ?_
      refine gj_pfI (q := 25) (j := 2) (gj_dk okX11_seed 12 rfl) ff_X11_258 (sh21 hst) (by decide) rfl rfl ?_
      refine gj_abs (fun M5 e7 => ?_)
      have w6 : p_W [21, 78] [] M M5 := by rw [e7]; exact w0.up rfl
      clear e7
      refine gj_iconst (q := 26) (gj_dk okX11_seed 13 rfl) (by decide) rfl ?_
      exact gj_zret (gj_dk okX11_seed 14 rfl) rfl (by first | decide | assumption | omega) ⟨_, rfl, (by first | rfl | omega | ((repeat' split) <;> omega)), rfl, w6⟩
    · -- 11
      refine gj_aload_n (q := 12) (gj_dk okX11_seed 5 rfl) rfl rfl ?_
      refine gj_iconst (q := 13) (gj_dk okX11_seed 6 rfl) (by decide) rfl ?_
      refine gj_callV (q := 16) (z := 0) (ci := 9) [jI 2] rfl (q_X11_refuse hst (h.of p_W.rf rfl)  _ ) (gj_dk okX11_seed 7 rfl) ml_X11_92 me_X11_refuse (sh0 hst) rfl (gj_nm rfl) rfl (gj_kI fun x9 S2 M2 h8 => ?_)
      obtain ⟨ex9, eS, wc⟩ := h8
      subst eS
      have w11 : p_W [21, 78] [] M M2 := w0.trans (wc.wide rfl)
      clear wc 
      generalize M2 = M10 at *
      subst ex9
      exact gj_zret (gj_dk okX11_seed 8 rfl) rfl (by first | decide | assumption | omega) ⟨_, rfl, (by first | rfl | omega | ((repeat' split) <;> omega)), rfl, w11⟩
set_option maxHeartbeats 4000000 in
set_option maxRecDepth 20000 in
theorem q_X11_green (hst : gj_Stat S) (h : p_F 0 [] [] M)  (a1 a2 : Int)  : gj_C G l 6 0 0 yX11_green cX11_green 4 (some .int) [jR 0, jI a1, jI a2] S M (gj_qI fun x S' M' => -2147483648 = x ∧ S = S' ∧ M = M') := by
  refine gj_Cof (by decide +kernel) (Nat.le_of_ble_eq_true rfl) ?_
  change gj_W G l 6 0 0 yX11_green cX11_green 4 (some .int) (gj_qI fun x S' M' => -2147483648 = x ∧ S = S' ∧ M = M') 0 0 0 [(0, jR 0), (1, jI a1), (2, jI a2)] [] S M
  refine gj_aload_n (q := 1) (gj_dk okX11_green 0 rfl) rfl rfl ?_
  refine gj_gR (q := 4) (j := 3) (gj_dk okX11_green 1 rfl) ff_X11_32 (sh0 hst) (by decide) rfl (rf0_3 hst) rfl ?_
  refine gj_iload_n (q := 5) (gj_dk okX11_green 2 rfl) rfl rfl ?_
  refine gj_callV (q := 8) (z := 14) (ci := 5) [jI a2] rfl (q_X5_slotOf hst (h.of p_W.rf rfl)  _ ) (gj_dk okX11_green 3 rfl) ml_X11_131 me_X5_slotOf (sh14 hst) rfl (gj_nm rfl) rfl (gj_kI fun x2 S2 M2 h1 => ?_)
  obtain ⟨ex2, eS, eM⟩ := h1
  subst eS
  subst eM
  subst ex2
  refine gj_istore_n (q := 9) (gj_dk okX11_green 4 rfl) (by decide) rfl ?_
  refine gj_iload_n (q := 10) (gj_dk okX11_green 5 rfl) rfl rfl ?_
  refine gj_iconst (q := 11) (gj_dk okX11_green 6 rfl) (by decide) rfl ?_
  refine gj_icmp_eq (q := 14) (tgt := 23) (gj_dk okX11_green 7 rfl) (by decide) rfl (fun _ => ?_) (fun cc => absurd cc (by decide))
  refine gj_ldc (q := 25) (z := -2147483648) (gj_dk okX11_green 13 rfl) kc_X11_135 (by decide) rfl ?_
  exact gj_iret (gj_dk okX11_green 14 rfl) rfl ⟨_, rfl, rfl, rfl, rfl⟩
set_option maxHeartbeats 4000000 in
set_option maxRecDepth 20000 in
theorem q_X11_may (hst : gj_Stat S) (h : p_F 0 [] [] M)  (a1 : Int)  : gj_C G l 3 0 0 yX11_may cX11_may 3 (some .int) [jR 0, jI a1] S M (gj_qI fun x S' M' => -1 = x ∧ S = S' ∧ p_W [78] [] M M') := by
  refine gj_Cof (by decide +kernel) (Nat.le_of_ble_eq_true rfl) ?_
  change gj_W G l 3 0 0 yX11_may cX11_may 3 (some .int) (gj_qI fun x S' M' => -1 = x ∧ S = S' ∧ p_W [78] [] M M') 0 0 0 [(0, jR 0), (1, jI a1)] [] S M
  have w0 : p_W [78] [] M M := fun _ _ _ _ _ => rfl
  refine gj_iload_n (q := 1) (gj_dk okX11_may 0 rfl) rfl rfl ?_
  refine gj_iconst (q := 2) (gj_dk okX11_may 1 rfl) (by decide) rfl ?_
  refine gj_icmp_lt (q := 5) (tgt := 21) (gj_dk okX11_may 2 rfl) (by decide) rfl (fun c2 => ?_) (fun c2 => ?_)
  · -- 21
    refine gj_aload_n (q := 22) (gj_dk okX11_may 10 rfl) rfl rfl ?_
    refine gj_iconst (q := 23) (gj_dk okX11_may 11 rfl) (by decide) rfl ?_
    refine gj_callV (q := 26) (z := 0) (ci := 9) [jI 2] rfl (q_X11_refuse hst (h.of p_W.rf rfl)  _ ) (gj_dk okX11_may 12 rfl) ml_X11_92 me_X11_refuse (sh0 hst) rfl (gj_nm rfl) rfl (gj_kI fun x2 S2 M2 h1 => ?_)
    obtain ⟨ex2, eS, wc⟩ := h1
    subst eS
    have w4 : p_W [78] [] M M2 := w0.trans (wc.wide rfl)
    clear wc 
    generalize M2 = M3 at *
    subst ex2
    refine gj_pop (q := 27) (gj_dk okX11_may 13 rfl) rfl rfl ?_
    refine gj_iconst (q := 28) (gj_dk okX11_may 14 rfl) (by decide) rfl ?_
    exact gj_iret (gj_dk okX11_may 15 rfl) rfl ⟨_, rfl, rfl, rfl, w4⟩
  · -- 5
    refine gj_iload_n (q := 6) (gj_dk okX11_may 3 rfl) rfl rfl ?_
    refine gj_bipush (q := 8) (gj_dk okX11_may 4 rfl) (by decide) rfl rfl ?_
    refine gj_icmp_gt (q := 11) (tgt := 21) (gj_dk okX11_may 5 rfl) (by decide) rfl (fun c8 => ?_) (fun c8 => ?_)
    · -- 21
      refine gj_aload_n (q := 22) (gj_dk okX11_may 10 rfl) rfl rfl ?_
      refine gj_iconst (q := 23) (gj_dk okX11_may 11 rfl) (by decide) rfl ?_
      refine gj_callV (q := 26) (z := 0) (ci := 9) [jI 2] rfl (q_X11_refuse hst (h.of p_W.rf rfl)  _ ) (gj_dk okX11_may 12 rfl) ml_X11_92 me_X11_refuse (sh0 hst) rfl (gj_nm rfl) rfl (gj_kI fun x6 S2 M2 h5 => ?_)
      obtain ⟨ex6, eS, wc⟩ := h5
      subst eS
      have w8 : p_W [78] [] M M2 := w0.trans (wc.wide rfl)
      clear wc 
      generalize M2 = M7 at *
      subst ex6
      refine gj_pop (q := 27) (gj_dk okX11_may 13 rfl) rfl rfl ?_
      refine gj_iconst (q := 28) (gj_dk okX11_may 14 rfl) (by decide) rfl ?_
      exact gj_iret (gj_dk okX11_may 15 rfl) rfl ⟨_, rfl, rfl, rfl, w8⟩
    · -- 11
      refine gj_aload_n (q := 12) (gj_dk okX11_may 6 rfl) rfl rfl ?_
      refine gj_gR (q := 15) (j := 3) (gj_dk okX11_may 7 rfl) ff_X11_32 (sh0 hst) (by decide) rfl (rf0_3 hst) rfl ?_
      refine gj_callV (q := 18) (z := 14) (ci := 5) [] rfl (q_X5_stands hst (h.of p_W.rf rfl)   ) (gj_dk okX11_may 8 rfl) ml_X11_268 me_X5_stands (sh14 hst) rfl (gj_nm rfl) rfl (gj_kI fun x10 S2 M2 h9 => ?_)
      obtain ⟨ex10, eS, eM⟩ := h9
      subst eS
      subst eM
      subst ex10
      refine gj_if_ne (q := 21) (tgt := 29) (gj_dk okX11_may 9 rfl) (by decide) rfl (fun cc => absurd cc (by decide)) (fun _ => ?_)
      refine gj_aload_n (q := 22) (gj_dk okX11_may 10 rfl) rfl rfl ?_
      refine gj_iconst (q := 23) (gj_dk okX11_may 11 rfl) (by decide) rfl ?_
      refine gj_callV (q := 26) (z := 0) (ci := 9) [jI 2] rfl (q_X11_refuse hst (h.of p_W.rf rfl)  _ ) (gj_dk okX11_may 12 rfl) ml_X11_92 me_X11_refuse (sh0 hst) rfl (gj_nm rfl) rfl (gj_kI fun x12 S2 M2 h11 => ?_)
      obtain ⟨ex12, eS, wc⟩ := h11
      subst eS
      have w14 : p_W [78] [] M M2 := w0.trans (wc.wide rfl)
      clear wc 
      generalize M2 = M13 at *
      subst ex12
      refine gj_pop (q := 27) (gj_dk okX11_may 13 rfl) rfl rfl ?_
      refine gj_iconst (q := 28) (gj_dk okX11_may 14 rfl) (by decide) rfl ?_
      exact gj_iret (gj_dk okX11_may 15 rfl) rfl ⟨_, rfl, rfl, rfl, w14⟩
set_option maxHeartbeats 4000000 in
set_option maxRecDepth 20000 in
theorem q_X11_join (hst : gj_Stat S) (h : p_F 0 [] [] M)  (a1 a2 : Int)  : gj_C G l 3 0 0 yX11_join cX11_join 5 (some .boolean) [jR 0, jI a1, jI a2] S M (gj_qI fun x S' M' => 0 = x ∧ S = S' ∧ p_W [78] [] M M') := by
  refine gj_Cof (by decide +kernel) (Nat.le_of_ble_eq_true rfl) ?_
  change gj_W G l 3 0 0 yX11_join cX11_join 5 (some .boolean) (gj_qI fun x S' M' => 0 = x ∧ S = S' ∧ p_W [78] [] M M') 0 0 0 [(0, jR 0), (1, jI a1), (2, jI a2)] [] S M
  have w0 : p_W [78] [] M M := fun _ _ _ _ _ => rfl
  refine gj_aload_n (q := 1) (gj_dk okX11_join 0 rfl) rfl rfl ?_
  refine gj_gR (q := 4) (j := 3) (gj_dk okX11_join 1 rfl) ff_X11_32 (sh0 hst) (by decide) rfl (rf0_3 hst) rfl ?_
  refine gj_iload_n (q := 5) (gj_dk okX11_join 2 rfl) rfl rfl ?_
  refine gj_callV (q := 8) (z := 14) (ci := 5) [jI a1] rfl (q_X5_slotOf hst (h.of p_W.rf rfl)  _ ) (gj_dk okX11_join 3 rfl) ml_X11_131 me_X5_slotOf (sh14 hst) rfl (gj_nm rfl) rfl (gj_kI fun x2 S2 M2 h1 => ?_)
  obtain ⟨ex2, eS, eM⟩ := h1
  subst eS
  subst eM
  subst ex2
  refine gj_istore_n (q := 9) (gj_dk okX11_join 4 rfl) (by decide) rfl ?_
  refine gj_aload_n (q := 10) (gj_dk okX11_join 5 rfl) rfl rfl ?_
  refine gj_gR (q := 13) (j := 3) (gj_dk okX11_join 6 rfl) ff_X11_32 (sh0 hst) (by decide) rfl (rf0_3 hst) rfl ?_
  refine gj_iload_n (q := 14) (gj_dk okX11_join 7 rfl) rfl rfl ?_
  refine gj_callV (q := 17) (z := 14) (ci := 5) [jI a2] rfl (q_X5_slotOf hst (h.of p_W.rf rfl)  _ ) (gj_dk okX11_join 8 rfl) ml_X11_131 me_X5_slotOf (sh14 hst) rfl (gj_nm rfl) rfl (gj_kI fun x4 S2 M2 h3 => ?_)
  obtain ⟨ex4, eS, eM⟩ := h3
  subst eS
  subst eM
  subst ex4
  refine gj_istore (q := 19) (gj_dk okX11_join 9 rfl) (by decide) rfl ?_
  refine gj_iload_n (q := 20) (gj_dk okX11_join 10 rfl) rfl rfl ?_
  refine gj_iload (q := 22) (gj_dk okX11_join 11 rfl) rfl rfl ?_
  refine gj_callS (q := 25) [jI (-1), jI (-1)] rfl (c_X10_unlike _ _) (gj_dk okX11_join 12 rfl) ml_X11_157 me_X10_unlike (gj_nm rfl) rfl (gj_kI fun x6 S2 M2 h5 => ?_)
  obtain ⟨ex6, eS, eM⟩ := h5; subst eS; subst eM; subst ex6
  rw [show f_unl (-1) (-1) = 0 from by decide]
  refine gj_if_eq (q := 28) (tgt := 34) (gj_dk okX11_join 13 rfl) (by decide) rfl (fun _ => ?_) (fun cc => absurd cc (by decide))
  refine gj_aload_n (q := 35) (gj_dk okX11_join 17 rfl) rfl rfl ?_
  refine gj_iconst (q := 36) (gj_dk okX11_join 18 rfl) (by decide) rfl ?_
  refine gj_callV (q := 39) (z := 0) (ci := 9) [jI 0] rfl (q_X11_refuse hst (h.of p_W.rf rfl)  _ ) (gj_dk okX11_join 19 rfl) ml_X11_92 me_X11_refuse (sh0 hst) rfl (gj_nm rfl) rfl (gj_kI fun x8 S2 M2 h7 => ?_)
  obtain ⟨ex8, eS, wc⟩ := h7
  subst eS
  have w10 : p_W [78] [] M M2 := w0.trans (wc.wide rfl)
  clear wc 
  generalize M2 = M9 at *
  subst ex8
  exact gj_zret (gj_dk okX11_join 20 rfl) rfl (by first | decide | assumption | omega) ⟨_, rfl, rfl, rfl, w10⟩
set_option maxHeartbeats 4000000 in
set_option maxRecDepth 20000 in
theorem q_X11_part (hst : gj_Stat S) (h : p_F 0 [] [] M)  (a1 : Int)  : gj_C G l 3 0 0 yX11_part cX11_part 4 (some .boolean) [jR 0, jI a1] S M (gj_qI fun x S' M' => 0 = x ∧ S = S' ∧ p_W [78] [] M M') := by
  refine gj_Cof (by decide +kernel) (Nat.le_of_ble_eq_true rfl) ?_
  change gj_W G l 3 0 0 yX11_part cX11_part 4 (some .boolean) (gj_qI fun x S' M' => 0 = x ∧ S = S' ∧ p_W [78] [] M M') 0 0 0 [(0, jR 0), (1, jI a1)] [] S M
  have w0 : p_W [78] [] M M := fun _ _ _ _ _ => rfl
  refine gj_aload_n (q := 1) (gj_dk okX11_part 0 rfl) rfl rfl ?_
  refine gj_gR (q := 4) (j := 3) (gj_dk okX11_part 1 rfl) ff_X11_32 (sh0 hst) (by decide) rfl (rf0_3 hst) rfl ?_
  refine gj_iload_n (q := 5) (gj_dk okX11_part 2 rfl) rfl rfl ?_
  refine gj_callV (q := 8) (z := 14) (ci := 5) [jI a1] rfl (q_X5_slotOf hst (h.of p_W.rf rfl)  _ ) (gj_dk okX11_part 3 rfl) ml_X11_131 me_X5_slotOf (sh14 hst) rfl (gj_nm rfl) rfl (gj_kI fun x2 S2 M2 h1 => ?_)
  obtain ⟨ex2, eS, eM⟩ := h1
  subst eS
  subst eM
  subst ex2
  refine gj_istore_n (q := 9) (gj_dk okX11_part 4 rfl) (by decide) rfl ?_
  refine gj_iload_n (q := 10) (gj_dk okX11_part 5 rfl) rfl rfl ?_
  refine gj_iconst (q := 11) (gj_dk okX11_part 6 rfl) (by decide) rfl ?_
  refine gj_icmp_ne (q := 14) (tgt := 20) (gj_dk okX11_part 7 rfl) (by decide) rfl (fun cc => absurd cc (by decide)) (fun _ => ?_)
  refine gj_aload_n (q := 15) (gj_dk okX11_part 8 rfl) rfl rfl ?_
  refine gj_iconst (q := 16) (gj_dk okX11_part 9 rfl) (by decide) rfl ?_
  refine gj_callV (q := 19) (z := 0) (ci := 9) [jI 0] rfl (q_X11_refuse hst (h.of p_W.rf rfl)  _ ) (gj_dk okX11_part 10 rfl) ml_X11_92 me_X11_refuse (sh0 hst) rfl (gj_nm rfl) rfl (gj_kI fun x4 S2 M2 h3 => ?_)
  obtain ⟨ex4, eS, wc⟩ := h3
  subst eS
  have w6 : p_W [78] [] M M2 := w0.trans (wc.wide rfl)
  clear wc 
  generalize M2 = M5 at *
  subst ex4
  exact gj_zret (gj_dk okX11_part 11 rfl) rfl (by first | decide | assumption | omega) ⟨_, rfl, rfl, rfl, w6⟩
set_option maxHeartbeats 4000000 in
set_option maxRecDepth 20000 in
theorem q_X11_log (hst : gj_Stat S) (h : p_F 0 [] [] M)  (a1 a2 : Int)  : gj_C G l 3 0 0 yX11_log cX11_log 3 (some .int) [jR 0, jI a1, jI a2] S M (gj_qI fun x S' M' => (if a1 = -1 then 0 else -1) = x ∧ S = S' ∧ M = M') := by
  refine gj_Cof (by decide +kernel) (Nat.le_of_ble_eq_true rfl) ?_
  change gj_W G l 3 0 0 yX11_log cX11_log 3 (some .int) (gj_qI fun x S' M' => (if a1 = -1 then 0 else -1) = x ∧ S = S' ∧ M = M') 0 0 0 [(0, jR 0), (1, jI a1), (2, jI a2)] [] S M
  refine gj_iload_n (q := 1) (gj_dk okX11_log 0 rfl) rfl rfl ?_
  refine gj_iconst (q := 2) (gj_dk okX11_log 1 rfl) (by decide) rfl ?_
  refine gj_icmp_ne (q := 5) (tgt := 18) (gj_dk okX11_log 2 rfl) (by decide) rfl (fun c2 => ?_) (fun c2 => ?_)
  · -- 18
    refine gj_aload_n (q := 19) (gj_dk okX11_log 8 rfl) rfl rfl ?_
    refine gj_gR (q := 22) (j := 4) (gj_dk okX11_log 9 rfl) ff_X11_38 (sh0 hst) (by decide) rfl (rf0_4 hst) rfl ?_
    refine gj_gR (q := 25) (j := 10) (gj_dk okX11_log 10 rfl) ff_X11_285 (sh21 hst) (by decide) rfl (rf21_10 hst) rfl ?_
    refine gj_iload_n (q := 26) (gj_dk okX11_log 11 rfl) rfl rfl ?_
    refine gj_iload_n (q := 27) (gj_dk okX11_log 12 rfl) rfl rfl ?_
    refine gj_callV (q := 30) (z := 29) (ci := 1) [jI a1, jI a2] rfl (q_X1_tell hst (h.of p_W.rf rfl)  _ _ ) (gj_dk okX11_log 13 rfl) ml_X11_294 me_X1_tell (sh29 hst) rfl (gj_nm rfl) rfl (gj_kI fun x2 S2 M2 h1 => ?_)
    obtain ⟨ex2, eS, eM⟩ := h1
    subst eS
    subst eM
    subst ex2
    exact gj_iret (gj_dk okX11_log 14 rfl) rfl ⟨_, rfl, (by first | rfl | omega | ((repeat' split) <;> omega)), rfl, rfl⟩
  · -- 5
    refine gj_aload_n (q := 6) (gj_dk okX11_log 3 rfl) rfl rfl ?_
    refine gj_gR (q := 9) (j := 4) (gj_dk okX11_log 4 rfl) ff_X11_38 (sh0 hst) (by decide) rfl (rf0_4 hst) rfl ?_
    refine gj_gR (q := 12) (j := 10) (gj_dk okX11_log 5 rfl) ff_X11_285 (sh21 hst) (by decide) rfl (rf21_10 hst) rfl ?_
    refine gj_callV (q := 15) (z := 29) (ci := 1) [] rfl (q_X1_size hst (h.of p_W.rf rfl)   ) (gj_dk okX11_log 6 rfl) ml_X11_289 me_X1_size (sh29 hst) rfl (gj_nm rfl) rfl (gj_kI fun x4 S2 M2 h3 => ?_)
    obtain ⟨ex4, eS, eM⟩ := h3
    subst eS
    subst eM
    subst ex4
    refine gj_goto (tgt := 30) (gj_dk okX11_log 7 rfl) (by decide) ?_
    exact gj_iret (gj_dk okX11_log 14 rfl) rfl ⟨_, rfl, (by first | rfl | omega | ((repeat' split) <;> omega)), rfl, rfl⟩
set_option maxHeartbeats 4000000 in
set_option maxRecDepth 20000 in
theorem q_X11_blocks (hst : gj_Stat S) (h : p_F 0 [] [] M)  (a1 : Int)  : gj_C G l 6 0 0 yX11_blocks cX11_blocks 5 (some .int) [jR 0, jI a1] S M (gj_qI fun x S' M' => (if a1 = -1 then 0 else -1) = x ∧ S = S' ∧ p_W [36, 37] [] M M') := by
  refine gj_Cof (by decide +kernel) (Nat.le_of_ble_eq_true rfl) ?_
  change gj_W G l 6 0 0 yX11_blocks cX11_blocks 5 (some .int) (gj_qI fun x S' M' => (if a1 = -1 then 0 else -1) = x ∧ S = S' ∧ p_W [36, 37] [] M M') 0 0 0 [(0, jR 0), (1, jI a1)] [] S M
  have w0 : p_W [36, 37] [] M M := fun _ _ _ _ _ => rfl
  refine gj_aload_n (q := 1) (gj_dk okX11_blocks 0 rfl) rfl rfl ?_
  refine gj_gR (q := 4) (j := 6) (gj_dk okX11_blocks 1 rfl) ff_X11_54 (sh0 hst) (by decide) rfl (rf0_6 hst) rfl ?_
  refine gj_iconst (q := 5) (gj_dk okX11_blocks 2 rfl) (by decide) rfl ?_
  refine gj_callV (q := 8) (z := 35) (ci := 2) [jI 1] rfl (q_X2_look hst (h.of p_W.rf rfl)  _ ) (gj_dk okX11_blocks 3 rfl) ml_X11_206 me_X2_look (sh35 hst) rfl (gj_nm rfl) rfl (gj_kV fun S2 M2 h1 => ?_)
  obtain ⟨eS, wc⟩ := h1
  subst eS
  have w4 : p_W [36, 37] [] M M2 := w0.trans (wc.wide rfl)
  clear wc 
  generalize M2 = M3 at *
  refine gj_iconst (q := 9) (gj_dk okX11_blocks 4 rfl) (by decide) rfl ?_
  refine gj_istore_n (q := 10) (gj_dk okX11_blocks 5 rfl) (by decide) rfl ?_
  refine gj_iconst (q := 11) (gj_dk okX11_blocks 6 rfl) (by decide) rfl ?_
  refine gj_istore_n (q := 12) (gj_dk okX11_blocks 7 rfl) (by decide) rfl ?_
  refine gj_iload_n (q := 13) (gj_dk okX11_blocks 8 rfl) rfl rfl ?_
  refine gj_aload_n (q := 14) (gj_dk okX11_blocks 9 rfl) rfl rfl ?_
  refine gj_gR (q := 17) (j := 3) (gj_dk okX11_blocks 10 rfl) ff_X11_32 (sh0 hst) (by decide) rfl (rf0_3 hst) rfl ?_
  refine gj_gI (q := 20) (j := 0) (gj_dk okX11_blocks 11 rfl) ff_X11_124 (sh14 hst) (by decide) rfl rfl ?_
  rw [show M3 14 0 = 0 from ((w4 14 0 rfl rfl rfl).trans (h.get 14 0 rfl rfl rfl (v := 0) (by decide)))]
  refine gj_icmp_ge (q := 23) (tgt := 87) (gj_dk okX11_blocks 12 rfl) (by decide) rfl (fun _ => ?_) (fun cc => absurd cc (by decide))
  refine gj_iload_n (q := 88) (gj_dk okX11_blocks 45 rfl) rfl rfl ?_
  refine gj_iconst (q := 89) (gj_dk okX11_blocks 46 rfl) (by decide) rfl ?_
  refine gj_icmp_ne (q := 92) (tgt := 96) (gj_dk okX11_blocks 47 rfl) (by decide) rfl (fun c89 => ?_) (fun c89 => ?_)
  · -- 96
    refine gj_iconst (q := 97) (gj_dk okX11_blocks 50 rfl) (by decide) rfl ?_
    exact gj_iret (gj_dk okX11_blocks 51 rfl) rfl ⟨_, rfl, (by first | rfl | omega | ((repeat' split) <;> omega)), rfl, w4⟩
  · -- 92
    refine gj_iload_n (q := 93) (gj_dk okX11_blocks 48 rfl) rfl rfl ?_
    refine gj_goto (tgt := 97) (gj_dk okX11_blocks 49 rfl) (by decide) ?_
    exact gj_iret (gj_dk okX11_blocks 51 rfl) rfl ⟨_, rfl, (by first | rfl | omega | ((repeat' split) <;> omega)), rfl, w4⟩
set_option maxHeartbeats 4000000 in
set_option maxRecDepth 20000 in
theorem q_X11_parents (hst : gj_Stat S) (h : p_F 0 [] [] M)  (a1 : Int)  : gj_C G l 2 0 0 yX11_parents cX11_parents 3 (some .int) [jR 0, jI a1] S M (gj_qI fun x S' M' => -2147483648 = x ∧ S = S' ∧ M = M') := by
  refine gj_Cof (by decide +kernel) (Nat.le_of_ble_eq_true rfl) ?_
  change gj_W G l 2 0 0 yX11_parents cX11_parents 3 (some .int) (gj_qI fun x S' M' => -2147483648 = x ∧ S = S' ∧ M = M') 0 0 0 [(0, jR 0), (1, jI a1)] [] S M
  refine gj_aload_n (q := 1) (gj_dk okX11_parents 0 rfl) rfl rfl ?_
  refine gj_gR (q := 4) (j := 3) (gj_dk okX11_parents 1 rfl) ff_X11_32 (sh0 hst) (by decide) rfl (rf0_3 hst) rfl ?_
  refine gj_callV (q := 7) (z := 14) (ci := 5) [] rfl (q_X5_stands hst (h.of p_W.rf rfl)   ) (gj_dk okX11_parents 2 rfl) ml_X11_268 me_X5_stands (sh14 hst) rfl (gj_nm rfl) rfl (gj_kI fun x2 S2 M2 h1 => ?_)
  obtain ⟨ex2, eS, eM⟩ := h1
  subst eS
  subst eM
  subst ex2
  refine gj_if_ne (q := 10) (tgt := 13) (gj_dk okX11_parents 3 rfl) (by decide) rfl (fun cc => absurd cc (by decide)) (fun _ => ?_)
  refine gj_ldc (q := 12) (z := -2147483648) (gj_dk okX11_parents 4 rfl) kc_X11_135 (by decide) rfl ?_
  exact gj_iret (gj_dk okX11_parents 5 rfl) rfl ⟨_, rfl, rfl, rfl, rfl⟩
set_option maxHeartbeats 4000000 in
set_option maxRecDepth 20000 in
theorem q_X11_life (hst : gj_Stat S) (h : p_F 0 [] [] M)  (a1 a2 : Int)  : gj_C G l 6 0 0 yX11_life cX11_life 4 (some .int) [jR 0, jI a1, jI a2] S M (gj_qI fun x S' M' => -2147483648 = x ∧ S = S' ∧ M = M') := by
  refine gj_Cof (by decide +kernel) (Nat.le_of_ble_eq_true rfl) ?_
  change gj_W G l 6 0 0 yX11_life cX11_life 4 (some .int) (gj_qI fun x S' M' => -2147483648 = x ∧ S = S' ∧ M = M') 0 0 0 [(0, jR 0), (1, jI a1), (2, jI a2)] [] S M
  refine gj_aload_n (q := 1) (gj_dk okX11_life 0 rfl) rfl rfl ?_
  refine gj_gR (q := 4) (j := 3) (gj_dk okX11_life 1 rfl) ff_X11_32 (sh0 hst) (by decide) rfl (rf0_3 hst) rfl ?_
  refine gj_callV (q := 7) (z := 14) (ci := 5) [] rfl (q_X5_stands hst (h.of p_W.rf rfl)   ) (gj_dk okX11_life 2 rfl) ml_X11_268 me_X5_stands (sh14 hst) rfl (gj_nm rfl) rfl (gj_kI fun x2 S2 M2 h1 => ?_)
  obtain ⟨ex2, eS, eM⟩ := h1
  subst eS
  subst eM
  subst ex2
  refine gj_if_eq (q := 10) (tgt := 30) (gj_dk okX11_life 3 rfl) (by decide) rfl (fun _ => ?_) (fun cc => absurd cc (by decide))
  refine gj_ldc (q := 32) (z := -2147483648) (gj_dk okX11_life 15 rfl) kc_X11_135 (by decide) rfl ?_
  exact gj_iret (gj_dk okX11_life 16 rfl) rfl ⟨_, rfl, rfl, rfl, rfl⟩
set_option maxHeartbeats 4000000 in
set_option maxRecDepth 20000 in
theorem q_X11_never (hst : gj_Stat S) (h : p_F 0 [] [] M)  (a1 : Int)  : gj_C G l 2 0 0 yX11_never cX11_never 2 (some .int) [jR 0, jI a1] S M (gj_qI fun x S' M' => -2147483648 = x ∧ S = S' ∧ M = M') := by
  refine gj_Cof (by decide +kernel) (Nat.le_of_ble_eq_true rfl) ?_
  change gj_W G l 2 0 0 yX11_never cX11_never 2 (some .int) (gj_qI fun x S' M' => -2147483648 = x ∧ S = S' ∧ M = M') 0 0 0 [(0, jR 0), (1, jI a1)] [] S M
  refine gj_aload_n (q := 1) (gj_dk okX11_never 0 rfl) rfl rfl ?_
  refine gj_gR (q := 4) (j := 3) (gj_dk okX11_never 1 rfl) ff_X11_32 (sh0 hst) (by decide) rfl (rf0_3 hst) rfl ?_
  refine gj_callV (q := 7) (z := 14) (ci := 5) [] rfl (q_X5_stands hst (h.of p_W.rf rfl)   ) (gj_dk okX11_never 2 rfl) ml_X11_268 me_X5_stands (sh14 hst) rfl (gj_nm rfl) rfl (gj_kI fun x2 S2 M2 h1 => ?_)
  obtain ⟨ex2, eS, eM⟩ := h1
  subst eS
  subst eM
  subst ex2
  refine gj_if_ne (q := 10) (tgt := 13) (gj_dk okX11_never 3 rfl) (by decide) rfl (fun cc => absurd cc (by decide)) (fun _ => ?_)
  refine gj_ldc (q := 12) (z := -2147483648) (gj_dk okX11_never 4 rfl) kc_X11_135 (by decide) rfl ?_
  exact gj_iret (gj_dk okX11_never 5 rfl) rfl ⟨_, rfl, rfl, rfl, rfl⟩
set_option maxHeartbeats 4000000 in
set_option maxRecDepth 20000 in
theorem q_X11_pairs (hst : gj_Stat S) (h : p_F 0 [] [] M)  (a1 a2 : Int)  : gj_C G l 3 0 0 yX11_pairs cX11_pairs 3 (some .int) [jR 0, jI a1, jI a2] S M (gj_qI fun x S' M' => (if 0 ≤ a1 ∧ a1 ≤ 100 ∧ 0 ≤ a2 ∧ a2 ≤ 1 then 0 else -1) = x ∧ S = S' ∧ M = M') := by
  refine gj_Cof (by decide +kernel) (Nat.le_of_ble_eq_true rfl) ?_
  change gj_W G l 3 0 0 yX11_pairs cX11_pairs 3 (some .int) (gj_qI fun x S' M' => (if 0 ≤ a1 ∧ a1 ≤ 100 ∧ 0 ≤ a2 ∧ a2 ≤ 1 then 0 else -1) = x ∧ S = S' ∧ M = M') 0 0 0 [(0, jR 0), (1, jI a1), (2, jI a2)] [] S M
  refine gj_iload_n (q := 1) (gj_dk okX11_pairs 0 rfl) rfl rfl ?_
  refine gj_if_lt (q := 4) (tgt := 10) (gj_dk okX11_pairs 1 rfl) (by decide) rfl (fun c1 => ?_) (fun c1 => ?_)
  · -- 10
    refine gj_iconst (q := 11) (gj_dk okX11_pairs 5 rfl) (by decide) rfl ?_
    exact gj_iret (gj_dk okX11_pairs 6 rfl) rfl ⟨_, rfl, (by first | rfl | omega | ((repeat' split) <;> omega)), rfl, rfl⟩
  · -- 4
    refine gj_iload_n (q := 5) (gj_dk okX11_pairs 2 rfl) rfl rfl ?_
    refine gj_bipush (q := 7) (gj_dk okX11_pairs 3 rfl) (by decide) rfl rfl ?_
    refine gj_icmp_le (q := 10) (tgt := 12) (gj_dk okX11_pairs 4 rfl) (by decide) rfl (fun c7 => ?_) (fun c7 => ?_)
    · -- 12
      refine gj_iload_n (q := 13) (gj_dk okX11_pairs 7 rfl) rfl rfl ?_
      by_cases c13_0 : a2 = 0
      · refine gj_lookup (tgt := 40) (off := 27) (gj_dk okX11_pairs 8 rfl) (by decide) (by rw [c13_0]; rfl) (by decide) ?_
        refine gj_aload_n (q := 41) (gj_dk okX11_pairs 9 rfl) rfl rfl ?_
        refine gj_gR (q := 44) (j := 4) (gj_dk okX11_pairs 10 rfl) ff_X11_38 (sh0 hst) (by decide) rfl (rf0_4 hst) rfl ?_
        refine gj_iconst (q := 45) (gj_dk okX11_pairs 11 rfl) (by decide) rfl ?_
        refine gj_callV (q := 48) (z := 21) (ci := 3) [jI 0] rfl (q_X3_pairsOf hst (h.of p_W.rf rfl)  _ ) (gj_dk okX11_pairs 12 rfl) ml_X11_311 me_X3_pairsOf (sh21 hst) rfl (gj_nm rfl) rfl (gj_kI fun x2 S2 M2 h1 => ?_)
        obtain ⟨ex2, eS, eM⟩ := h1
        subst eS
        subst eM
        subst ex2
        exact gj_iret (gj_dk okX11_pairs 13 rfl) rfl ⟨_, rfl, (by first | rfl | omega | ((repeat' split) <;> omega)), rfl, rfl⟩
      by_cases c13_1 : a2 = 1
      · refine gj_lookup (tgt := 49) (off := 36) (gj_dk okX11_pairs 8 rfl) (by decide) (by rw [c13_1]; rfl) (by decide) ?_
        refine gj_aload_n (q := 50) (gj_dk okX11_pairs 14 rfl) rfl rfl ?_
        refine gj_gR (q := 53) (j := 4) (gj_dk okX11_pairs 15 rfl) ff_X11_38 (sh0 hst) (by decide) rfl (rf0_4 hst) rfl ?_
        refine gj_iload_n (q := 54) (gj_dk okX11_pairs 16 rfl) rfl rfl ?_
        refine gj_callV (q := 57) (z := 21) (ci := 3) [jI a1] rfl (q_X3_pairsOf hst (h.of p_W.rf rfl)  _ ) (gj_dk okX11_pairs 17 rfl) ml_X11_311 me_X3_pairsOf (sh21 hst) rfl (gj_nm rfl) rfl (gj_kI fun x4 S2 M2 h3 => ?_)
        obtain ⟨ex4, eS, eM⟩ := h3
        subst eS
        subst eM
        subst ex4
        exact gj_iret (gj_dk okX11_pairs 18 rfl) rfl ⟨_, rfl, (by first | rfl | omega | ((repeat' split) <;> omega)), rfl, rfl⟩
      refine gj_lookup (tgt := 58) (off := 45) (gj_dk okX11_pairs 8 rfl) (by decide) (by simp [Op.lookupswitch.offset, c13_0, Ne.symm c13_0, c13_1, Ne.symm c13_1]) (by decide) ?_
      refine gj_iconst (q := 59) (gj_dk okX11_pairs 19 rfl) (by decide) rfl ?_
      exact gj_iret (gj_dk okX11_pairs 20 rfl) rfl ⟨_, rfl, (by first | rfl | omega | ((repeat' split) <;> omega)), rfl, rfl⟩
    · -- 10
      refine gj_iconst (q := 11) (gj_dk okX11_pairs 5 rfl) (by decide) rfl ?_
      exact gj_iret (gj_dk okX11_pairs 6 rfl) rfl ⟨_, rfl, (by first | rfl | omega | ((repeat' split) <;> omega)), rfl, rfl⟩
set_option maxHeartbeats 4000000 in
set_option maxRecDepth 20000 in
theorem q_X11_image (hst : gj_Stat S) (h : p_F 0 [] [] M)  (a1 : Int)  : gj_C G l 3 0 0 yX11_image cX11_image 3 (some .boolean) [jR 0, jI a1] S M (gj_qI fun x S' M' => 0 = x ∧ S = S' ∧ p_W [78] [] M M') := by
  refine gj_Cof (by decide +kernel) (Nat.le_of_ble_eq_true rfl) ?_
  change gj_W G l 3 0 0 yX11_image cX11_image 3 (some .boolean) (gj_qI fun x S' M' => 0 = x ∧ S = S' ∧ p_W [78] [] M M') 0 0 0 [(0, jR 0), (1, jI a1)] [] S M
  have w0 : p_W [78] [] M M := fun _ _ _ _ _ => rfl
  refine gj_aload_n (q := 1) (gj_dk okX11_image 0 rfl) rfl rfl ?_
  refine gj_iload_n (q := 2) (gj_dk okX11_image 1 rfl) rfl rfl ?_
  refine gj_callV (q := 5) (z := 0) (ci := 9) [jI a1] rfl (q_X11_pictureAt hst (h.of p_W.rf rfl) _) (gj_dk okX11_image 2 rfl) ml_X11_314 me_X11_pictureAt (sh0 hst) rfl (gj_nm rfl) rfl (gj_kR fun x2 S2 M2 h1 => ?_)
  obtain ⟨ex2, eS, eM⟩ := h1; subst eS; subst eM; subst ex2
  by_cases j0 : a1 = 0
  · rw [show f_pic a1 = 47 from by rw [j0]; rfl]
    refine gj_astore_n (q := 6) (gj_dk okX11_image 3 rfl) (by decide) rfl ?_
    refine gj_aload_n (q := 7) (gj_dk okX11_image 4 rfl) rfl rfl ?_
    refine gj_ifnonnull (q := 10) (tgt := 16) (gj_dk okX11_image 5 rfl) (by decide) rfl (fun c7 => ?_) (fun c7 => ?_)
    · -- 16
      refine gj_aload_n (q := 17) (gj_dk okX11_image 10 rfl) rfl rfl ?_
      refine gj_gR (q := 20) (j := 3) (gj_dk okX11_image 11 rfl) ff_X11_32 (sh0 hst) (by decide) rfl (rf0_3 hst) rfl ?_
      refine gj_callV (q := 23) (z := 14) (ci := 5) [] rfl (q_X5_stands hst (h.of p_W.rf rfl)   ) (gj_dk okX11_image 12 rfl) ml_X11_268 me_X5_stands (sh14 hst) rfl (gj_nm rfl) rfl (gj_kI fun x4 S2 M2 h3 => ?_)
      obtain ⟨ex4, eS, eM⟩ := h3
      subst eS
      subst eM
      subst ex4
      refine gj_if_ne (q := 26) (tgt := 32) (gj_dk okX11_image 13 rfl) (by decide) rfl (fun cc => absurd cc (by decide)) (fun _ => ?_)
      refine gj_aload_n (q := 27) (gj_dk okX11_image 14 rfl) rfl rfl ?_
      refine gj_iconst (q := 28) (gj_dk okX11_image 15 rfl) (by decide) rfl ?_
      refine gj_callV (q := 31) (z := 0) (ci := 9) [jI 2] rfl (q_X11_refuse hst (h.of p_W.rf rfl)  _ ) (gj_dk okX11_image 16 rfl) ml_X11_92 me_X11_refuse (sh0 hst) rfl (gj_nm rfl) rfl (gj_kI fun x6 S2 M2 h5 => ?_)
      obtain ⟨ex6, eS, wc⟩ := h5
      subst eS
      have w8 : p_W [78] [] M M2 := w0.trans (wc.wide rfl)
      clear wc 
      generalize M2 = M7 at *
      subst ex6
      exact gj_zret (gj_dk okX11_image 17 rfl) rfl (by first | decide | assumption | omega) ⟨_, rfl, rfl, rfl, w8⟩
    · first | exact absurd c7 (by decide) | exact absurd rfl c7
  by_cases j1 : a1 = 1
  · rw [show f_pic a1 = 57 from by rw [j1]; rfl]
    refine gj_astore_n (q := 6) (gj_dk okX11_image 3 rfl) (by decide) rfl ?_
    refine gj_aload_n (q := 7) (gj_dk okX11_image 4 rfl) rfl rfl ?_
    refine gj_ifnonnull (q := 10) (tgt := 16) (gj_dk okX11_image 5 rfl) (by decide) rfl (fun c7 => ?_) (fun c7 => ?_)
    · -- 16
      refine gj_aload_n (q := 17) (gj_dk okX11_image 10 rfl) rfl rfl ?_
      refine gj_gR (q := 20) (j := 3) (gj_dk okX11_image 11 rfl) ff_X11_32 (sh0 hst) (by decide) rfl (rf0_3 hst) rfl ?_
      refine gj_callV (q := 23) (z := 14) (ci := 5) [] rfl (q_X5_stands hst (h.of p_W.rf rfl)   ) (gj_dk okX11_image 12 rfl) ml_X11_268 me_X5_stands (sh14 hst) rfl (gj_nm rfl) rfl (gj_kI fun x10 S2 M2 h9 => ?_)
      obtain ⟨ex10, eS, eM⟩ := h9
      subst eS
      subst eM
      subst ex10
      refine gj_if_ne (q := 26) (tgt := 32) (gj_dk okX11_image 13 rfl) (by decide) rfl (fun cc => absurd cc (by decide)) (fun _ => ?_)
      refine gj_aload_n (q := 27) (gj_dk okX11_image 14 rfl) rfl rfl ?_
      refine gj_iconst (q := 28) (gj_dk okX11_image 15 rfl) (by decide) rfl ?_
      refine gj_callV (q := 31) (z := 0) (ci := 9) [jI 2] rfl (q_X11_refuse hst (h.of p_W.rf rfl)  _ ) (gj_dk okX11_image 16 rfl) ml_X11_92 me_X11_refuse (sh0 hst) rfl (gj_nm rfl) rfl (gj_kI fun x12 S2 M2 h11 => ?_)
      obtain ⟨ex12, eS, wc⟩ := h11
      subst eS
      have w14 : p_W [78] [] M M2 := w0.trans (wc.wide rfl)
      clear wc 
      generalize M2 = M13 at *
      subst ex12
      exact gj_zret (gj_dk okX11_image 17 rfl) rfl (by first | decide | assumption | omega) ⟨_, rfl, rfl, rfl, w14⟩
    · first | exact absurd c7 (by decide) | exact absurd rfl c7
  by_cases j2 : a1 = 2
  · rw [show f_pic a1 = 67 from by rw [j2]; rfl]
    refine gj_astore_n (q := 6) (gj_dk okX11_image 3 rfl) (by decide) rfl ?_
    refine gj_aload_n (q := 7) (gj_dk okX11_image 4 rfl) rfl rfl ?_
    refine gj_ifnonnull (q := 10) (tgt := 16) (gj_dk okX11_image 5 rfl) (by decide) rfl (fun c7 => ?_) (fun c7 => ?_)
    · -- 16
      refine gj_aload_n (q := 17) (gj_dk okX11_image 10 rfl) rfl rfl ?_
      refine gj_gR (q := 20) (j := 3) (gj_dk okX11_image 11 rfl) ff_X11_32 (sh0 hst) (by decide) rfl (rf0_3 hst) rfl ?_
      refine gj_callV (q := 23) (z := 14) (ci := 5) [] rfl (q_X5_stands hst (h.of p_W.rf rfl)   ) (gj_dk okX11_image 12 rfl) ml_X11_268 me_X5_stands (sh14 hst) rfl (gj_nm rfl) rfl (gj_kI fun x16 S2 M2 h15 => ?_)
      obtain ⟨ex16, eS, eM⟩ := h15
      subst eS
      subst eM
      subst ex16
      refine gj_if_ne (q := 26) (tgt := 32) (gj_dk okX11_image 13 rfl) (by decide) rfl (fun cc => absurd cc (by decide)) (fun _ => ?_)
      refine gj_aload_n (q := 27) (gj_dk okX11_image 14 rfl) rfl rfl ?_
      refine gj_iconst (q := 28) (gj_dk okX11_image 15 rfl) (by decide) rfl ?_
      refine gj_callV (q := 31) (z := 0) (ci := 9) [jI 2] rfl (q_X11_refuse hst (h.of p_W.rf rfl)  _ ) (gj_dk okX11_image 16 rfl) ml_X11_92 me_X11_refuse (sh0 hst) rfl (gj_nm rfl) rfl (gj_kI fun x18 S2 M2 h17 => ?_)
      obtain ⟨ex18, eS, wc⟩ := h17
      subst eS
      have w20 : p_W [78] [] M M2 := w0.trans (wc.wide rfl)
      clear wc 
      generalize M2 = M19 at *
      subst ex18
      exact gj_zret (gj_dk okX11_image 17 rfl) rfl (by first | decide | assumption | omega) ⟨_, rfl, rfl, rfl, w20⟩
    · first | exact absurd c7 (by decide) | exact absurd rfl c7
  rw [show f_pic a1 = -1 from (if_neg j0).trans ((if_neg j1).trans (if_neg j2))]
  refine gj_astore_n (q := 6) (gj_dk okX11_image 3 rfl) (by decide) rfl ?_
  refine gj_aload_n (q := 7) (gj_dk okX11_image 4 rfl) rfl rfl ?_
  refine gj_ifnonnull (q := 10) (tgt := 16) (gj_dk okX11_image 5 rfl) (by decide) rfl (fun c7 => ?_) (fun c7 => ?_)
  · first | exact absurd c7 (by decide) | exact absurd rfl c7
  · -- 10
    refine gj_aload_n (q := 11) (gj_dk okX11_image 6 rfl) rfl rfl ?_
    refine gj_iconst (q := 12) (gj_dk okX11_image 7 rfl) (by decide) rfl ?_
    refine gj_callV (q := 15) (z := 0) (ci := 9) [jI 0] rfl (q_X11_refuse hst (h.of p_W.rf rfl)  _ ) (gj_dk okX11_image 8 rfl) ml_X11_92 me_X11_refuse (sh0 hst) rfl (gj_nm rfl) rfl (gj_kI fun x22 S2 M2 h21 => ?_)
    obtain ⟨ex22, eS, wc⟩ := h21
    subst eS
    have w24 : p_W [78] [] M M2 := w0.trans (wc.wide rfl)
    clear wc 
    generalize M2 = M23 at *
    subst ex22
    exact gj_zret (gj_dk okX11_image 9 rfl) rfl (by first | decide | assumption | omega) ⟨_, rfl, rfl, rfl, w24⟩
set_option maxHeartbeats 4000000 in
set_option maxRecDepth 20000 in
theorem q_X11_on (hst : gj_Stat S) (h : p_F 0 [] [] M)  (a1 : Int)  : gj_C G l 3 0 0 yX11_on cX11_on 3 (some .boolean) [jR 0, jI a1] S M (gj_qI fun x S' M' => 0 = x ∧ S = S' ∧ p_W [78] [] M M') := by
  refine gj_Cof (by decide +kernel) (Nat.le_of_ble_eq_true rfl) ?_
  change gj_W G l 3 0 0 yX11_on cX11_on 3 (some .boolean) (gj_qI fun x S' M' => 0 = x ∧ S = S' ∧ p_W [78] [] M M') 0 0 0 [(0, jR 0), (1, jI a1)] [] S M
  have w0 : p_W [78] [] M M := fun _ _ _ _ _ => rfl
  refine gj_aload_n (q := 1) (gj_dk okX11_on 0 rfl) rfl rfl ?_
  refine gj_iload_n (q := 2) (gj_dk okX11_on 1 rfl) rfl rfl ?_
  refine gj_callV (q := 5) (z := 0) (ci := 9) [jI a1] rfl (q_X11_pictureAt hst (h.of p_W.rf rfl) _) (gj_dk okX11_on 2 rfl) ml_X11_314 me_X11_pictureAt (sh0 hst) rfl (gj_nm rfl) rfl (gj_kR fun x2 S2 M2 h1 => ?_)
  obtain ⟨ex2, eS, eM⟩ := h1; subst eS; subst eM; subst ex2
  by_cases j0 : a1 = 0
  · rw [show f_pic a1 = 47 from by rw [j0]; rfl]
    refine gj_astore_n (q := 6) (gj_dk okX11_on 3 rfl) (by decide) rfl ?_
    refine gj_aload_n (q := 7) (gj_dk okX11_on 4 rfl) rfl rfl ?_
    refine gj_ifnull (q := 10) (tgt := 21) (gj_dk okX11_on 5 rfl) (by decide) rfl (fun c7 => ?_) (fun c7 => ?_)
    · first | exact absurd c7 (by decide) | exact absurd rfl c7
    · -- 10
      refine gj_aload_n (q := 11) (gj_dk okX11_on 6 rfl) rfl rfl ?_
      refine gj_gR (q := 14) (j := 10) (gj_dk okX11_on 7 rfl) ff_X11_80 (sh0 hst) (by decide) rfl (rf0_10 hst) rfl ?_
      refine gj_iload_n (q := 15) (gj_dk okX11_on 8 rfl) rfl rfl ?_
      refine gj_callS (q := 18) [jR 77, jI a1] rfl (c_X7_is (sh77 hst) (by decide) (by decide) _) (gj_dk okX11_on 9 rfl) ml_X11_326 me_X7_is (gj_nm rfl) rfl (gj_kI fun x4 S2 M2 h3 => ?_)
      obtain ⟨ex4, eS, eM⟩ := h3; subst eS; subst eM; subst ex4
      rw [show f_at M 77 3 a1 = 0 from (h.at0 77 3 (a1) rfl rfl rfl)]
      refine gj_if_ne (q := 21) (tgt := 27) (gj_dk okX11_on 10 rfl) (by decide) rfl (fun cc => absurd cc (by decide)) (fun _ => ?_)
      refine gj_aload_n (q := 22) (gj_dk okX11_on 11 rfl) rfl rfl ?_
      refine gj_iconst (q := 23) (gj_dk okX11_on 12 rfl) (by decide) rfl ?_
      refine gj_callV (q := 26) (z := 0) (ci := 9) [jI 0] rfl (q_X11_refuse hst (h.of p_W.rf rfl)  _ ) (gj_dk okX11_on 13 rfl) ml_X11_92 me_X11_refuse (sh0 hst) rfl (gj_nm rfl) rfl (gj_kI fun x6 S2 M2 h5 => ?_)
      obtain ⟨ex6, eS, wc⟩ := h5
      subst eS
      have w8 : p_W [78] [] M M2 := w0.trans (wc.wide rfl)
      clear wc 
      generalize M2 = M7 at *
      subst ex6
      exact gj_zret (gj_dk okX11_on 14 rfl) rfl (by first | decide | assumption | omega) ⟨_, rfl, rfl, rfl, w8⟩
  by_cases j1 : a1 = 1
  · rw [show f_pic a1 = 57 from by rw [j1]; rfl]
    refine gj_astore_n (q := 6) (gj_dk okX11_on 3 rfl) (by decide) rfl ?_
    refine gj_aload_n (q := 7) (gj_dk okX11_on 4 rfl) rfl rfl ?_
    refine gj_ifnull (q := 10) (tgt := 21) (gj_dk okX11_on 5 rfl) (by decide) rfl (fun c7 => ?_) (fun c7 => ?_)
    · first | exact absurd c7 (by decide) | exact absurd rfl c7
    · -- 10
      refine gj_aload_n (q := 11) (gj_dk okX11_on 6 rfl) rfl rfl ?_
      refine gj_gR (q := 14) (j := 10) (gj_dk okX11_on 7 rfl) ff_X11_80 (sh0 hst) (by decide) rfl (rf0_10 hst) rfl ?_
      refine gj_iload_n (q := 15) (gj_dk okX11_on 8 rfl) rfl rfl ?_
      refine gj_callS (q := 18) [jR 77, jI a1] rfl (c_X7_is (sh77 hst) (by decide) (by decide) _) (gj_dk okX11_on 9 rfl) ml_X11_326 me_X7_is (gj_nm rfl) rfl (gj_kI fun x10 S2 M2 h9 => ?_)
      obtain ⟨ex10, eS, eM⟩ := h9; subst eS; subst eM; subst ex10
      rw [show f_at M 77 3 a1 = 0 from (h.at0 77 3 (a1) rfl rfl rfl)]
      refine gj_if_ne (q := 21) (tgt := 27) (gj_dk okX11_on 10 rfl) (by decide) rfl (fun cc => absurd cc (by decide)) (fun _ => ?_)
      refine gj_aload_n (q := 22) (gj_dk okX11_on 11 rfl) rfl rfl ?_
      refine gj_iconst (q := 23) (gj_dk okX11_on 12 rfl) (by decide) rfl ?_
      refine gj_callV (q := 26) (z := 0) (ci := 9) [jI 0] rfl (q_X11_refuse hst (h.of p_W.rf rfl)  _ ) (gj_dk okX11_on 13 rfl) ml_X11_92 me_X11_refuse (sh0 hst) rfl (gj_nm rfl) rfl (gj_kI fun x12 S2 M2 h11 => ?_)
      obtain ⟨ex12, eS, wc⟩ := h11
      subst eS
      have w14 : p_W [78] [] M M2 := w0.trans (wc.wide rfl)
      clear wc 
      generalize M2 = M13 at *
      subst ex12
      exact gj_zret (gj_dk okX11_on 14 rfl) rfl (by first | decide | assumption | omega) ⟨_, rfl, rfl, rfl, w14⟩
  by_cases j2 : a1 = 2
  · rw [show f_pic a1 = 67 from by rw [j2]; rfl]
    refine gj_astore_n (q := 6) (gj_dk okX11_on 3 rfl) (by decide) rfl ?_
    refine gj_aload_n (q := 7) (gj_dk okX11_on 4 rfl) rfl rfl ?_
    refine gj_ifnull (q := 10) (tgt := 21) (gj_dk okX11_on 5 rfl) (by decide) rfl (fun c7 => ?_) (fun c7 => ?_)
    · first | exact absurd c7 (by decide) | exact absurd rfl c7
    · -- 10
      refine gj_aload_n (q := 11) (gj_dk okX11_on 6 rfl) rfl rfl ?_
      refine gj_gR (q := 14) (j := 10) (gj_dk okX11_on 7 rfl) ff_X11_80 (sh0 hst) (by decide) rfl (rf0_10 hst) rfl ?_
      refine gj_iload_n (q := 15) (gj_dk okX11_on 8 rfl) rfl rfl ?_
      refine gj_callS (q := 18) [jR 77, jI a1] rfl (c_X7_is (sh77 hst) (by decide) (by decide) _) (gj_dk okX11_on 9 rfl) ml_X11_326 me_X7_is (gj_nm rfl) rfl (gj_kI fun x16 S2 M2 h15 => ?_)
      obtain ⟨ex16, eS, eM⟩ := h15; subst eS; subst eM; subst ex16
      rw [show f_at M 77 3 a1 = 0 from (h.at0 77 3 (a1) rfl rfl rfl)]
      refine gj_if_ne (q := 21) (tgt := 27) (gj_dk okX11_on 10 rfl) (by decide) rfl (fun cc => absurd cc (by decide)) (fun _ => ?_)
      refine gj_aload_n (q := 22) (gj_dk okX11_on 11 rfl) rfl rfl ?_
      refine gj_iconst (q := 23) (gj_dk okX11_on 12 rfl) (by decide) rfl ?_
      refine gj_callV (q := 26) (z := 0) (ci := 9) [jI 0] rfl (q_X11_refuse hst (h.of p_W.rf rfl)  _ ) (gj_dk okX11_on 13 rfl) ml_X11_92 me_X11_refuse (sh0 hst) rfl (gj_nm rfl) rfl (gj_kI fun x18 S2 M2 h17 => ?_)
      obtain ⟨ex18, eS, wc⟩ := h17
      subst eS
      have w20 : p_W [78] [] M M2 := w0.trans (wc.wide rfl)
      clear wc 
      generalize M2 = M19 at *
      subst ex18
      exact gj_zret (gj_dk okX11_on 14 rfl) rfl (by first | decide | assumption | omega) ⟨_, rfl, rfl, rfl, w20⟩
  rw [show f_pic a1 = -1 from (if_neg j0).trans ((if_neg j1).trans (if_neg j2))]
  refine gj_astore_n (q := 6) (gj_dk okX11_on 3 rfl) (by decide) rfl ?_
  refine gj_aload_n (q := 7) (gj_dk okX11_on 4 rfl) rfl rfl ?_
  refine gj_ifnull (q := 10) (tgt := 21) (gj_dk okX11_on 5 rfl) (by decide) rfl (fun c7 => ?_) (fun c7 => ?_)
  · -- 21
    refine gj_aload_n (q := 22) (gj_dk okX11_on 11 rfl) rfl rfl ?_
    refine gj_iconst (q := 23) (gj_dk okX11_on 12 rfl) (by decide) rfl ?_
    refine gj_callV (q := 26) (z := 0) (ci := 9) [jI 0] rfl (q_X11_refuse hst (h.of p_W.rf rfl)  _ ) (gj_dk okX11_on 13 rfl) ml_X11_92 me_X11_refuse (sh0 hst) rfl (gj_nm rfl) rfl (gj_kI fun x22 S2 M2 h21 => ?_)
    obtain ⟨ex22, eS, wc⟩ := h21
    subst eS
    have w24 : p_W [78] [] M M2 := w0.trans (wc.wide rfl)
    clear wc 
    generalize M2 = M23 at *
    subst ex22
    exact gj_zret (gj_dk okX11_on 14 rfl) rfl (by first | decide | assumption | omega) ⟨_, rfl, rfl, rfl, w24⟩
  · first | exact absurd c7 (by decide) | exact absurd rfl c7
set_option maxHeartbeats 4000000 in
set_option maxRecDepth 20000 in
theorem q_X11_status (hst : gj_Stat S) (h : p_F 0 [] [] M)  (a1 : Int)  : gj_C G l 1 0 0 yX11_status cX11_status 2 (some .int) [jR 0, jI a1] S M (gj_qI fun x S' M' => (if 0 ≤ a1 ∧ a1 ≤ 2 then 0 else -1) = x ∧ S = S' ∧ M = M') := by
  refine gj_Cof (by decide +kernel) (Nat.le_of_ble_eq_true rfl) ?_
  change gj_W G l 1 0 0 yX11_status cX11_status 2 (some .int) (gj_qI fun x S' M' => (if 0 ≤ a1 ∧ a1 ≤ 2 then 0 else -1) = x ∧ S = S' ∧ M = M') 0 0 0 [(0, jR 0), (1, jI a1)] [] S M
  refine gj_iload_n (q := 1) (gj_dk okX11_status 0 rfl) rfl rfl ?_
  refine gj_if_lt (q := 4) (tgt := 13) (gj_dk okX11_status 1 rfl) (by decide) rfl (fun c1 => ?_) (fun c1 => ?_)
  · -- 13
    refine gj_iconst (q := 14) (gj_dk okX11_status 7 rfl) (by decide) rfl ?_
    refine gj_goto (tgt := 23) (gj_dk okX11_status 8 rfl) (by decide) ?_
    exact gj_iret (gj_dk okX11_status 13 rfl) rfl ⟨_, rfl, (by first | rfl | omega | ((repeat' split) <;> omega)), rfl, rfl⟩
  · -- 4
    refine gj_iload_n (q := 5) (gj_dk okX11_status 2 rfl) rfl rfl ?_
    refine gj_aload_n (q := 6) (gj_dk okX11_status 3 rfl) rfl rfl ?_
    refine gj_gR (q := 9) (j := 11) (gj_dk okX11_status 4 rfl) ff_X11_84 (sh0 hst) (by decide) rfl (rf0_11 hst) rfl ?_
    refine gj_alen (q := 10) (gj_dk okX11_status 5 rfl) (sh78 hst) (by decide) rfl ?_
    refine gj_icmp_lt (q := 13) (tgt := 17) (gj_dk okX11_status 6 rfl) (by decide) rfl (fun c10 => ?_) (fun c10 => ?_)
    · -- 17
      refine gj_aload_n (q := 18) (gj_dk okX11_status 9 rfl) rfl rfl ?_
      refine gj_gR (q := 21) (j := 11) (gj_dk okX11_status 10 rfl) ff_X11_84 (sh0 hst) (by decide) rfl (rf0_11 hst) rfl ?_
      refine gj_iload_n (q := 22) (gj_dk okX11_status 11 rfl) rfl rfl ?_
      refine gj_iald (q := 23) (gj_dk okX11_status 12 rfl) (sh78 hst) (by omega) (by omega) rfl ?_
      rw [show M 78 a1 = 0 from (h.row0 78 (a1) rfl rfl rfl)]
      exact gj_iret (gj_dk okX11_status 13 rfl) rfl ⟨_, rfl, (by first | rfl | omega | ((repeat' split) <;> omega)), rfl, rfl⟩
    · -- 13
      refine gj_iconst (q := 14) (gj_dk okX11_status 7 rfl) (by decide) rfl ?_
      refine gj_goto (tgt := 23) (gj_dk okX11_status 8 rfl) (by decide) ?_
      exact gj_iret (gj_dk okX11_status 13 rfl) rfl ⟨_, rfl, (by first | rfl | omega | ((repeat' split) <;> omega)), rfl, rfl⟩
set_option maxHeartbeats 4000000 in
set_option maxRecDepth 20000 in
theorem q_X11_count (hst : gj_Stat S) (h : p_F 0 [] [] M)  (a1 : Int)  : gj_C G l 2 0 0 yX11_count cX11_count 3 (some .int) [jR 0, jI a1] S M (gj_qI fun x S' M' => (if 0 ≤ a1 ∧ a1 ≤ 5 then 0 else -1) = x ∧ S = S' ∧ M = M') := by
  refine gj_Cof (by decide +kernel) (Nat.le_of_ble_eq_true rfl) ?_
  change gj_W G l 2 0 0 yX11_count cX11_count 3 (some .int) (gj_qI fun x S' M' => (if 0 ≤ a1 ∧ a1 ≤ 5 then 0 else -1) = x ∧ S = S' ∧ M = M') 0 0 0 [(0, jR 0), (1, jI a1)] [] S M
  refine gj_aload_n (q := 1) (gj_dk okX11_count 0 rfl) rfl rfl ?_
  refine gj_gR (q := 4) (j := 3) (gj_dk okX11_count 1 rfl) ff_X11_32 (sh0 hst) (by decide) rfl (rf0_3 hst) rfl ?_
  refine gj_callV (q := 7) (z := 14) (ci := 5) [] rfl (q_X5_stands hst (h.of p_W.rf rfl)   ) (gj_dk okX11_count 2 rfl) ml_X11_268 me_X5_stands (sh14 hst) rfl (gj_nm rfl) rfl (gj_kI fun x2 S2 M2 h1 => ?_)
  obtain ⟨ex2, eS, eM⟩ := h1
  subst eS
  subst eM
  subst ex2
  refine gj_istore_n (q := 8) (gj_dk okX11_count 3 rfl) (by decide) rfl ?_
  refine gj_iload_n (q := 9) (gj_dk okX11_count 4 rfl) rfl rfl ?_
  by_cases c9_0 : a1 = 0
  · refine gj_tabIn (tgt := 48) (off := 39) 0 (gj_dk okX11_count 5 rfl) c9_0 ⟨by decide, by decide, rfl⟩ (by decide) ?_
    refine gj_aload_n (q := 49) (gj_dk okX11_count 6 rfl) rfl rfl ?_
    refine gj_gR (q := 52) (j := 3) (gj_dk okX11_count 7 rfl) ff_X11_32 (sh0 hst) (by decide) rfl (rf0_3 hst) rfl ?_
    refine gj_gI (q := 55) (j := 0) (gj_dk okX11_count 8 rfl) ff_X11_124 (sh14 hst) (by decide) rfl rfl ?_
    rw [show M 14 0 = 0 from (h.get 14 0 rfl rfl rfl (v := 0) (by decide))]
    exact gj_iret (gj_dk okX11_count 9 rfl) rfl ⟨_, rfl, (by first | rfl | omega | ((repeat' split) <;> omega)), rfl, rfl⟩
  by_cases c9_1 : a1 = 1
  · refine gj_tabIn (tgt := 56) (off := 47) 1 (gj_dk okX11_count 5 rfl) c9_1 ⟨by decide, by decide, rfl⟩ (by decide) ?_
    refine gj_aload_n (q := 57) (gj_dk okX11_count 10 rfl) rfl rfl ?_
    refine gj_gR (q := 60) (j := 3) (gj_dk okX11_count 11 rfl) ff_X11_32 (sh0 hst) (by decide) rfl (rf0_3 hst) rfl ?_
    refine gj_gI (q := 63) (j := 1) (gj_dk okX11_count 12 rfl) ff_X11_128 (sh14 hst) (by decide) rfl rfl ?_
    rw [show M 14 1 = 0 from (h.get 14 1 rfl rfl rfl (v := 0) (by decide))]
    exact gj_iret (gj_dk okX11_count 13 rfl) rfl ⟨_, rfl, (by first | rfl | omega | ((repeat' split) <;> omega)), rfl, rfl⟩
  by_cases c9_2 : a1 = 2
  · refine gj_tabIn (tgt := 64) (off := 55) 2 (gj_dk okX11_count 5 rfl) c9_2 ⟨by decide, by decide, rfl⟩ (by decide) ?_
    refine gj_iload_n (q := 65) (gj_dk okX11_count 14 rfl) rfl rfl ?_
    refine gj_if_eq (q := 68) (tgt := 78) (gj_dk okX11_count 15 rfl) (by decide) rfl (fun _ => ?_) (fun cc => absurd cc (by decide))
    refine gj_iconst (q := 79) (gj_dk okX11_count 20 rfl) (by decide) rfl ?_
    exact gj_iret (gj_dk okX11_count 21 rfl) rfl ⟨_, rfl, (by first | rfl | omega | ((repeat' split) <;> omega)), rfl, rfl⟩
  by_cases c9_3 : a1 = 3
  · refine gj_tabIn (tgt := 80) (off := 71) 3 (gj_dk okX11_count 5 rfl) c9_3 ⟨by decide, by decide, rfl⟩ (by decide) ?_
    refine gj_iload_n (q := 81) (gj_dk okX11_count 22 rfl) rfl rfl ?_
    refine gj_if_eq (q := 84) (tgt := 94) (gj_dk okX11_count 23 rfl) (by decide) rfl (fun _ => ?_) (fun cc => absurd cc (by decide))
    refine gj_iconst (q := 95) (gj_dk okX11_count 28 rfl) (by decide) rfl ?_
    exact gj_iret (gj_dk okX11_count 29 rfl) rfl ⟨_, rfl, (by first | rfl | omega | ((repeat' split) <;> omega)), rfl, rfl⟩
  by_cases c9_4 : a1 = 4
  · refine gj_tabIn (tgt := 96) (off := 87) 4 (gj_dk okX11_count 5 rfl) c9_4 ⟨by decide, by decide, rfl⟩ (by decide) ?_
    refine gj_iload_n (q := 97) (gj_dk okX11_count 30 rfl) rfl rfl ?_
    refine gj_if_eq (q := 100) (tgt := 110) (gj_dk okX11_count 31 rfl) (by decide) rfl (fun _ => ?_) (fun cc => absurd cc (by decide))
    refine gj_iconst (q := 111) (gj_dk okX11_count 36 rfl) (by decide) rfl ?_
    exact gj_iret (gj_dk okX11_count 37 rfl) rfl ⟨_, rfl, (by first | rfl | omega | ((repeat' split) <;> omega)), rfl, rfl⟩
  by_cases c9_5 : a1 = 5
  · refine gj_tabIn (tgt := 112) (off := 103) 5 (gj_dk okX11_count 5 rfl) c9_5 ⟨by decide, by decide, rfl⟩ (by decide) ?_
    refine gj_aload_n (q := 113) (gj_dk okX11_count 38 rfl) rfl rfl ?_
    refine gj_gR (q := 116) (j := 0) (gj_dk okX11_count 39 rfl) ff_X11_10 (sh0 hst) (by decide) rfl (rf0_0 hst) rfl ?_
    refine gj_callV (q := 119) (z := 1) (ci := 8) [] rfl (q_X9_length hst (h.of p_W.rf rfl) (h.get 1 1 rfl rfl rfl (v := 0) (by decide))  ) (gj_dk okX11_count 40 rfl) ml_X11_99 me_X9_length (sh1 hst) rfl (gj_nm rfl) rfl (gj_kI fun x4 S2 M2 h3 => ?_)
    obtain ⟨ex4, eS, eM⟩ := h3
    subst eS
    subst eM
    subst ex4
    exact gj_iret (gj_dk okX11_count 41 rfl) rfl ⟨_, rfl, (by first | rfl | omega | ((repeat' split) <;> omega)), rfl, rfl⟩
  refine gj_tabOut (tgt := 120) (gj_dk okX11_count 5 rfl) (by omega) (by decide) ?_
  refine gj_iconst (q := 121) (gj_dk okX11_count 42 rfl) (by decide) rfl ?_
  exact gj_iret (gj_dk okX11_count 43 rfl) rfl ⟨_, rfl, (by first | rfl | omega | ((repeat' split) <;> omega)), rfl, rfl⟩
end GJY
