/-! THE CLASS, weakly -/
/-- what its methods need to end: T at most 4 in both plans, the text no longer than 500 -/
def w_CI (M : gj_M) : Prop := (0 ≤ M 14 9 ∧ M 14 9 ≤ 4) ∧ (0 ≤ M 3 9 ∧ M 3 9 ≤ 4) ∧ 0 ≤ M 1 1 ∧ M 1 1 ≤ 500
def w_CW (M0 M : gj_M) : Prop := (∀ z i, 79 ≤ z → M z i = M0 z i) ∧ w_CI M
def w_sp (z i : Int) : Bool := (decide (z = 14) && decide (i = 9)) || ((decide (z = 3) && decide (i = 9)) || (decide (z = 1) && decide (i = 1)))
theorem w_CW.up {M0 M : gj_M} {z i x : Int} (h : w_CW M0 M) (hz : z < 79) (hs : w_sp z i = false) : w_CW M0 (gj_up M z i x) := by
  obtain ⟨h1, h2, h3, h4, h5⟩ := h
  simp only [w_sp, Bool.or_eq_false_iff, Bool.and_eq_false_iff, decide_eq_false_iff_not] at hs
  refine ⟨fun a b ha => ?_, ?_, ?_, ?_, ?_⟩
  · unfold gj_up
    rw [if_neg (by omega)]
    exact h1 a b ha
  all_goals
    unfold gj_up
    rw [if_neg (by omega)]
    assumption
theorem w_CW.upT {M0 M : gj_M} {x : Int} (h : w_CW M0 M) (h0 : 0 ≤ x ∧ x ≤ 500) : w_CW M0 (gj_up M 1 1 x) := by
  obtain ⟨h1, h2, h3, h4, h5⟩ := h
  refine ⟨fun a b ha => ?_, ?_, ?_, ?_, ?_⟩
  · unfold gj_up
    rw [if_neg (by omega)]
    exact h1 a b ha
  · unfold gj_up; rw [if_neg (by omega)]; assumption
  · unfold gj_up; rw [if_neg (by omega)]; assumption
  · unfold gj_up; rw [if_pos (by omega)]; omega
  · unfold gj_up; rw [if_pos (by omega)]; omega
theorem w_CW.upA {M0 M : gj_M} {z x : Int} (hz : z = 3 ∨ z = 14) (h : w_CW M0 M) (h0 : 0 ≤ x ∧ x ≤ 4) : w_CW M0 (gj_up M z 9 x) := by
  obtain ⟨h1, h2, h3, h4, h5⟩ := h
  refine ⟨fun a b ha => ?_, ?_, ?_, ?_, ?_⟩
  · unfold gj_up
    rw [if_neg (by omega)]
    exact h1 a b ha
  · unfold gj_up; split <;> omega
  · unfold gj_up; split <;> omega
  · unfold gj_up; rw [if_neg (by omega)]; assumption
  · unfold gj_up; rw [if_neg (by omega)]; assumption
theorem w_CW.fill {M0 M : gj_M} {z n v : Int} (h : w_CW M0 M) (hz : z < 79) (h3 : z ≠ 1 ∧ z ≠ 3 ∧ z ≠ 14) : w_CW M0 (f_fill M z n v) := by
  obtain ⟨h1, h2, h3', h4, h5⟩ := h
  refine ⟨fun a b ha => ?_, ?_, ?_, ?_, ?_⟩
  · unfold f_fill
    rw [if_neg (by omega)]
    exact h1 a b ha
  all_goals
    unfold f_fill
    rw [if_neg (by omega)]
    assumption
theorem w_CW.copy {M0 M : gj_M} {z n w m : Int} (h : w_CW M0 M) (hz : w < 79) (h3 : w ≠ 1 ∧ w ≠ 3 ∧ w ≠ 14) : w_CW M0 (f_copy M z n w m) := by
  obtain ⟨h1, h2, h3', h4, h5⟩ := h
  refine ⟨fun a b ha => ?_, ?_, ?_, ?_, ?_⟩
  · unfold f_copy
    rw [if_neg (by omega)]
    exact h1 a b ha
  all_goals
    unfold f_copy
    rw [if_neg (by omega)]
    assumption
theorem w_CW.put {M0 M : gj_M} {z n i v : Int} (h : w_CW M0 M) (hz : z < 79) (h3 : z ≠ 1 ∧ z ≠ 3 ∧ z ≠ 14) : w_CW M0 (f_put M z n i v) := by
  unfold f_put
  split
  · exact h.up hz (by simp [w_sp, h3.1, h3.2.1, h3.2.2])
  · exact h
def w_CV (M0 : gj_M) (v : Int) (M : gj_M) : Prop := w_CW M0 M ∧ M 10 9 = v
theorem w_CV.up {M0 M : gj_M} {v z i x : Int} (h : w_CV M0 v M) (hz : z < 79) (hs : w_sp z i = false) (h9 : ¬ (z = 10 ∧ i = 9)) : w_CV M0 v (gj_up M z i x) := by
  refine ⟨h.1.up hz hs, ?_⟩
  unfold gj_up
  rw [if_neg (by omega)]
  exact h.2
theorem f_put_ne {M : gj_M} {z n i v a b : Int} (h : a ≠ z) : f_put M z n i v a b = M a b := by
  unfold f_put
  split
  · exact if_neg (fun q => h q.1)
  · rfl
theorem gj_cmp_gt {a b : Int} (h : 0 < gj_cmp a b) : b < a := by
  unfold gj_cmp at h
  split at h
  · assumption
  · split at h <;> omega
theorem gj_cmp_ngt {a b : Int} (h : ¬ 0 < gj_cmp a b) : a ≤ b := by
  unfold gj_cmp at h
  split at h
  · omega
  · split at h <;> omega
section GJX
variable {G : gj_G} {l : Launch} {d mc ms : Nat} {y : MethodName} {cc : ByteArray} {nL : Nat} {ret : Option FieldType} {Q : Option gj_V → gj_S → gj_M → Prop} {k n pc q : Nat} {ls : List (Nat × gj_V)} {st st' : List gj_V} {S : gj_S} {M : gj_M}
theorem gj_iaddX {a b : Int} (hd : decode cc pc = .ok (.iadd, 1)) (h : -2147483648 ≤ a + b ∧ a + b < 2147483648) (hq : pc + 1 = q) (K : gj_W G l d mc ms y cc nL ret Q k n q ls (jI (a + b) :: st) S M) : gj_W G l d mc ms y cc nL ret Q k n pc ls (jI b :: jI a :: st) S M := gj_iadd hd hq (by rw [gj_w_id h]; exact K)
theorem gj_isubX {a b : Int} (hd : decode cc pc = .ok (.isub, 1)) (h : -2147483648 ≤ a - b ∧ a - b < 2147483648) (hq : pc + 1 = q) (K : gj_W G l d mc ms y cc nL ret Q k n q ls (jI (a - b) :: st) S M) : gj_W G l d mc ms y cc nL ret Q k n pc ls (jI b :: jI a :: st) S M := gj_isub hd hq (by rw [gj_w_id h]; exact K)
theorem gj_imulX {a b : Int} (hd : decode cc pc = .ok (.imul, 1)) (h : -2147483648 ≤ a * b ∧ a * b < 2147483648) (hq : pc + 1 = q) (K : gj_W G l d mc ms y cc nL ret Q k n q ls (jI (a * b) :: st) S M) : gj_W G l d mc ms y cc nL ret Q k n pc ls (jI b :: jI a :: st) S M := gj_imul hd hq (by rw [gj_w_id h]; exact K)
theorem gj_idivN {a b : Int} (hd : decode cc pc = .ok (.idiv, 1)) (h : 0 ≤ a ∧ 0 < b) (hq : pc + 1 = q) (K : gj_W G l d mc ms y cc nL ret Q k n q ls (jI (a / b) :: st) S M) : gj_W G l d mc ms y cc nL ret Q k n pc ls (jI b :: jI a :: st) S M := by
  refine gj_rng (fun ho _ _ => gj_idiv hd (by omega) hq ?_)
  have h1 := gj_o1 ho
  have h2 : a / b ≤ a := Int.ediv_le_self _ h.1
  have h3 : 0 ≤ a / b := Int.ediv_nonneg h.1 (by omega)
  rw [Int.tdiv_eq_ediv_of_nonneg h.1, gj_wle (by omega) (by omega)]
  exact K
theorem gj_iremN {a b : Int} (hd : decode cc pc = .ok (.irem, 1)) (h : 0 ≤ a ∧ 0 < b) (hq : pc + 1 = q) (K : gj_W G l d mc ms y cc nL ret Q k n q ls (jI (a % b) :: st) S M) : gj_W G l d mc ms y cc nL ret Q k n pc ls (jI b :: jI a :: st) S M :=
  gj_irem hd (by omega) hq (by rw [Int.tmod_eq_emod_of_nonneg h.1]; exact K)
end GJX
section GJW
variable {G : gj_G} {l : Launch} {S : gj_S} {M0 M : gj_M}
set_option maxHeartbeats 4000000 in
set_option maxRecDepth 20000 in
theorem w_X9_hasRoomFor (hst : gj_Stat S) (a1 : Int)  : gj_C G l 1 0 0 yX9_hasRoomFor cX9_hasRoomFor 2 (some .boolean) [jR 1, jI a1] S M (gj_qI fun x S' M' => (x = 0 ∨ x = 1) ∧ S = S' ∧ M = M') := by
  refine gj_Cof (by decide +kernel) (Nat.le_of_ble_eq_true rfl) ?_
  change gj_W G l 1 0 0 yX9_hasRoomFor cX9_hasRoomFor 2 (some .boolean) (gj_qI fun x S' M' => (x = 0 ∨ x = 1) ∧ S = S' ∧ M = M') 0 0 0 [(0, jR 1), (1, jI a1)] [] S M
  refine gj_aload_n (q := 1) (gj_dk okX9_hasRoomFor 0 rfl) rfl rfl ?_
  refine gj_gI (q := 4) (j := 1) (gj_dk okX9_hasRoomFor 1 rfl) ff_X9_15 (sh1 hst) (by decide) rfl rfl ?_
  refine gj_iload_n (q := 5) (gj_dk okX9_hasRoomFor 2 rfl) rfl rfl ?_
  refine gj_iadd (q := 6) (gj_dk okX9_hasRoomFor 3 rfl) rfl ?_
  refine gj_aload_n (q := 7) (gj_dk okX9_hasRoomFor 4 rfl) rfl rfl ?_
  refine gj_gR (q := 10) (j := 0) (gj_dk okX9_hasRoomFor 5 rfl) ff_X9_9 (sh1 hst) (by decide) rfl (rf1_0 hst) rfl ?_
  refine gj_alen (q := 11) (gj_dk okX9_hasRoomFor 6 rfl) (sh2 hst) (by decide) rfl ?_
  refine gj_icmp_gt (q := 14) (tgt := 18) (gj_dk okX9_hasRoomFor 7 rfl) (by decide) rfl (fun c11 => ?_) (fun c11 => ?_)
  · -- 18
    refine gj_iconst (q := 19) (gj_dk okX9_hasRoomFor 10 rfl) (by decide) rfl ?_
    exact gj_zret (gj_dk okX9_hasRoomFor 11 rfl) rfl (by first | decide | assumption | omega) ⟨_, rfl, (by first | decide | assumption | omega), rfl, rfl⟩
  · -- 14
    refine gj_iconst (q := 15) (gj_dk okX9_hasRoomFor 8 rfl) (by decide) rfl ?_
    refine gj_goto (tgt := 19) (gj_dk okX9_hasRoomFor 9 rfl) (by decide) ?_
    exact gj_zret (gj_dk okX9_hasRoomFor 11 rfl) rfl (by first | decide | assumption | omega) ⟨_, rfl, (by first | decide | assumption | omega), rfl, rfl⟩

set_option maxHeartbeats 4000000 in
set_option maxRecDepth 20000 in
theorem w_X11_refuse (hst : gj_Stat S) (h : w_CW M0 M) (a1 : Int)  : gj_C G l 2 0 0 yX11_refuse cX11_refuse 2 (some .boolean) [jR 0, jI a1] S M (gj_qI fun x S' M' => (x = 0 ∨ x = 1) ∧ S = S' ∧ w_CW M0 M') := by
  refine gj_Cof (by decide +kernel) (Nat.le_of_ble_eq_true rfl) ?_
  change gj_W G l 2 0 0 yX11_refuse cX11_refuse 2 (some .boolean) (gj_qI fun x S' M' => (x = 0 ∨ x = 1) ∧ S = S' ∧ w_CW M0 M') 0 0 0 [(0, jR 0), (1, jI a1)] [] S M
  refine gj_aload_n (q := 1) (gj_dk okX11_refuse 0 rfl) rfl rfl ?_
  refine gj_gR (q := 4) (j := 11) (gj_dk okX11_refuse 1 rfl) ff_X11_84 (sh0 hst) (by decide) rfl (rf0_11 hst) rfl ?_
  refine gj_iload_n (q := 5) (gj_dk okX11_refuse 2 rfl) rfl rfl ?_
  refine gj_aload_n (q := 6) (gj_dk okX11_refuse 3 rfl) rfl rfl ?_
  refine gj_gR (q := 9) (j := 11) (gj_dk okX11_refuse 4 rfl) ff_X11_84 (sh0 hst) (by decide) rfl (rf0_11 hst) rfl ?_
  refine gj_iload_n (q := 10) (gj_dk okX11_refuse 5 rfl) rfl rfl ?_
  refine gj_callS (q := 13) [jR 78, jI a1] rfl (c_X7_at (sh78 hst) (by decide) (by decide) _) (gj_dk okX11_refuse 6 rfl) ml_X11_139 me_X7_at (gj_nm rfl) rfl (gj_kI fun x2 S2 M2 h1 => ?_)
  obtain ⟨-, eS, eM⟩ := h1; subst eS; subst eM
  refine gj_iconst (q := 14) (gj_dk okX11_refuse 7 rfl) (by decide) rfl ?_
  refine gj_iadd (q := 15) (gj_dk okX11_refuse 8 rfl) rfl ?_
  refine gj_callS (q := 18) [jR 78, jI a1, jI (gj_w (x2 + 1))] rfl (c_X7_put (sh78 hst) (by decide) (by decide) _ _) (gj_dk okX11_refuse 9 rfl) ml_X11_333 me_X7_put (gj_nm rfl) rfl (gj_kV fun S2 M2 h4 => ?_)
  obtain ⟨eS, eM⟩ := h4; subst eS
  have w7 : w_CW M0 M2 := by rw [← eM]; exact w_CW.put h (by decide) (by decide)
  clear eM
  revert w7; generalize M2 = M8; intro w7
  refine gj_iconst (q := 19) (gj_dk okX11_refuse 10 rfl) (by decide) rfl ?_
  exact gj_zret (gj_dk okX11_refuse 11 rfl) rfl (by first | decide | assumption | omega) ⟨_, rfl, (by first | decide | assumption | omega), rfl, w7⟩

set_option maxHeartbeats 4000000 in
set_option maxRecDepth 20000 in
theorem w_X9_append (hst : gj_Stat S) (h : w_CW M0 M) (a1 : Int)  : gj_C G l 2 0 0 yX9_append cX9_append 3 none [jR 1, jI a1] S M (gj_qV fun S' M' => S = S' ∧ w_CW M0 M') := by
  refine gj_Cof (by decide +kernel) (Nat.le_of_ble_eq_true rfl) ?_
  change gj_W G l 2 0 0 yX9_append cX9_append 3 none (gj_qV fun S' M' => S = S' ∧ w_CW M0 M') 0 0 0 [(0, jR 1), (1, jI a1)] [] S M
  refine gj_bipush (q := 2) (gj_dk okX9_append 0 rfl) (by decide) rfl rfl ?_
  refine gj_istore_n (q := 3) (gj_dk okX9_append 1 rfl) (by decide) rfl ?_
  have L3 : ∀ (k2 : Nat) (x1 : Int) (M3 : gj_M), (x1 ≤ 24) → (w_CW M0 M3) → (x1 + 1).toNat < k2 → gj_W G l 2 0 0 yX9_append cX9_append 3 none (gj_qV fun S' M' => S = S' ∧ w_CW M0 M') 0 0 3 [(0, jR 1), (1, jI a1), (2, jI x1)] [] S M3 := by
    intro k2
    induction k2 with
    | zero => intro x1 M3 f5 w4 hk3; exact absurd hk3 (Nat.not_lt_zero _)
    | succ k2 ih3 =>
      intro x1 M3 f5 w4 hk3
      refine gj_iload_n (q := 4) (gj_dk okX9_append 2 rfl) rfl rfl ?_
      refine gj_if_lt (q := 7) (tgt := 53) (gj_dk okX9_append 3 rfl) (by decide) rfl (fun c4 => ?_) (fun c4 => ?_)
      · -- 53
        exact gj_vret (gj_dk okX9_append 28 rfl) rfl ⟨rfl, rfl, w4⟩
      · -- 7
        refine gj_aload_n (q := 8) (gj_dk okX9_append 4 rfl) rfl rfl ?_
        refine gj_gI (q := 11) (j := 1) (gj_dk okX9_append 5 rfl) ff_X9_15 (sh1 hst) (by decide) rfl rfl ?_
        refine gj_aload_n (q := 12) (gj_dk okX9_append 6 rfl) rfl rfl ?_
        refine gj_gR (q := 15) (j := 0) (gj_dk okX9_append 7 rfl) ff_X9_9 (sh1 hst) (by decide) rfl (rf1_0 hst) rfl ?_
        refine gj_alen (q := 16) (gj_dk okX9_append 8 rfl) (sh2 hst) (by decide) rfl ?_
        refine gj_rng (fun ho16 _ _ => ?_)
        have ha16 : -2147483648 ≤ M3 1 1 ∧ M3 1 1 < 2147483648 := gj_o1 ho16
        clear ho16
        refine gj_icmp_ge (q := 19) (tgt := 47) (gj_dk okX9_append 9 rfl) (by decide) rfl (fun c16 => ?_) (fun c16 => ?_)
        · -- 47
          refine gj_iinc (q := 50) (v := x1 + (-8)) (gj_dk okX9_append 26 rfl) rfl (by decide) (gj_wle (by omega) (by omega)) rfl ?_
          refine gj_goto (tgt := 3) (gj_dk okX9_append 27 rfl) (by decide) ?_
          refine gj_sub [(0, jR 1), (1, jI a1), (2, jI (x1 + (-8)))] ⟨rfl, rfl, rfl, trivial⟩ ?_
          exact ih3 _ _ (by omega) w4 (by omega)
        · -- 19
          refine gj_aload_n (q := 20) (gj_dk okX9_append 10 rfl) rfl rfl ?_
          refine gj_gR (q := 23) (j := 0) (gj_dk okX9_append 11 rfl) ff_X9_9 (sh1 hst) (by decide) rfl (rf1_0 hst) rfl ?_
          refine gj_aload_n (q := 24) (gj_dk okX9_append 12 rfl) rfl rfl ?_
          refine gj_gI (q := 27) (j := 1) (gj_dk okX9_append 13 rfl) ff_X9_15 (sh1 hst) (by decide) rfl rfl ?_
          refine gj_iload_n (q := 28) (gj_dk okX9_append 14 rfl) rfl rfl ?_
          refine gj_iload_n (q := 29) (gj_dk okX9_append 15 rfl) rfl rfl ?_
          refine gj_iushr (q := 30) (gj_dk okX9_append 16 rfl) rfl ?_
          refine gj_sipush (q := 33) (gj_dk okX9_append 17 rfl) (by decide) rfl rfl ?_
          refine gj_iand (q := 34) (gj_dk okX9_append 18 rfl) rfl ?_
          refine gj_callS (q := 37) [jR 2, jI (M3 1 1), jI (gj_and (gj_ushr a1 x1) 255)] rfl (c_X7_put (sh2 hst) (by decide) (by decide) _ _) (gj_dk okX9_append 19 rfl) ml_X9_19 me_X7_put (gj_nm rfl) rfl (gj_kV fun S2 M2 h6 => ?_)
          obtain ⟨eS, eM⟩ := h6; subst eS
          have t11 : M2 1 1 = M3 1 1 := by rw [← eM]; exact f_put_ne (by decide)
          have w9 : w_CW M0 M2 := by rw [← eM]; exact w_CW.put w4 (by decide) (by decide)
          clear eM
          revert t11 w9; generalize M2 = M10; intro t11 w9
          refine gj_aload_n (q := 38) (gj_dk okX9_append 20 rfl) rfl rfl ?_
          refine gj_dup (q := 39) (gj_dk okX9_append 21 rfl) rfl rfl ?_
          refine gj_gI (q := 42) (j := 1) (gj_dk okX9_append 22 rfl) ff_X9_15 (sh1 hst) (by decide) rfl rfl ?_
          refine gj_iconst (q := 43) (gj_dk okX9_append 23 rfl) (by decide) rfl ?_
          refine gj_iadd (q := 44) (gj_dk okX9_append 24 rfl) rfl ?_
          refine gj_pfI (q := 47) (j := 1) (gj_dk okX9_append 25 rfl) ff_X9_15 (sh1 hst) (by decide) rfl rfl ?_
          refine gj_abs (fun M11 e13 => ?_)
          have w12 : w_CW M0 M11 := by rw [e13]; exact w9.upT (by have q1 := w9.2.2.2.1; have q2 := w9.2.2.2.2; rw [gj_wle (by omega) (by omega)]; omega)
          clear e13
          refine gj_iinc (q := 50) (v := x1 + (-8)) (gj_dk okX9_append 26 rfl) rfl (by decide) (gj_wle (by omega) (by omega)) rfl ?_
          refine gj_goto (tgt := 3) (gj_dk okX9_append 27 rfl) (by decide) ?_
          refine gj_sub [(0, jR 1), (1, jI a1), (2, jI (x1 + (-8)))] ⟨rfl, rfl, rfl, trivial⟩ ?_
          exact ih3 _ _ (by omega) w12 (by omega)
  refine gj_sub [(0, jR 1), (1, jI a1), (2, jI 24)] ⟨rfl, rfl, rfl, trivial⟩ ?_
  exact L3 _ _ _ (by omega) h (Nat.lt_succ_self _)

set_option maxHeartbeats 4000000 in
set_option maxRecDepth 20000 in
theorem w_X9_length (hst : gj_Stat S)   : gj_C G l 1 0 0 yX9_length cX9_length 1 (some .int) [jR 1] S M (gj_qI fun x S' M' => M 1 1 = x ∧ S = S' ∧ M = M') := by
  refine gj_Cof (by decide +kernel) (Nat.le_of_ble_eq_true rfl) ?_
  change gj_W G l 1 0 0 yX9_length cX9_length 1 (some .int) (gj_qI fun x S' M' => M 1 1 = x ∧ S = S' ∧ M = M') 0 0 0 [(0, jR 1)] [] S M
  refine gj_aload_n (q := 1) (gj_dk okX9_length 0 rfl) rfl rfl ?_
  refine gj_gI (q := 4) (j := 1) (gj_dk okX9_length 1 rfl) ff_X9_15 (sh1 hst) (by decide) rfl rfl ?_
  exact gj_iret (gj_dk okX9_length 2 rfl) rfl ⟨_, rfl, (by rfl), rfl, rfl⟩

set_option maxHeartbeats 4000000 in
set_option maxRecDepth 20000 in
theorem w_X11_feed (hst : gj_Stat S) (h : w_CW M0 M) (a1 a2 a3 a4 a5 : Int)  : gj_C G l 3 0 0 yX11_feed cX11_feed 6 (some .int) [jR 0, jI a1, jI a2, jI a3, jI a4, jI a5] S M (gj_qI fun x S' M' => S = S' ∧ w_CW M0 M') := by
  refine gj_Cof (by decide +kernel) (Nat.le_of_ble_eq_true rfl) ?_
  change gj_W G l 3 0 0 yX11_feed cX11_feed 6 (some .int) (gj_qI fun x S' M' => S = S' ∧ w_CW M0 M') 0 0 0 [(0, jR 0), (1, jI a1), (2, jI a2), (3, jI a3), (4, jI a4), (5, jI a5)] [] S M
  refine gj_aload_n (q := 1) (gj_dk okX11_feed 0 rfl) rfl rfl ?_
  refine gj_gR (q := 4) (j := 0) (gj_dk okX11_feed 1 rfl) ff_X11_10 (sh0 hst) (by decide) rfl (rf0_0 hst) rfl ?_
  refine gj_bipush (q := 6) (gj_dk okX11_feed 2 rfl) (by decide) rfl rfl ?_
  refine gj_callV (q := 9) (z := 1) (ci := 8) [jI 20] rfl (w_X9_hasRoomFor hst  _) (gj_dk okX11_feed 3 rfl) ml_X11_88 me_X9_hasRoomFor (sh1 hst) rfl (gj_nm rfl) rfl (gj_kI fun x2 S2 M2 h1 => ?_)
  obtain ⟨bx2, eS, eM⟩ := h1; subst eS; subst eM
  refine gj_if_ne (q := 12) (tgt := 20) (gj_dk okX11_feed 4 rfl) (by decide) rfl (fun c9 => ?_) (fun c9 => ?_)
  · -- 20
    refine gj_aload_n (q := 21) (gj_dk okX11_feed 11 rfl) rfl rfl ?_
    refine gj_gR (q := 24) (j := 0) (gj_dk okX11_feed 12 rfl) ff_X11_10 (sh0 hst) (by decide) rfl (rf0_0 hst) rfl ?_
    refine gj_iload_n (q := 25) (gj_dk okX11_feed 13 rfl) rfl rfl ?_
    refine gj_callV (q := 28) (z := 1) (ci := 8) [jI a1] rfl (w_X9_append hst h  _) (gj_dk okX11_feed 14 rfl) ml_X11_95 me_X9_append (sh1 hst) rfl (gj_nm rfl) rfl (gj_kV fun S2 M2 h5 => ?_)
    obtain ⟨eS, w8⟩ := h5; subst eS
    revert w8; generalize M2 = M9; intro w8
    refine gj_aload_n (q := 29) (gj_dk okX11_feed 15 rfl) rfl rfl ?_
    refine gj_gR (q := 32) (j := 0) (gj_dk okX11_feed 16 rfl) ff_X11_10 (sh0 hst) (by decide) rfl (rf0_0 hst) rfl ?_
    refine gj_iload_n (q := 33) (gj_dk okX11_feed 17 rfl) rfl rfl ?_
    refine gj_callV (q := 36) (z := 1) (ci := 8) [jI a2] rfl (w_X9_append hst w8  _) (gj_dk okX11_feed 18 rfl) ml_X11_95 me_X9_append (sh1 hst) rfl (gj_nm rfl) rfl (gj_kV fun S2 M2 h10 => ?_)
    obtain ⟨eS, w13⟩ := h10; subst eS
    revert w13; generalize M2 = M14; intro w13
    refine gj_aload_n (q := 37) (gj_dk okX11_feed 19 rfl) rfl rfl ?_
    refine gj_gR (q := 40) (j := 0) (gj_dk okX11_feed 20 rfl) ff_X11_10 (sh0 hst) (by decide) rfl (rf0_0 hst) rfl ?_
    refine gj_iload_n (q := 41) (gj_dk okX11_feed 21 rfl) rfl rfl ?_
    refine gj_callV (q := 44) (z := 1) (ci := 8) [jI a3] rfl (w_X9_append hst w13  _) (gj_dk okX11_feed 22 rfl) ml_X11_95 me_X9_append (sh1 hst) rfl (gj_nm rfl) rfl (gj_kV fun S2 M2 h15 => ?_)
    obtain ⟨eS, w18⟩ := h15; subst eS
    revert w18; generalize M2 = M19; intro w18
    refine gj_aload_n (q := 45) (gj_dk okX11_feed 23 rfl) rfl rfl ?_
    refine gj_gR (q := 48) (j := 0) (gj_dk okX11_feed 24 rfl) ff_X11_10 (sh0 hst) (by decide) rfl (rf0_0 hst) rfl ?_
    refine gj_iload (q := 50) (gj_dk okX11_feed 25 rfl) rfl rfl ?_
    refine gj_callV (q := 53) (z := 1) (ci := 8) [jI a4] rfl (w_X9_append hst w18  _) (gj_dk okX11_feed 26 rfl) ml_X11_95 me_X9_append (sh1 hst) rfl (gj_nm rfl) rfl (gj_kV fun S2 M2 h20 => ?_)
    obtain ⟨eS, w23⟩ := h20; subst eS
    revert w23; generalize M2 = M24; intro w23
    refine gj_aload_n (q := 54) (gj_dk okX11_feed 27 rfl) rfl rfl ?_
    refine gj_gR (q := 57) (j := 0) (gj_dk okX11_feed 28 rfl) ff_X11_10 (sh0 hst) (by decide) rfl (rf0_0 hst) rfl ?_
    refine gj_iload (q := 59) (gj_dk okX11_feed 29 rfl) rfl rfl ?_
    refine gj_callV (q := 62) (z := 1) (ci := 8) [jI a5] rfl (w_X9_append hst w23  _) (gj_dk okX11_feed 30 rfl) ml_X11_95 me_X9_append (sh1 hst) rfl (gj_nm rfl) rfl (gj_kV fun S2 M2 h25 => ?_)
    obtain ⟨eS, w28⟩ := h25; subst eS
    revert w28; generalize M2 = M29; intro w28
    refine gj_aload_n (q := 63) (gj_dk okX11_feed 31 rfl) rfl rfl ?_
    refine gj_gR (q := 66) (j := 0) (gj_dk okX11_feed 32 rfl) ff_X11_10 (sh0 hst) (by decide) rfl (rf0_0 hst) rfl ?_
    refine gj_callV (q := 69) (z := 1) (ci := 8) [] rfl (w_X9_length hst  ) (gj_dk okX11_feed 33 rfl) ml_X11_99 me_X9_length (sh1 hst) rfl (gj_nm rfl) rfl (gj_kI fun x31 S2 M2 h30 => ?_)
    obtain ⟨px31, eS, eM⟩ := h30; subst eS; subst eM
    exact gj_iret (gj_dk okX11_feed 34 rfl) rfl ⟨_, rfl, rfl, w28⟩
  · -- 12
    refine gj_aload_n (q := 13) (gj_dk okX11_feed 5 rfl) rfl rfl ?_
    refine gj_iconst (q := 14) (gj_dk okX11_feed 6 rfl) (by decide) rfl ?_
    refine gj_callV (q := 17) (z := 0) (ci := 9) [jI 1] rfl (w_X11_refuse hst h  _) (gj_dk okX11_feed 7 rfl) ml_X11_92 me_X11_refuse (sh0 hst) rfl (gj_nm rfl) rfl (gj_kI fun x35 S2 M2 h34 => ?_)
    obtain ⟨bx35, eS, w37⟩ := h34; subst eS
    revert w37; generalize M2 = M38; intro w37
    refine gj_pop (q := 18) (gj_dk okX11_feed 8 rfl) rfl rfl ?_
    refine gj_iconst (q := 19) (gj_dk okX11_feed 9 rfl) (by decide) rfl ?_
    exact gj_iret (gj_dk okX11_feed 10 rfl) rfl ⟨_, rfl, rfl, w37⟩

set_option maxHeartbeats 4000000 in
set_option maxRecDepth 20000 in
theorem w_X9_cutTo (hst : gj_Stat S) (h : w_CW M0 M) (a1 : Int)  : gj_C G l 1 0 0 yX9_cutTo cX9_cutTo 2 none [jR 1, jI a1] S M (gj_qV fun S' M' => S = S' ∧ w_CW M0 M') := by
  refine gj_Cof (by decide +kernel) (Nat.le_of_ble_eq_true rfl) ?_
  change gj_W G l 1 0 0 yX9_cutTo cX9_cutTo 2 none (gj_qV fun S' M' => S = S' ∧ w_CW M0 M') 0 0 0 [(0, jR 1), (1, jI a1)] [] S M
  refine gj_iload_n (q := 1) (gj_dk okX9_cutTo 0 rfl) rfl rfl ?_
  refine gj_if_lt (q := 4) (tgt := 17) (gj_dk okX9_cutTo 1 rfl) (by decide) rfl (fun c1 => ?_) (fun c1 => ?_)
  · -- 17
    exact gj_vret (gj_dk okX9_cutTo 9 rfl) rfl ⟨rfl, rfl, h⟩
  · -- 4
    refine gj_iload_n (q := 5) (gj_dk okX9_cutTo 2 rfl) rfl rfl ?_
    refine gj_aload_n (q := 6) (gj_dk okX9_cutTo 3 rfl) rfl rfl ?_
    refine gj_gI (q := 9) (j := 1) (gj_dk okX9_cutTo 4 rfl) ff_X9_15 (sh1 hst) (by decide) rfl rfl ?_
    refine gj_icmp_gt (q := 12) (tgt := 17) (gj_dk okX9_cutTo 5 rfl) (by decide) rfl (fun c9 => ?_) (fun c9 => ?_)
    · -- 17
      exact gj_vret (gj_dk okX9_cutTo 9 rfl) rfl ⟨rfl, rfl, h⟩
    · -- 12
      refine gj_aload_n (q := 13) (gj_dk okX9_cutTo 6 rfl) rfl rfl ?_
      refine gj_iload_n (q := 14) (gj_dk okX9_cutTo 7 rfl) rfl rfl ?_
      refine gj_pfI (q := 17) (j := 1) (gj_dk okX9_cutTo 8 rfl) ff_X9_15 (sh1 hst) (by decide) rfl rfl ?_
      refine gj_abs (fun M1 e3 => ?_)
      have w2 : w_CW M0 M1 := by rw [e3]; exact h.upT (by have q1 := h.2.2.2.1; have q2 := h.2.2.2.2; omega)
      clear e3
      exact gj_vret (gj_dk okX9_cutTo 9 rfl) rfl ⟨rfl, rfl, w2⟩

set_option maxHeartbeats 4000000 in
set_option maxRecDepth 20000 in
theorem w_X11_end (hst : gj_Stat S) (h : w_CW M0 M) (a1 : Int)  : gj_C G l 3 0 0 yX11_end cX11_end 2 (some .boolean) [jR 0, jI a1] S M (gj_qI fun x S' M' => (x = 0 ∨ x = 1) ∧ S = S' ∧ w_CW M0 M') := by
  refine gj_Cof (by decide +kernel) (Nat.le_of_ble_eq_true rfl) ?_
  change gj_W G l 3 0 0 yX11_end cX11_end 2 (some .boolean) (gj_qI fun x S' M' => (x = 0 ∨ x = 1) ∧ S = S' ∧ w_CW M0 M') 0 0 0 [(0, jR 0), (1, jI a1)] [] S M
  refine gj_iload_n (q := 1) (gj_dk okX11_end 0 rfl) rfl rfl ?_
  refine gj_if_lt (q := 4) (tgt := 15) (gj_dk okX11_end 1 rfl) (by decide) rfl (fun c1 => ?_) (fun c1 => ?_)
  · -- 15
    refine gj_aload_n (q := 16) (gj_dk okX11_end 7 rfl) rfl rfl ?_
    refine gj_iconst (q := 17) (gj_dk okX11_end 8 rfl) (by decide) rfl ?_
    refine gj_callV (q := 20) (z := 0) (ci := 9) [jI 2] rfl (w_X11_refuse hst h  _) (gj_dk okX11_end 9 rfl) ml_X11_92 me_X11_refuse (sh0 hst) rfl (gj_nm rfl) rfl (gj_kI fun x2 S2 M2 h1 => ?_)
    obtain ⟨bx2, eS, w4⟩ := h1; subst eS
    revert w4; generalize M2 = M5; intro w4
    exact gj_zret (gj_dk okX11_end 10 rfl) rfl (by first | decide | assumption | omega) ⟨_, rfl, (by first | decide | assumption | omega), rfl, w4⟩
  · -- 4
    refine gj_iload_n (q := 5) (gj_dk okX11_end 2 rfl) rfl rfl ?_
    refine gj_aload_n (q := 6) (gj_dk okX11_end 3 rfl) rfl rfl ?_
    refine gj_gR (q := 9) (j := 0) (gj_dk okX11_end 4 rfl) ff_X11_10 (sh0 hst) (by decide) rfl (rf0_0 hst) rfl ?_
    refine gj_callV (q := 12) (z := 1) (ci := 8) [] rfl (w_X9_length hst  ) (gj_dk okX11_end 5 rfl) ml_X11_99 me_X9_length (sh1 hst) rfl (gj_nm rfl) rfl (gj_kI fun x7 S2 M2 h6 => ?_)
    obtain ⟨px7, eS, eM⟩ := h6; subst eS; subst eM
    refine gj_icmp_le (q := 15) (tgt := 21) (gj_dk okX11_end 6 rfl) (by decide) rfl (fun c12 => ?_) (fun c12 => ?_)
    · -- 21
      refine gj_aload_n (q := 22) (gj_dk okX11_end 11 rfl) rfl rfl ?_
      refine gj_gR (q := 25) (j := 0) (gj_dk okX11_end 12 rfl) ff_X11_10 (sh0 hst) (by decide) rfl (rf0_0 hst) rfl ?_
      refine gj_iload_n (q := 26) (gj_dk okX11_end 13 rfl) rfl rfl ?_
      refine gj_callV (q := 29) (z := 1) (ci := 8) [jI a1] rfl (w_X9_cutTo hst h  _) (gj_dk okX11_end 14 rfl) ml_X11_103 me_X9_cutTo (sh1 hst) rfl (gj_nm rfl) rfl (gj_kV fun S2 M2 h10 => ?_)
      obtain ⟨eS, w13⟩ := h10; subst eS
      revert w13; generalize M2 = M14; intro w13
      refine gj_iconst (q := 30) (gj_dk okX11_end 15 rfl) (by decide) rfl ?_
      exact gj_zret (gj_dk okX11_end 16 rfl) rfl (by first | decide | assumption | omega) ⟨_, rfl, (by first | decide | assumption | omega), rfl, w13⟩
    · -- 15
      refine gj_aload_n (q := 16) (gj_dk okX11_end 7 rfl) rfl rfl ?_
      refine gj_iconst (q := 17) (gj_dk okX11_end 8 rfl) (by decide) rfl ?_
      refine gj_callV (q := 20) (z := 0) (ci := 9) [jI 2] rfl (w_X11_refuse hst h  _) (gj_dk okX11_end 9 rfl) ml_X11_92 me_X11_refuse (sh0 hst) rfl (gj_nm rfl) rfl (gj_kI fun x16 S2 M2 h15 => ?_)
      obtain ⟨bx16, eS, w18⟩ := h15; subst eS
      revert w18; generalize M2 = M19; intro w18
      exact gj_zret (gj_dk okX11_end 10 rfl) rfl (by first | decide | assumption | omega) ⟨_, rfl, (by first | decide | assumption | omega), rfl, w18⟩

set_option maxHeartbeats 4000000 in
set_option maxRecDepth 20000 in
theorem w_X5_clear (hst : gj_Stat S) (h : w_CW M0 M)   : gj_C G l 2 0 0 yX5_clear cX5_clear 1 none [jR 3] S M (gj_qV fun S' M' => S = S' ∧ w_CW M0 M') := by
  refine gj_Cof (by decide +kernel) (Nat.le_of_ble_eq_true rfl) ?_
  change gj_W G l 2 0 0 yX5_clear cX5_clear 1 none (gj_qV fun S' M' => S = S' ∧ w_CW M0 M') 0 0 0 [(0, jR 3)] [] S M
  refine gj_aload_n (q := 1) (gj_dk okX5_clear 0 rfl) rfl rfl ?_
  refine gj_iconst (q := 2) (gj_dk okX5_clear 1 rfl) (by decide) rfl ?_
  refine gj_pfI (q := 5) (j := 0) (gj_dk okX5_clear 2 rfl) ff_X5_30 (sh3 hst) (by decide) rfl rfl ?_
  refine gj_abs (fun M1 e3 => ?_)
  have w2 : w_CW M0 M1 := by rw [e3]; exact h.up (by decide) rfl
  clear e3
  refine gj_aload_n (q := 6) (gj_dk okX5_clear 3 rfl) rfl rfl ?_
  refine gj_iconst (q := 7) (gj_dk okX5_clear 4 rfl) (by decide) rfl ?_
  refine gj_pfI (q := 10) (j := 1) (gj_dk okX5_clear 5 rfl) ff_X5_34 (sh3 hst) (by decide) rfl rfl ?_
  refine gj_abs (fun M4 e6 => ?_)
  have w5 : w_CW M0 M4 := by rw [e6]; exact w2.up (by decide) rfl
  clear e6
  refine gj_aload_n (q := 11) (gj_dk okX5_clear 6 rfl) rfl rfl ?_
  refine gj_bipush (q := 13) (gj_dk okX5_clear 7 rfl) (by decide) rfl rfl ?_
  refine gj_pfI (q := 16) (j := 2) (gj_dk okX5_clear 8 rfl) ff_X5_37 (sh3 hst) (by decide) rfl rfl ?_
  refine gj_abs (fun M7 e9 => ?_)
  have w8 : w_CW M0 M7 := by rw [e9]; exact w5.up (by decide) rfl
  clear e9
  refine gj_aload_n (q := 17) (gj_dk okX5_clear 9 rfl) rfl rfl ?_
  refine gj_iconst (q := 18) (gj_dk okX5_clear 10 rfl) (by decide) rfl ?_
  refine gj_pfI (q := 21) (j := 3) (gj_dk okX5_clear 11 rfl) ff_X5_40 (sh3 hst) (by decide) rfl rfl ?_
  refine gj_abs (fun M10 e12 => ?_)
  have w11 : w_CW M0 M10 := by rw [e12]; exact w8.up (by decide) rfl
  clear e12
  refine gj_aload_n (q := 22) (gj_dk okX5_clear 12 rfl) rfl rfl ?_
  refine gj_iconst (q := 23) (gj_dk okX5_clear 13 rfl) (by decide) rfl ?_
  refine gj_pfI (q := 26) (j := 4) (gj_dk okX5_clear 14 rfl) ff_X5_43 (sh3 hst) (by decide) rfl rfl ?_
  refine gj_abs (fun M13 e15 => ?_)
  have w14 : w_CW M0 M13 := by rw [e15]; exact w11.up (by decide) rfl
  clear e15
  refine gj_aload_n (q := 27) (gj_dk okX5_clear 15 rfl) rfl rfl ?_
  refine gj_iconst (q := 28) (gj_dk okX5_clear 16 rfl) (by decide) rfl ?_
  refine gj_pfI (q := 31) (j := 5) (gj_dk okX5_clear 17 rfl) ff_X5_46 (sh3 hst) (by decide) rfl rfl ?_
  refine gj_abs (fun M16 e18 => ?_)
  have w17 : w_CW M0 M16 := by rw [e18]; exact w14.up (by decide) rfl
  clear e18
  refine gj_aload_n (q := 32) (gj_dk okX5_clear 18 rfl) rfl rfl ?_
  refine gj_iconst (q := 33) (gj_dk okX5_clear 19 rfl) (by decide) rfl ?_
  refine gj_pfI (q := 36) (j := 6) (gj_dk okX5_clear 20 rfl) ff_X5_49 (sh3 hst) (by decide) rfl rfl ?_
  refine gj_abs (fun M19 e21 => ?_)
  have w20 : w_CW M0 M19 := by rw [e21]; exact w17.up (by decide) rfl
  clear e21
  refine gj_aload_n (q := 37) (gj_dk okX5_clear 21 rfl) rfl rfl ?_
  refine gj_iconst (q := 38) (gj_dk okX5_clear 22 rfl) (by decide) rfl ?_
  refine gj_pfI (q := 41) (j := 7) (gj_dk okX5_clear 23 rfl) ff_X5_52 (sh3 hst) (by decide) rfl rfl ?_
  refine gj_abs (fun M22 e24 => ?_)
  have w23 : w_CW M0 M22 := by rw [e24]; exact w20.up (by decide) rfl
  clear e24
  refine gj_aload_n (q := 42) (gj_dk okX5_clear 24 rfl) rfl rfl ?_
  refine gj_iconst (q := 43) (gj_dk okX5_clear 25 rfl) (by decide) rfl ?_
  refine gj_pfI (q := 46) (j := 8) (gj_dk okX5_clear 26 rfl) ff_X5_55 (sh3 hst) (by decide) rfl rfl ?_
  refine gj_abs (fun M25 e27 => ?_)
  have w26 : w_CW M0 M25 := by rw [e27]; exact w23.up (by decide) rfl
  clear e27
  refine gj_aload_n (q := 47) (gj_dk okX5_clear 27 rfl) rfl rfl ?_
  refine gj_iconst (q := 48) (gj_dk okX5_clear 28 rfl) (by decide) rfl ?_
  refine gj_pfI (q := 51) (j := 9) (gj_dk okX5_clear 29 rfl) ff_X5_58 (sh3 hst) (by decide) rfl rfl ?_
  refine gj_abs (fun M28 e30 => ?_)
  have w29 : w_CW M0 M28 := by rw [e30]; exact w_CW.upA (by decide) w26 (by omega)
  clear e30
  refine gj_aload_n (q := 52) (gj_dk okX5_clear 30 rfl) rfl rfl ?_
  refine gj_gR (q := 55) (j := 10) (gj_dk okX5_clear 31 rfl) ff_X5_9 (sh3 hst) (by decide) rfl (rf3_10 hst) rfl ?_
  refine gj_iconst (q := 56) (gj_dk okX5_clear 32 rfl) (by decide) rfl ?_
  refine gj_callS (q := 59) [jR 4, jI 0] rfl (c_X7_fill (sh4 hst) (by decide) (by decide) _) (gj_dk okX5_clear 33 rfl) ml_X5_61 me_X7_fill (gj_nm rfl) rfl (gj_kV fun S2 M2 h31 => ?_)
  obtain ⟨eS, eM⟩ := h31; subst eS
  have w34 : w_CW M0 M2 := by rw [← eM]; exact w_CW.fill w29 (by decide) (by decide)
  clear eM
  revert w34; generalize M2 = M35; intro w34
  refine gj_aload_n (q := 60) (gj_dk okX5_clear 34 rfl) rfl rfl ?_
  refine gj_gR (q := 63) (j := 11) (gj_dk okX5_clear 35 rfl) ff_X5_15 (sh3 hst) (by decide) rfl (rf3_11 hst) rfl ?_
  refine gj_bipush (q := 65) (gj_dk okX5_clear 36 rfl) (by decide) rfl rfl ?_
  refine gj_callS (q := 68) [jR 5, jI 8] rfl (c_X7_fill (sh5 hst) (by decide) (by decide) _) (gj_dk okX5_clear 37 rfl) ml_X5_61 me_X7_fill (gj_nm rfl) rfl (gj_kV fun S2 M2 h36 => ?_)
  obtain ⟨eS, eM⟩ := h36; subst eS
  have w39 : w_CW M0 M2 := by rw [← eM]; exact w_CW.fill w34 (by decide) (by decide)
  clear eM
  revert w39; generalize M2 = M40; intro w39
  refine gj_aload_n (q := 69) (gj_dk okX5_clear 38 rfl) rfl rfl ?_
  refine gj_gR (q := 72) (j := 12) (gj_dk okX5_clear 39 rfl) ff_X5_18 (sh3 hst) (by decide) rfl (rf3_12 hst) rfl ?_
  refine gj_bipush (q := 74) (gj_dk okX5_clear 40 rfl) (by decide) rfl rfl ?_
  refine gj_callS (q := 77) [jR 6, jI 12] rfl (c_X7_fill (sh6 hst) (by decide) (by decide) _) (gj_dk okX5_clear 41 rfl) ml_X5_61 me_X7_fill (gj_nm rfl) rfl (gj_kV fun S2 M2 h41 => ?_)
  obtain ⟨eS, eM⟩ := h41; subst eS
  have w44 : w_CW M0 M2 := by rw [← eM]; exact w_CW.fill w39 (by decide) (by decide)
  clear eM
  revert w44; generalize M2 = M45; intro w44
  refine gj_aload_n (q := 78) (gj_dk okX5_clear 42 rfl) rfl rfl ?_
  refine gj_gR (q := 81) (j := 13) (gj_dk okX5_clear 43 rfl) ff_X5_21 (sh3 hst) (by decide) rfl (rf3_13 hst) rfl ?_
  refine gj_iconst (q := 82) (gj_dk okX5_clear 44 rfl) (by decide) rfl ?_
  refine gj_callS (q := 85) [jR 7, jI 4] rfl (c_X7_fill (sh7 hst) (by decide) (by decide) _) (gj_dk okX5_clear 45 rfl) ml_X5_61 me_X7_fill (gj_nm rfl) rfl (gj_kV fun S2 M2 h46 => ?_)
  obtain ⟨eS, eM⟩ := h46; subst eS
  have w49 : w_CW M0 M2 := by rw [← eM]; exact w_CW.fill w44 (by decide) (by decide)
  clear eM
  revert w49; generalize M2 = M50; intro w49
  refine gj_aload_n (q := 86) (gj_dk okX5_clear 46 rfl) rfl rfl ?_
  refine gj_gR (q := 89) (j := 14) (gj_dk okX5_clear 47 rfl) ff_X5_24 (sh3 hst) (by decide) rfl (rf3_14 hst) rfl ?_
  refine gj_bipush (q := 91) (gj_dk okX5_clear 48 rfl) (by decide) rfl rfl ?_
  refine gj_callS (q := 94) [jR 8, jI 8] rfl (c_X7_fill (sh8 hst) (by decide) (by decide) _) (gj_dk okX5_clear 49 rfl) ml_X5_61 me_X7_fill (gj_nm rfl) rfl (gj_kV fun S2 M2 h51 => ?_)
  obtain ⟨eS, eM⟩ := h51; subst eS
  have w54 : w_CW M0 M2 := by rw [← eM]; exact w_CW.fill w49 (by decide) (by decide)
  clear eM
  revert w54; generalize M2 = M55; intro w54
  exact gj_vret (gj_dk okX5_clear 50 rfl) rfl ⟨rfl, rfl, w54⟩

set_option maxHeartbeats 4000000 in
set_option maxRecDepth 20000 in
theorem w_X9_byteAt (hst : gj_Stat S) (a1 : Int)  : gj_C G l 2 0 0 yX9_byteAt cX9_byteAt 2 (some .int) [jR 1, jI a1] S M (gj_qI fun x S' M' => S = S' ∧ M = M') := by
  refine gj_Cof (by decide +kernel) (Nat.le_of_ble_eq_true rfl) ?_
  change gj_W G l 2 0 0 yX9_byteAt cX9_byteAt 2 (some .int) (gj_qI fun x S' M' => S = S' ∧ M = M') 0 0 0 [(0, jR 1), (1, jI a1)] [] S M
  refine gj_iload_n (q := 1) (gj_dk okX9_byteAt 0 rfl) rfl rfl ?_
  refine gj_aload_n (q := 2) (gj_dk okX9_byteAt 1 rfl) rfl rfl ?_
  refine gj_gI (q := 5) (j := 1) (gj_dk okX9_byteAt 2 rfl) ff_X9_15 (sh1 hst) (by decide) rfl rfl ?_
  refine gj_icmp_ge (q := 8) (tgt := 19) (gj_dk okX9_byteAt 3 rfl) (by decide) rfl (fun c5 => ?_) (fun c5 => ?_)
  · -- 19
    refine gj_iconst (q := 20) (gj_dk okX9_byteAt 9 rfl) (by decide) rfl ?_
    exact gj_iret (gj_dk okX9_byteAt 10 rfl) rfl ⟨_, rfl, rfl, rfl⟩
  · -- 8
    refine gj_aload_n (q := 9) (gj_dk okX9_byteAt 4 rfl) rfl rfl ?_
    refine gj_gR (q := 12) (j := 0) (gj_dk okX9_byteAt 5 rfl) ff_X9_9 (sh1 hst) (by decide) rfl (rf1_0 hst) rfl ?_
    refine gj_iload_n (q := 13) (gj_dk okX9_byteAt 6 rfl) rfl rfl ?_
    refine gj_callS (q := 16) [jR 2, jI a1] rfl (c_X7_at (sh2 hst) (by decide) (by decide) _) (gj_dk okX9_byteAt 7 rfl) ml_X9_25 me_X7_at (gj_nm rfl) rfl (gj_kI fun x2 S2 M2 h1 => ?_)
    obtain ⟨-, eS, eM⟩ := h1; subst eS; subst eM
    refine gj_goto (tgt := 20) (gj_dk okX9_byteAt 8 rfl) (by decide) ?_
    exact gj_iret (gj_dk okX9_byteAt 10 rfl) rfl ⟨_, rfl, rfl, rfl⟩

set_option maxHeartbeats 4000000 in
set_option maxRecDepth 20000 in
theorem w_X6_isBlank (hst : gj_Stat S) (a1 : Int)  : gj_C G l 1 0 0 yX6_isBlank cX6_isBlank 1 (some .boolean) [jI a1] S M (gj_qI fun x S' M' => (x = 0 ∨ x = 1) ∧ S = S' ∧ M = M') := by
  refine gj_Cof (by decide +kernel) (Nat.le_of_ble_eq_true rfl) ?_
  change gj_W G l 1 0 0 yX6_isBlank cX6_isBlank 1 (some .boolean) (gj_qI fun x S' M' => (x = 0 ∨ x = 1) ∧ S = S' ∧ M = M') 0 0 0 [(0, jI a1)] [] S M
  refine gj_iload_n (q := 1) (gj_dk okX6_isBlank 0 rfl) rfl rfl ?_
  refine gj_bipush (q := 3) (gj_dk okX6_isBlank 1 rfl) (by decide) rfl rfl ?_
  refine gj_icmp_eq (q := 6) (tgt := 12) (gj_dk okX6_isBlank 2 rfl) (by decide) rfl (fun c3 => ?_) (fun c3 => ?_)
  · -- 12
    refine gj_iconst (q := 13) (gj_dk okX6_isBlank 6 rfl) (by decide) rfl ?_
    refine gj_goto (tgt := 17) (gj_dk okX6_isBlank 7 rfl) (by decide) ?_
    exact gj_zret (gj_dk okX6_isBlank 9 rfl) rfl (by first | decide | assumption | omega) ⟨_, rfl, (by first | decide | assumption | omega), rfl, rfl⟩
  · -- 6
    refine gj_iload_n (q := 7) (gj_dk okX6_isBlank 3 rfl) rfl rfl ?_
    refine gj_bipush (q := 9) (gj_dk okX6_isBlank 4 rfl) (by decide) rfl rfl ?_
    refine gj_icmp_ne (q := 12) (tgt := 16) (gj_dk okX6_isBlank 5 rfl) (by decide) rfl (fun c9 => ?_) (fun c9 => ?_)
    · -- 16
      refine gj_iconst (q := 17) (gj_dk okX6_isBlank 8 rfl) (by decide) rfl ?_
      exact gj_zret (gj_dk okX6_isBlank 9 rfl) rfl (by first | decide | assumption | omega) ⟨_, rfl, (by first | decide | assumption | omega), rfl, rfl⟩
    · -- 12
      refine gj_iconst (q := 13) (gj_dk okX6_isBlank 6 rfl) (by decide) rfl ?_
      refine gj_goto (tgt := 17) (gj_dk okX6_isBlank 7 rfl) (by decide) ?_
      exact gj_zret (gj_dk okX6_isBlank 9 rfl) rfl (by first | decide | assumption | omega) ⟨_, rfl, (by first | decide | assumption | omega), rfl, rfl⟩

set_option maxHeartbeats 4000000 in
set_option maxRecDepth 20000 in
theorem w_X6_kindOf (hst : gj_Stat S) (a1 : Int)  : gj_C G l 1 0 0 yX6_kindOf cX6_kindOf 1 (some .int) [jI a1] S M (gj_qI fun x S' M' => S = S' ∧ M = M') := by
  refine gj_Cof (by decide +kernel) (Nat.le_of_ble_eq_true rfl) ?_
  change gj_W G l 1 0 0 yX6_kindOf cX6_kindOf 1 (some .int) (gj_qI fun x S' M' => S = S' ∧ M = M') 0 0 0 [(0, jI a1)] [] S M
  refine gj_iload_n (q := 1) (gj_dk okX6_kindOf 0 rfl) rfl rfl ?_
  refine gj_iconst (q := 2) (gj_dk okX6_kindOf 1 rfl) (by decide) rfl ?_
  refine gj_icmp_ne (q := 5) (tgt := 7) (gj_dk okX6_kindOf 2 rfl) (by decide) rfl (fun c2 => ?_) (fun c2 => ?_)
  · -- 7
    refine gj_iload_n (q := 8) (gj_dk okX6_kindOf 5 rfl) rfl rfl ?_
    refine gj_bipush (q := 10) (gj_dk okX6_kindOf 6 rfl) (by decide) rfl rfl ?_
    refine gj_icmp_lt (q := 13) (tgt := 21) (gj_dk okX6_kindOf 7 rfl) (by decide) rfl (fun c10 => ?_) (fun c10 => ?_)
    · -- 21
      refine gj_iload_n (q := 22) (gj_dk okX6_kindOf 13 rfl) rfl rfl ?_
      refine gj_bipush (q := 24) (gj_dk okX6_kindOf 14 rfl) (by decide) rfl rfl ?_
      refine gj_icmp_lt (q := 27) (tgt := 35) (gj_dk okX6_kindOf 15 rfl) (by decide) rfl (fun c24 => ?_) (fun c24 => ?_)
      · -- 35
        refine gj_iload_n (q := 36) (gj_dk okX6_kindOf 21 rfl) rfl rfl ?_
        refine gj_bipush (q := 38) (gj_dk okX6_kindOf 22 rfl) (by decide) rfl rfl ?_
        refine gj_icmp_ne (q := 41) (tgt := 45) (gj_dk okX6_kindOf 23 rfl) (by decide) rfl (fun c38 => ?_) (fun c38 => ?_)
        · -- 45
          refine gj_iconst (q := 46) (gj_dk okX6_kindOf 26 rfl) (by decide) rfl ?_
          exact gj_iret (gj_dk okX6_kindOf 27 rfl) rfl ⟨_, rfl, rfl, rfl⟩
        · -- 41
          refine gj_iconst (q := 42) (gj_dk okX6_kindOf 24 rfl) (by decide) rfl ?_
          refine gj_goto (tgt := 46) (gj_dk okX6_kindOf 25 rfl) (by decide) ?_
          exact gj_iret (gj_dk okX6_kindOf 27 rfl) rfl ⟨_, rfl, rfl, rfl⟩
      · -- 27
        refine gj_iload_n (q := 28) (gj_dk okX6_kindOf 16 rfl) rfl rfl ?_
        refine gj_bipush (q := 30) (gj_dk okX6_kindOf 17 rfl) (by decide) rfl rfl ?_
        refine gj_icmp_gt (q := 33) (tgt := 35) (gj_dk okX6_kindOf 18 rfl) (by decide) rfl (fun c30 => ?_) (fun c30 => ?_)
        · -- 35
          refine gj_iload_n (q := 36) (gj_dk okX6_kindOf 21 rfl) rfl rfl ?_
          refine gj_bipush (q := 38) (gj_dk okX6_kindOf 22 rfl) (by decide) rfl rfl ?_
          refine gj_icmp_ne (q := 41) (tgt := 45) (gj_dk okX6_kindOf 23 rfl) (by decide) rfl (fun c38 => ?_) (fun c38 => ?_)
          · -- 45
            refine gj_iconst (q := 46) (gj_dk okX6_kindOf 26 rfl) (by decide) rfl ?_
            exact gj_iret (gj_dk okX6_kindOf 27 rfl) rfl ⟨_, rfl, rfl, rfl⟩
          · -- 41
            refine gj_iconst (q := 42) (gj_dk okX6_kindOf 24 rfl) (by decide) rfl ?_
            refine gj_goto (tgt := 46) (gj_dk okX6_kindOf 25 rfl) (by decide) ?_
            exact gj_iret (gj_dk okX6_kindOf 27 rfl) rfl ⟨_, rfl, rfl, rfl⟩
        · -- 33
          refine gj_iconst (q := 34) (gj_dk okX6_kindOf 19 rfl) (by decide) rfl ?_
          exact gj_iret (gj_dk okX6_kindOf 20 rfl) rfl ⟨_, rfl, rfl, rfl⟩
    · -- 13
      refine gj_iload_n (q := 14) (gj_dk okX6_kindOf 8 rfl) rfl rfl ?_
      refine gj_bipush (q := 16) (gj_dk okX6_kindOf 9 rfl) (by decide) rfl rfl ?_
      refine gj_icmp_gt (q := 19) (tgt := 21) (gj_dk okX6_kindOf 10 rfl) (by decide) rfl (fun c16 => ?_) (fun c16 => ?_)
      · -- 21
        refine gj_iload_n (q := 22) (gj_dk okX6_kindOf 13 rfl) rfl rfl ?_
        refine gj_bipush (q := 24) (gj_dk okX6_kindOf 14 rfl) (by decide) rfl rfl ?_
        refine gj_icmp_lt (q := 27) (tgt := 35) (gj_dk okX6_kindOf 15 rfl) (by decide) rfl (fun c24 => ?_) (fun c24 => ?_)
        · -- 35
          refine gj_iload_n (q := 36) (gj_dk okX6_kindOf 21 rfl) rfl rfl ?_
          refine gj_bipush (q := 38) (gj_dk okX6_kindOf 22 rfl) (by decide) rfl rfl ?_
          refine gj_icmp_ne (q := 41) (tgt := 45) (gj_dk okX6_kindOf 23 rfl) (by decide) rfl (fun c38 => ?_) (fun c38 => ?_)
          · -- 45
            refine gj_iconst (q := 46) (gj_dk okX6_kindOf 26 rfl) (by decide) rfl ?_
            exact gj_iret (gj_dk okX6_kindOf 27 rfl) rfl ⟨_, rfl, rfl, rfl⟩
          · -- 41
            refine gj_iconst (q := 42) (gj_dk okX6_kindOf 24 rfl) (by decide) rfl ?_
            refine gj_goto (tgt := 46) (gj_dk okX6_kindOf 25 rfl) (by decide) ?_
            exact gj_iret (gj_dk okX6_kindOf 27 rfl) rfl ⟨_, rfl, rfl, rfl⟩
        · -- 27
          refine gj_iload_n (q := 28) (gj_dk okX6_kindOf 16 rfl) rfl rfl ?_
          refine gj_bipush (q := 30) (gj_dk okX6_kindOf 17 rfl) (by decide) rfl rfl ?_
          refine gj_icmp_gt (q := 33) (tgt := 35) (gj_dk okX6_kindOf 18 rfl) (by decide) rfl (fun c30 => ?_) (fun c30 => ?_)
          · -- 35
            refine gj_iload_n (q := 36) (gj_dk okX6_kindOf 21 rfl) rfl rfl ?_
            refine gj_bipush (q := 38) (gj_dk okX6_kindOf 22 rfl) (by decide) rfl rfl ?_
            refine gj_icmp_ne (q := 41) (tgt := 45) (gj_dk okX6_kindOf 23 rfl) (by decide) rfl (fun c38 => ?_) (fun c38 => ?_)
            · -- 45
              refine gj_iconst (q := 46) (gj_dk okX6_kindOf 26 rfl) (by decide) rfl ?_
              exact gj_iret (gj_dk okX6_kindOf 27 rfl) rfl ⟨_, rfl, rfl, rfl⟩
            · -- 41
              refine gj_iconst (q := 42) (gj_dk okX6_kindOf 24 rfl) (by decide) rfl ?_
              refine gj_goto (tgt := 46) (gj_dk okX6_kindOf 25 rfl) (by decide) ?_
              exact gj_iret (gj_dk okX6_kindOf 27 rfl) rfl ⟨_, rfl, rfl, rfl⟩
          · -- 33
            refine gj_iconst (q := 34) (gj_dk okX6_kindOf 19 rfl) (by decide) rfl ?_
            exact gj_iret (gj_dk okX6_kindOf 20 rfl) rfl ⟨_, rfl, rfl, rfl⟩
      · -- 19
        refine gj_iconst (q := 20) (gj_dk okX6_kindOf 11 rfl) (by decide) rfl ?_
        exact gj_iret (gj_dk okX6_kindOf 12 rfl) rfl ⟨_, rfl, rfl, rfl⟩
  · -- 5
    refine gj_iconst (q := 6) (gj_dk okX6_kindOf 3 rfl) (by decide) rfl ?_
    exact gj_iret (gj_dk okX6_kindOf 4 rfl) rfl ⟨_, rfl, rfl, rfl⟩

set_option maxHeartbeats 4000000 in
set_option maxRecDepth 20000 in
theorem w_X6_scan (hst : gj_Stat S) (h : w_CW M0 M)   : gj_C G l 3 0 0 yX6_scan cX6_scan 1 none [jR 10] S M (gj_qV fun S' M' => M' 10 9 = M 10 9 ∧ S = S' ∧ w_CW M0 M') := by
  refine gj_Cof (by decide +kernel) (Nat.le_of_ble_eq_true rfl) ?_
  change gj_W G l 3 0 0 yX6_scan cX6_scan 1 none (gj_qV fun S' M' => M' 10 9 = M 10 9 ∧ S = S' ∧ w_CW M0 M') 0 0 0 [(0, jR 10)] [] S M
  replace h : w_CV M0 (M 10 9) M := ⟨h, rfl⟩
  refine gj_aload_n (q := 1) (gj_dk okX6_scan 0 rfl) rfl rfl ?_
  refine gj_aload_n (q := 2) (gj_dk okX6_scan 1 rfl) rfl rfl ?_
  refine gj_gI (q := 5) (j := 8) (gj_dk okX6_scan 2 rfl) ff_X6_39 (sh10 hst) (by decide) rfl rfl ?_
  refine gj_pfI (q := 8) (j := 7) (gj_dk okX6_scan 3 rfl) ff_X6_64 (sh10 hst) (by decide) rfl rfl ?_
  refine gj_abs (fun M1 e3 => ?_)
  have w2 : w_CV M0 (M 10 9) M1 := by rw [e3]; exact h.up (by decide) rfl (by decide)
  have hvM1 : M1 10 7 = M 10 8 := by rw [e3]; exact if_pos ⟨rfl, rfl⟩
  clear e3
  have L8 : ∀ (k4 : Nat) (M5 : gj_M), (w_CV M0 (M 10 9) M5) → (2147483647 - M5 10 7).toNat < k4 → gj_W G l 3 0 0 yX6_scan cX6_scan 1 none (gj_qV fun S' M' => M' 10 9 = M 10 9 ∧ S = S' ∧ w_CW M0 M') 0 0 8 [(0, jR 10)] [] S M5 := by
    intro k4
    induction k4 with
    | zero => intro M5 w6 hk8; exact absurd hk8 (Nat.not_lt_zero _)
    | succ k4 ih8 =>
      intro M5 w6 hk8
      refine gj_aload_n (q := 9) (gj_dk okX6_scan 4 rfl) rfl rfl ?_
      refine gj_gI (q := 12) (j := 7) (gj_dk okX6_scan 5 rfl) ff_X6_64 (sh10 hst) (by decide) rfl rfl ?_
      refine gj_aload_n (q := 13) (gj_dk okX6_scan 6 rfl) rfl rfl ?_
      refine gj_gR (q := 16) (j := 0) (gj_dk okX6_scan 7 rfl) ff_X6_22 (sh10 hst) (by decide) rfl (rf10_0 hst) rfl ?_
      refine gj_callV (q := 19) (z := 1) (ci := 8) [] rfl (w_X9_length hst  ) (gj_dk okX6_scan 8 rfl) ml_X6_51 me_X9_length (sh1 hst) rfl (gj_nm rfl) rfl (gj_kI fun x8 S2 M2 h7 => ?_)
      obtain ⟨px8, eS, eM⟩ := h7; subst eS; subst eM
      refine gj_rng (fun ho19 _ _ => ?_)
      have hb19 : -2147483648 ≤ x8 ∧ x8 < 2147483648 := gj_o0 ho19
      have ha19 : -2147483648 ≤ M5 10 7 ∧ M5 10 7 < 2147483648 := gj_o1 ho19
      clear ho19
      have J52 : ∀ (M11 : gj_M), (w_CV M0 (M 10 9) M11) → gj_W G l 3 0 0 yX6_scan cX6_scan 1 none (gj_qV fun S' M' => M' 10 9 = M 10 9 ∧ S = S' ∧ w_CW M0 M') 0 0 52 [(0, jR 10)] [] S M11 := by
        intro M11 w12
        refine gj_aload_n (q := 53) (gj_dk okX6_scan 24 rfl) rfl rfl ?_
        refine gj_aload_n (q := 54) (gj_dk okX6_scan 25 rfl) rfl rfl ?_
        refine gj_gR (q := 57) (j := 0) (gj_dk okX6_scan 26 rfl) ff_X6_22 (sh10 hst) (by decide) rfl (rf10_0 hst) rfl ?_
        refine gj_aload_n (q := 58) (gj_dk okX6_scan 27 rfl) rfl rfl ?_
        refine gj_gI (q := 61) (j := 7) (gj_dk okX6_scan 28 rfl) ff_X6_64 (sh10 hst) (by decide) rfl rfl ?_
        refine gj_callV (q := 64) (z := 1) (ci := 8) [jI (M11 10 7)] rfl (w_X9_byteAt hst  _) (gj_dk okX6_scan 29 rfl) ml_X6_70 me_X9_byteAt (sh1 hst) rfl (gj_nm rfl) rfl (gj_kI fun x14 S2 M2 h13 => ?_)
        obtain ⟨eS, eM⟩ := h13; subst eS; subst eM
        refine gj_callS (q := 67) [jI x14] rfl (w_X6_kindOf hst  _) (gj_dk okX6_scan 30 rfl) ml_X6_78 me_X6_kindOf (gj_nm rfl) rfl (gj_kI fun x18 S2 M2 h17 => ?_)
        obtain ⟨eS, eM⟩ := h17; subst eS; subst eM
        refine gj_pfI (q := 70) (j := 6) (gj_dk okX6_scan 31 rfl) ff_X6_57 (sh10 hst) (by decide) rfl rfl ?_
        refine gj_abs (fun M21 e23 => ?_)
        have w22 : w_CV M0 (M 10 9) M21 := by rw [e23]; exact w12.up (by decide) rfl (by decide)
        clear e23
        refine gj_aload_n (q := 71) (gj_dk okX6_scan 32 rfl) rfl rfl ?_
        refine gj_aload_n (q := 72) (gj_dk okX6_scan 33 rfl) rfl rfl ?_
        refine gj_gI (q := 75) (j := 6) (gj_dk okX6_scan 34 rfl) ff_X6_57 (sh10 hst) (by decide) rfl rfl ?_
        have J91 : ∀ (x24 : Int), gj_W G l 3 0 0 yX6_scan cX6_scan 1 none (gj_qV fun S' M' => M' 10 9 = M 10 9 ∧ S = S' ∧ w_CW M0 M') 0 0 91 [(0, jR 10)] [jI x24, jR 10] S M21 := by
          intro x24
          refine gj_pfI (q := 94) (j := 8) (gj_dk okX6_scan 43 rfl) ff_X6_39 (sh10 hst) (by decide) rfl rfl ?_
          refine gj_abs (fun M25 e27 => ?_)
          have w26 : w_CV M0 (M 10 9) M25 := by rw [e27]; exact w22.up (by decide) rfl (by decide)
          have hvM25 : M25 10 8 = x24 := by rw [e27]; exact if_pos ⟨rfl, rfl⟩
          clear e27
          refine gj_aload_n (q := 95) (gj_dk okX6_scan 44 rfl) rfl rfl ?_
          refine gj_gI (q := 98) (j := 6) (gj_dk okX6_scan 45 rfl) ff_X6_57 (sh10 hst) (by decide) rfl rfl ?_
          refine gj_iconst (q := 99) (gj_dk okX6_scan 46 rfl) (by decide) rfl ?_
          refine gj_icmp_eq (q := 102) (tgt := 110) (gj_dk okX6_scan 47 rfl) (by decide) rfl (fun c99 => ?_) (fun c99 => ?_)
          · -- 110
            have L110 : ∀ (k28 : Nat) (M29 : gj_M), (w_CV M0 (M 10 9) M29) → (2147483647 - M29 10 8).toNat < k28 → gj_W G l 3 0 0 yX6_scan cX6_scan 1 none (gj_qV fun S' M' => M' 10 9 = M 10 9 ∧ S = S' ∧ w_CW M0 M') 0 0 110 [(0, jR 10)] [] S M29 := by
              intro k28
              induction k28 with
              | zero => intro M29 w30 hk110; exact absurd hk110 (Nat.not_lt_zero _)
              | succ k28 ih110 =>
                intro M29 w30 hk110
                refine gj_aload_n (q := 111) (gj_dk okX6_scan 52 rfl) rfl rfl ?_
                refine gj_gI (q := 114) (j := 8) (gj_dk okX6_scan 53 rfl) ff_X6_39 (sh10 hst) (by decide) rfl rfl ?_
                refine gj_aload_n (q := 115) (gj_dk okX6_scan 54 rfl) rfl rfl ?_
                refine gj_gR (q := 118) (j := 0) (gj_dk okX6_scan 55 rfl) ff_X6_22 (sh10 hst) (by decide) rfl (rf10_0 hst) rfl ?_
                refine gj_callV (q := 121) (z := 1) (ci := 8) [] rfl (w_X9_length hst  ) (gj_dk okX6_scan 56 rfl) ml_X6_51 me_X9_length (sh1 hst) rfl (gj_nm rfl) rfl (gj_kI fun x32 S2 M2 h31 => ?_)
                obtain ⟨px32, eS, eM⟩ := h31; subst eS; subst eM
                refine gj_rng (fun ho121 _ _ => ?_)
                have hb121 : -2147483648 ≤ x32 ∧ x32 < 2147483648 := gj_o0 ho121
                have ha121 : -2147483648 ≤ M29 10 8 ∧ M29 10 8 < 2147483648 := gj_o1 ho121
                clear ho121
                refine gj_icmp_ge (q := 124) (tgt := 158) (gj_dk okX6_scan 57 rfl) (by decide) rfl (fun c121 => ?_) (fun c121 => ?_)
                · -- 158
                  exact gj_vret (gj_dk okX6_scan 74 rfl) rfl ⟨rfl, (by exact w30.2), rfl, w30.1⟩
                · -- 124
                  refine gj_aload_n (q := 125) (gj_dk okX6_scan 58 rfl) rfl rfl ?_
                  refine gj_gR (q := 128) (j := 0) (gj_dk okX6_scan 59 rfl) ff_X6_22 (sh10 hst) (by decide) rfl (rf10_0 hst) rfl ?_
                  refine gj_aload_n (q := 129) (gj_dk okX6_scan 60 rfl) rfl rfl ?_
                  refine gj_gI (q := 132) (j := 8) (gj_dk okX6_scan 61 rfl) ff_X6_39 (sh10 hst) (by decide) rfl rfl ?_
                  refine gj_callV (q := 135) (z := 1) (ci := 8) [jI (M29 10 8)] rfl (w_X9_byteAt hst  _) (gj_dk okX6_scan 62 rfl) ml_X6_70 me_X9_byteAt (sh1 hst) rfl (gj_nm rfl) rfl (gj_kI fun x36 S2 M2 h35 => ?_)
                  obtain ⟨eS, eM⟩ := h35; subst eS; subst eM
                  refine gj_callS (q := 138) [jI x36] rfl (w_X6_kindOf hst  _) (gj_dk okX6_scan 63 rfl) ml_X6_78 me_X6_kindOf (gj_nm rfl) rfl (gj_kI fun x40 S2 M2 h39 => ?_)
                  obtain ⟨eS, eM⟩ := h39; subst eS; subst eM
                  refine gj_aload_n (q := 139) (gj_dk okX6_scan 64 rfl) rfl rfl ?_
                  refine gj_gI (q := 142) (j := 6) (gj_dk okX6_scan 65 rfl) ff_X6_57 (sh10 hst) (by decide) rfl rfl ?_
                  refine gj_rng (fun ho142 _ _ => ?_)
                  have hb142 : -2147483648 ≤ M29 10 6 ∧ M29 10 6 < 2147483648 := gj_o0 ho142
                  have ha142 : -2147483648 ≤ x40 ∧ x40 < 2147483648 := gj_o1 ho142
                  clear ho142
                  refine gj_icmp_ne (q := 145) (tgt := 158) (gj_dk okX6_scan 66 rfl) (by decide) rfl (fun c142 => ?_) (fun c142 => ?_)
                  · -- 158
                    exact gj_vret (gj_dk okX6_scan 74 rfl) rfl ⟨rfl, (by exact w30.2), rfl, w30.1⟩
                  · -- 145
                    refine gj_aload_n (q := 146) (gj_dk okX6_scan 67 rfl) rfl rfl ?_
                    refine gj_dup (q := 147) (gj_dk okX6_scan 68 rfl) rfl rfl ?_
                    refine gj_gI (q := 150) (j := 8) (gj_dk okX6_scan 69 rfl) ff_X6_39 (sh10 hst) (by decide) rfl rfl ?_
                    refine gj_iconst (q := 151) (gj_dk okX6_scan 70 rfl) (by decide) rfl ?_
                    refine gj_iaddX (q := 152) (gj_dk okX6_scan 71 rfl) (by omega) rfl ?_
                    refine gj_pfI (q := 155) (j := 8) (gj_dk okX6_scan 72 rfl) ff_X6_39 (sh10 hst) (by decide) rfl rfl ?_
                    refine gj_abs (fun M43 e45 => ?_)
                    have w44 : w_CV M0 (M 10 9) M43 := by rw [e45]; exact w30.up (by decide) rfl (by decide)
                    have hvM43 : M43 10 8 = (M29 10 8) + 1 := by rw [e45]; exact if_pos ⟨rfl, rfl⟩
                    clear e45
                    refine gj_goto (tgt := 110) (gj_dk okX6_scan 73 rfl) (by decide) ?_
                    refine gj_sub [(0, jR 10)] ⟨rfl, trivial⟩ ?_
                    exact ih110 _ w44 (by omega)
            refine gj_sub [(0, jR 10)] ⟨rfl, trivial⟩ ?_
            exact L110 _ _ w26 (Nat.lt_succ_self _)
          · -- 102
            refine gj_aload_n (q := 103) (gj_dk okX6_scan 48 rfl) rfl rfl ?_
            refine gj_gI (q := 106) (j := 6) (gj_dk okX6_scan 49 rfl) ff_X6_57 (sh10 hst) (by decide) rfl rfl ?_
            refine gj_iconst (q := 107) (gj_dk okX6_scan 50 rfl) (by decide) rfl ?_
            refine gj_icmp_ne (q := 110) (tgt := 158) (gj_dk okX6_scan 51 rfl) (by decide) rfl (fun c107 => ?_) (fun c107 => ?_)
            · -- 158
              exact gj_vret (gj_dk okX6_scan 74 rfl) rfl ⟨rfl, (by exact w26.2), rfl, w26.1⟩
            · -- 110
              have L110 : ∀ (k46 : Nat) (M47 : gj_M), (w_CV M0 (M 10 9) M47) → (2147483647 - M47 10 8).toNat < k46 → gj_W G l 3 0 0 yX6_scan cX6_scan 1 none (gj_qV fun S' M' => M' 10 9 = M 10 9 ∧ S = S' ∧ w_CW M0 M') 0 0 110 [(0, jR 10)] [] S M47 := by
                intro k46
                induction k46 with
                | zero => intro M47 w48 hk110; exact absurd hk110 (Nat.not_lt_zero _)
                | succ k46 ih110 =>
                  intro M47 w48 hk110
                  refine gj_aload_n (q := 111) (gj_dk okX6_scan 52 rfl) rfl rfl ?_
                  refine gj_gI (q := 114) (j := 8) (gj_dk okX6_scan 53 rfl) ff_X6_39 (sh10 hst) (by decide) rfl rfl ?_
                  refine gj_aload_n (q := 115) (gj_dk okX6_scan 54 rfl) rfl rfl ?_
                  refine gj_gR (q := 118) (j := 0) (gj_dk okX6_scan 55 rfl) ff_X6_22 (sh10 hst) (by decide) rfl (rf10_0 hst) rfl ?_
                  refine gj_callV (q := 121) (z := 1) (ci := 8) [] rfl (w_X9_length hst  ) (gj_dk okX6_scan 56 rfl) ml_X6_51 me_X9_length (sh1 hst) rfl (gj_nm rfl) rfl (gj_kI fun x50 S2 M2 h49 => ?_)
                  obtain ⟨px50, eS, eM⟩ := h49; subst eS; subst eM
                  refine gj_rng (fun ho121 _ _ => ?_)
                  have hb121 : -2147483648 ≤ x50 ∧ x50 < 2147483648 := gj_o0 ho121
                  have ha121 : -2147483648 ≤ M47 10 8 ∧ M47 10 8 < 2147483648 := gj_o1 ho121
                  clear ho121
                  refine gj_icmp_ge (q := 124) (tgt := 158) (gj_dk okX6_scan 57 rfl) (by decide) rfl (fun c121 => ?_) (fun c121 => ?_)
                  · -- 158
                    exact gj_vret (gj_dk okX6_scan 74 rfl) rfl ⟨rfl, (by exact w48.2), rfl, w48.1⟩
                  · -- 124
                    refine gj_aload_n (q := 125) (gj_dk okX6_scan 58 rfl) rfl rfl ?_
                    refine gj_gR (q := 128) (j := 0) (gj_dk okX6_scan 59 rfl) ff_X6_22 (sh10 hst) (by decide) rfl (rf10_0 hst) rfl ?_
                    refine gj_aload_n (q := 129) (gj_dk okX6_scan 60 rfl) rfl rfl ?_
                    refine gj_gI (q := 132) (j := 8) (gj_dk okX6_scan 61 rfl) ff_X6_39 (sh10 hst) (by decide) rfl rfl ?_
                    refine gj_callV (q := 135) (z := 1) (ci := 8) [jI (M47 10 8)] rfl (w_X9_byteAt hst  _) (gj_dk okX6_scan 62 rfl) ml_X6_70 me_X9_byteAt (sh1 hst) rfl (gj_nm rfl) rfl (gj_kI fun x54 S2 M2 h53 => ?_)
                    obtain ⟨eS, eM⟩ := h53; subst eS; subst eM
                    refine gj_callS (q := 138) [jI x54] rfl (w_X6_kindOf hst  _) (gj_dk okX6_scan 63 rfl) ml_X6_78 me_X6_kindOf (gj_nm rfl) rfl (gj_kI fun x58 S2 M2 h57 => ?_)
                    obtain ⟨eS, eM⟩ := h57; subst eS; subst eM
                    refine gj_aload_n (q := 139) (gj_dk okX6_scan 64 rfl) rfl rfl ?_
                    refine gj_gI (q := 142) (j := 6) (gj_dk okX6_scan 65 rfl) ff_X6_57 (sh10 hst) (by decide) rfl rfl ?_
                    refine gj_rng (fun ho142 _ _ => ?_)
                    have hb142 : -2147483648 ≤ M47 10 6 ∧ M47 10 6 < 2147483648 := gj_o0 ho142
                    have ha142 : -2147483648 ≤ x58 ∧ x58 < 2147483648 := gj_o1 ho142
                    clear ho142
                    refine gj_icmp_ne (q := 145) (tgt := 158) (gj_dk okX6_scan 66 rfl) (by decide) rfl (fun c142 => ?_) (fun c142 => ?_)
                    · -- 158
                      exact gj_vret (gj_dk okX6_scan 74 rfl) rfl ⟨rfl, (by exact w48.2), rfl, w48.1⟩
                    · -- 145
                      refine gj_aload_n (q := 146) (gj_dk okX6_scan 67 rfl) rfl rfl ?_
                      refine gj_dup (q := 147) (gj_dk okX6_scan 68 rfl) rfl rfl ?_
                      refine gj_gI (q := 150) (j := 8) (gj_dk okX6_scan 69 rfl) ff_X6_39 (sh10 hst) (by decide) rfl rfl ?_
                      refine gj_iconst (q := 151) (gj_dk okX6_scan 70 rfl) (by decide) rfl ?_
                      refine gj_iaddX (q := 152) (gj_dk okX6_scan 71 rfl) (by omega) rfl ?_
                      refine gj_pfI (q := 155) (j := 8) (gj_dk okX6_scan 72 rfl) ff_X6_39 (sh10 hst) (by decide) rfl rfl ?_
                      refine gj_abs (fun M61 e63 => ?_)
                      have w62 : w_CV M0 (M 10 9) M61 := by rw [e63]; exact w48.up (by decide) rfl (by decide)
                      have hvM61 : M61 10 8 = (M47 10 8) + 1 := by rw [e63]; exact if_pos ⟨rfl, rfl⟩
                      clear e63
                      refine gj_goto (tgt := 110) (gj_dk okX6_scan 73 rfl) (by decide) ?_
                      refine gj_sub [(0, jR 10)] ⟨rfl, trivial⟩ ?_
                      exact ih110 _ w62 (by omega)
              refine gj_sub [(0, jR 10)] ⟨rfl, trivial⟩ ?_
              exact L110 _ _ w26 (Nat.lt_succ_self _)
        refine gj_if_ne (q := 78) (tgt := 85) (gj_dk okX6_scan 35 rfl) (by decide) rfl (fun c75 => ?_) (fun c75 => ?_)
        · -- 85
          refine gj_aload_n (q := 86) (gj_dk okX6_scan 39 rfl) rfl rfl ?_
          refine gj_gI (q := 89) (j := 7) (gj_dk okX6_scan 40 rfl) ff_X6_64 (sh10 hst) (by decide) rfl rfl ?_
          refine gj_iconst (q := 90) (gj_dk okX6_scan 41 rfl) (by decide) rfl ?_
          refine gj_iadd (q := 91) (gj_dk okX6_scan 42 rfl) rfl ?_
          refine gj_sub [(0, jR 10)] ⟨rfl, trivial⟩ ?_
          exact J91 _
        · -- 78
          refine gj_aload_n (q := 79) (gj_dk okX6_scan 36 rfl) rfl rfl ?_
          refine gj_gI (q := 82) (j := 7) (gj_dk okX6_scan 37 rfl) ff_X6_64 (sh10 hst) (by decide) rfl rfl ?_
          refine gj_goto (tgt := 91) (gj_dk okX6_scan 38 rfl) (by decide) ?_
          refine gj_sub [(0, jR 10)] ⟨rfl, trivial⟩ ?_
          exact J91 _
      refine gj_icmp_ge (q := 22) (tgt := 52) (gj_dk okX6_scan 9 rfl) (by decide) rfl (fun c19 => ?_) (fun c19 => ?_)
      · -- 52
        refine gj_sub [(0, jR 10)] ⟨rfl, trivial⟩ ?_
        exact J52 _ w6
      · -- 22
        refine gj_aload_n (q := 23) (gj_dk okX6_scan 10 rfl) rfl rfl ?_
        refine gj_gR (q := 26) (j := 0) (gj_dk okX6_scan 11 rfl) ff_X6_22 (sh10 hst) (by decide) rfl (rf10_0 hst) rfl ?_
        refine gj_aload_n (q := 27) (gj_dk okX6_scan 12 rfl) rfl rfl ?_
        refine gj_gI (q := 30) (j := 7) (gj_dk okX6_scan 13 rfl) ff_X6_64 (sh10 hst) (by decide) rfl rfl ?_
        refine gj_callV (q := 33) (z := 1) (ci := 8) [jI (M5 10 7)] rfl (w_X9_byteAt hst  _) (gj_dk okX6_scan 14 rfl) ml_X6_70 me_X9_byteAt (sh1 hst) rfl (gj_nm rfl) rfl (gj_kI fun x65 S2 M2 h64 => ?_)
        obtain ⟨eS, eM⟩ := h64; subst eS; subst eM
        refine gj_callS (q := 36) [jI x65] rfl (w_X6_isBlank hst  _) (gj_dk okX6_scan 15 rfl) ml_X6_74 me_X6_isBlank (gj_nm rfl) rfl (gj_kI fun x69 S2 M2 h68 => ?_)
        obtain ⟨bx69, eS, eM⟩ := h68; subst eS; subst eM
        refine gj_if_eq (q := 39) (tgt := 52) (gj_dk okX6_scan 16 rfl) (by decide) rfl (fun c36 => ?_) (fun c36 => ?_)
        · -- 52
          refine gj_sub [(0, jR 10)] ⟨rfl, trivial⟩ ?_
          exact J52 _ w6
        · -- 39
          refine gj_aload_n (q := 40) (gj_dk okX6_scan 17 rfl) rfl rfl ?_
          refine gj_dup (q := 41) (gj_dk okX6_scan 18 rfl) rfl rfl ?_
          refine gj_gI (q := 44) (j := 7) (gj_dk okX6_scan 19 rfl) ff_X6_64 (sh10 hst) (by decide) rfl rfl ?_
          refine gj_iconst (q := 45) (gj_dk okX6_scan 20 rfl) (by decide) rfl ?_
          refine gj_iaddX (q := 46) (gj_dk okX6_scan 21 rfl) (by omega) rfl ?_
          refine gj_pfI (q := 49) (j := 7) (gj_dk okX6_scan 22 rfl) ff_X6_64 (sh10 hst) (by decide) rfl rfl ?_
          refine gj_abs (fun M72 e74 => ?_)
          have w73 : w_CV M0 (M 10 9) M72 := by rw [e74]; exact w6.up (by decide) rfl (by decide)
          have hvM72 : M72 10 7 = (M5 10 7) + 1 := by rw [e74]; exact if_pos ⟨rfl, rfl⟩
          clear e74
          refine gj_goto (tgt := 8) (gj_dk okX6_scan 23 rfl) (by decide) ?_
          refine gj_sub [(0, jR 10)] ⟨rfl, trivial⟩ ?_
          exact ih8 _ w73 (by omega)
  refine gj_sub [(0, jR 10)] ⟨rfl, trivial⟩ ?_
  exact L8 _ _ w2 (Nat.lt_succ_self _)

set_option maxHeartbeats 4000000 in
set_option maxRecDepth 20000 in
theorem w_X6_isWord (hst : gj_Stat S) {j : Nat} (hj : j < 9) {zw : Int} (hz : zw = -2 - (j : Int))   : gj_C G l 5 0 0 yX6_isWord cX6_isWord 3 (some .boolean) [jR 10, jR zw] S M (gj_qI fun x S' M' => (x = 0 ∨ x = 1) ∧ S = S' ∧ M = M') := by
  refine gj_Cof (by decide +kernel) (Nat.le_of_ble_eq_true rfl) ?_
  change gj_W G l 5 0 0 yX6_isWord cX6_isWord 3 (some .boolean) (gj_qI fun x S' M' => (x = 0 ∨ x = 1) ∧ S = S' ∧ M = M') 0 0 0 [(0, jR 10), (1, jR zw)] [] S M
  refine gj_aload_n (q := 1) (gj_dk okX6_isWord 0 rfl) rfl rfl ?_
  refine gj_gI (q := 4) (j := 6) (gj_dk okX6_isWord 1 rfl) ff_X6_57 (sh10 hst) (by decide) rfl rfl ?_
  refine gj_iconst (q := 5) (gj_dk okX6_isWord 2 rfl) (by decide) rfl ?_
  refine gj_icmp_ne (q := 8) (tgt := 24) (gj_dk okX6_isWord 3 rfl) (by decide) rfl (fun c5 => ?_) (fun c5 => ?_)
  · -- 24
    refine gj_iconst (q := 25) (gj_dk okX6_isWord 12 rfl) (by decide) rfl ?_
    exact gj_zret (gj_dk okX6_isWord 13 rfl) rfl (by first | decide | assumption | omega) ⟨_, rfl, (by first | decide | assumption | omega), rfl, rfl⟩
  · -- 8
    refine gj_aload_n (q := 9) (gj_dk okX6_isWord 4 rfl) rfl rfl ?_
    refine gj_callT (q := 12) [] hj hz rfl (c_J0_length hj hz) (gj_dk okX6_isWord 5 rfl) ml_X6_230 me_J0_length_8abf5 rfl (gj_nm rfl) rfl (gj_kI fun x2 S2 M2 h1 => ?_)
    obtain ⟨ex2, eS, eM⟩ := h1; subst eS; subst eM; subst ex2
    refine gj_aload_n (q := 13) (gj_dk okX6_isWord 6 rfl) rfl rfl ?_
    refine gj_gI (q := 16) (j := 8) (gj_dk okX6_isWord 7 rfl) ff_X6_39 (sh10 hst) (by decide) rfl rfl ?_
    refine gj_aload_n (q := 17) (gj_dk okX6_isWord 8 rfl) rfl rfl ?_
    refine gj_gI (q := 20) (j := 7) (gj_dk okX6_isWord 9 rfl) ff_X6_64 (sh10 hst) (by decide) rfl rfl ?_
    refine gj_isub (q := 21) (gj_dk okX6_isWord 10 rfl) rfl ?_
    refine gj_icmp_eq (q := 24) (tgt := 26) (gj_dk okX6_isWord 11 rfl) (by decide) rfl (fun c21 => ?_) (fun c21 => ?_)
    · -- 26
      refine gj_iconst (q := 27) (gj_dk okX6_isWord 14 rfl) (by decide) rfl ?_
      refine gj_istore_n (q := 28) (gj_dk okX6_isWord 15 rfl) (by decide) rfl ?_
      have L28 : ∀ (k5 : Nat) (x4 : Int), (0 ≤ x4) → (2147483647 - x4).toNat < k5 → gj_W G l 5 0 0 yX6_isWord cX6_isWord 3 (some .boolean) (gj_qI fun x S' M' => (x = 0 ∨ x = 1) ∧ S = S' ∧ M = M') 0 0 28 [(0, jR 10), (1, jR zw), (2, jI x4)] [] S M := by
        intro k5
        induction k5 with
        | zero => intro x4 f6 hk28; exact absurd hk28 (Nat.not_lt_zero _)
        | succ k5 ih28 =>
          intro x4 f6 hk28
          refine gj_iload_n (q := 29) (gj_dk okX6_isWord 16 rfl) rfl rfl ?_
          refine gj_aload_n (q := 30) (gj_dk okX6_isWord 17 rfl) rfl rfl ?_
          refine gj_callT (q := 33) [] hj hz rfl (c_J0_length hj hz) (gj_dk okX6_isWord 18 rfl) ml_X6_230 me_J0_length_8abf5 rfl (gj_nm rfl) rfl (gj_kI fun x8 S2 M2 h7 => ?_)
          obtain ⟨ex8, eS, eM⟩ := h7; subst eS; subst eM; subst ex8
          refine gj_rng (fun ho33 _ _ => ?_)
          have hb33 : -2147483648 ≤ gj_len j ∧ gj_len j < 2147483648 := gj_o0 ho33
          have ha33 : -2147483648 ≤ x4 ∧ x4 < 2147483648 := gj_o1 ho33
          clear ho33
          refine gj_icmp_ge (q := 36) (tgt := 65) (gj_dk okX6_isWord 19 rfl) (by decide) rfl (fun c33 => ?_) (fun c33 => ?_)
          · -- 65
            refine gj_iconst (q := 66) (gj_dk okX6_isWord 35 rfl) (by decide) rfl ?_
            exact gj_zret (gj_dk okX6_isWord 36 rfl) rfl (by first | decide | assumption | omega) ⟨_, rfl, (by first | decide | assumption | omega), rfl, rfl⟩
          · -- 36
            refine gj_aload_n (q := 37) (gj_dk okX6_isWord 20 rfl) rfl rfl ?_
            refine gj_iload_n (q := 38) (gj_dk okX6_isWord 21 rfl) rfl rfl ?_
            refine gj_callT (q := 41) [jI x4] hj hz rfl (c_J0_charAt hj hz (by omega) (by omega)) (gj_dk okX6_isWord 22 rfl) ml_X6_233 me_J0_charAt_5068e rfl (gj_nm rfl) rfl (gj_kI fun x11 S2 M2 h10 => ?_)
            obtain ⟨ex11, eS, eM⟩ := h10; subst eS; subst eM; subst ex11
            refine gj_aload_n (q := 42) (gj_dk okX6_isWord 23 rfl) rfl rfl ?_
            refine gj_gR (q := 45) (j := 0) (gj_dk okX6_isWord 24 rfl) ff_X6_22 (sh10 hst) (by decide) rfl (rf10_0 hst) rfl ?_
            refine gj_aload_n (q := 46) (gj_dk okX6_isWord 25 rfl) rfl rfl ?_
            refine gj_gI (q := 49) (j := 7) (gj_dk okX6_isWord 26 rfl) ff_X6_64 (sh10 hst) (by decide) rfl rfl ?_
            refine gj_iload_n (q := 50) (gj_dk okX6_isWord 27 rfl) rfl rfl ?_
            refine gj_iadd (q := 51) (gj_dk okX6_isWord 28 rfl) rfl ?_
            refine gj_callV (q := 54) (z := 1) (ci := 8) [jI (gj_w ((M 10 7) + x4))] rfl (w_X9_byteAt hst  _) (gj_dk okX6_isWord 29 rfl) ml_X6_70 me_X9_byteAt (sh1 hst) rfl (gj_nm rfl) rfl (gj_kI fun x14 S2 M2 h13 => ?_)
            obtain ⟨eS, eM⟩ := h13; subst eS; subst eM
            refine gj_rng (fun ho54 _ _ => ?_)
            have hb54 : -2147483648 ≤ x14 ∧ x14 < 2147483648 := gj_o0 ho54
            have ha54 : -2147483648 ≤ gj_ch j (x4).toNat ∧ gj_ch j (x4).toNat < 2147483648 := gj_o1 ho54
            clear ho54
            refine gj_icmp_eq (q := 57) (tgt := 59) (gj_dk okX6_isWord 30 rfl) (by decide) rfl (fun c54 => ?_) (fun c54 => ?_)
            · -- 59
              refine gj_iinc (q := 62) (v := x4 + 1) (gj_dk okX6_isWord 33 rfl) rfl (by decide) (gj_wle (by omega) (by omega)) rfl ?_
              refine gj_goto (tgt := 28) (gj_dk okX6_isWord 34 rfl) (by decide) ?_
              refine gj_sub [(0, jR 10), (1, jR zw), (2, jI (x4 + 1))] ⟨rfl, rfl, rfl, trivial⟩ ?_
              exact ih28 _ (by omega) (by omega)
            · -- 57
              refine gj_iconst (q := 58) (gj_dk okX6_isWord 31 rfl) (by decide) rfl ?_
              exact gj_zret (gj_dk okX6_isWord 32 rfl) rfl (by first | decide | assumption | omega) ⟨_, rfl, (by first | decide | assumption | omega), rfl, rfl⟩
      refine gj_sub [(0, jR 10), (1, jR zw), (2, jI 0)] ⟨rfl, rfl, rfl, trivial⟩ ?_
      exact L28 _ _ (by omega) (Nat.lt_succ_self _)
    · -- 24
      refine gj_iconst (q := 25) (gj_dk okX6_isWord 12 rfl) (by decide) rfl ?_
      exact gj_zret (gj_dk okX6_isWord 13 rfl) rfl (by first | decide | assumption | omega) ⟨_, rfl, (by first | decide | assumption | omega), rfl, rfl⟩

set_option maxHeartbeats 4000000 in
set_option maxRecDepth 20000 in
theorem w_X6_nameHere (hst : gj_Stat S)   : gj_C G l 3 0 0 yX6_nameHere cX6_nameHere 4 (some .long) [jR 10] S M (gj_qL fun x S' M' => S = S' ∧ M = M') := by
  refine gj_Cof (by decide +kernel) (Nat.le_of_ble_eq_true rfl) ?_
  change gj_W G l 3 0 0 yX6_nameHere cX6_nameHere 4 (some .long) (gj_qL fun x S' M' => S = S' ∧ M = M') 0 0 0 [(0, jR 10)] [] S M
  refine gj_aload_n (q := 1) (gj_dk okX6_nameHere 0 rfl) rfl rfl ?_
  refine gj_gI (q := 4) (j := 6) (gj_dk okX6_nameHere 1 rfl) ff_X6_57 (sh10 hst) (by decide) rfl rfl ?_
  refine gj_iconst (q := 5) (gj_dk okX6_nameHere 2 rfl) (by decide) rfl ?_
  refine gj_icmp_ne (q := 8) (tgt := 22) (gj_dk okX6_nameHere 3 rfl) (by decide) rfl (fun c5 => ?_) (fun c5 => ?_)
  · -- 22
    refine gj_lconst (q := 23) (z := 0) (gj_dk okX6_nameHere 11 rfl) rfl (by decide) rfl ?_
    exact gj_lret (gj_dk okX6_nameHere 12 rfl) rfl ⟨_, rfl, rfl, rfl⟩
  · -- 8
    refine gj_aload_n (q := 9) (gj_dk okX6_nameHere 4 rfl) rfl rfl ?_
    refine gj_gI (q := 12) (j := 8) (gj_dk okX6_nameHere 5 rfl) ff_X6_39 (sh10 hst) (by decide) rfl rfl ?_
    refine gj_aload_n (q := 13) (gj_dk okX6_nameHere 6 rfl) rfl rfl ?_
    refine gj_gI (q := 16) (j := 7) (gj_dk okX6_nameHere 7 rfl) ff_X6_64 (sh10 hst) (by decide) rfl rfl ?_
    refine gj_isub (q := 17) (gj_dk okX6_nameHere 8 rfl) rfl ?_
    refine gj_bipush (q := 19) (gj_dk okX6_nameHere 9 rfl) (by decide) rfl rfl ?_
    refine gj_icmp_le (q := 22) (tgt := 24) (gj_dk okX6_nameHere 10 rfl) (by decide) rfl (fun c19 => ?_) (fun c19 => ?_)
    · -- 24
      refine gj_lconst (q := 25) (z := 0) (gj_dk okX6_nameHere 13 rfl) rfl (by decide) rfl ?_
      refine gj_lstore_n (q := 26) (gj_dk okX6_nameHere 14 rfl) (by decide) rfl ?_
      refine gj_aload_n (q := 27) (gj_dk okX6_nameHere 15 rfl) rfl rfl ?_
      refine gj_gI (q := 30) (j := 7) (gj_dk okX6_nameHere 16 rfl) ff_X6_64 (sh10 hst) (by decide) rfl rfl ?_
      refine gj_istore_n (q := 31) (gj_dk okX6_nameHere 17 rfl) (by decide) rfl ?_
      have L31 : ∀ (k3 : Nat) (x1 x2 : Int), (2147483647 - x2).toNat < k3 → gj_W G l 3 0 0 yX6_nameHere cX6_nameHere 4 (some .long) (gj_qL fun x S' M' => S = S' ∧ M = M') 0 0 31 [(0, jR 10), (1, jL x1), (3, jI x2)] [] S M := by
        intro k3
        induction k3 with
        | zero => intro x1 x2 hk31; exact absurd hk31 (Nat.not_lt_zero _)
        | succ k3 ih31 =>
          intro x1 x2 hk31
          refine gj_iload_n (q := 32) (gj_dk okX6_nameHere 18 rfl) rfl rfl ?_
          refine gj_aload_n (q := 33) (gj_dk okX6_nameHere 19 rfl) rfl rfl ?_
          refine gj_gI (q := 36) (j := 8) (gj_dk okX6_nameHere 20 rfl) ff_X6_39 (sh10 hst) (by decide) rfl rfl ?_
          refine gj_rng (fun ho36 _ _ => ?_)
          have hb36 : -2147483648 ≤ M 10 8 ∧ M 10 8 < 2147483648 := gj_o0 ho36
          have ha36 : -2147483648 ≤ x2 ∧ x2 < 2147483648 := gj_o1 ho36
          clear ho36
          refine gj_icmp_ge (q := 39) (tgt := 61) (gj_dk okX6_nameHere 21 rfl) (by decide) rfl (fun c36 => ?_) (fun c36 => ?_)
          · -- 61
            refine gj_lload_n (q := 62) (gj_dk okX6_nameHere 34 rfl) rfl rfl ?_
            exact gj_lret (gj_dk okX6_nameHere 35 rfl) rfl ⟨_, rfl, rfl, rfl⟩
          · -- 39
            refine gj_lload_n (q := 40) (gj_dk okX6_nameHere 22 rfl) rfl rfl ?_
            refine gj_ldc2 (q := 43) (z := 256) (gj_dk okX6_nameHere 23 rfl) kl_X6_225 (by decide) rfl ?_
            refine gj_lmul (q := 44) (gj_dk okX6_nameHere 24 rfl) rfl ?_
            refine gj_aload_n (q := 45) (gj_dk okX6_nameHere 25 rfl) rfl rfl ?_
            refine gj_gR (q := 48) (j := 0) (gj_dk okX6_nameHere 26 rfl) ff_X6_22 (sh10 hst) (by decide) rfl (rf10_0 hst) rfl ?_
            refine gj_iload_n (q := 49) (gj_dk okX6_nameHere 27 rfl) rfl rfl ?_
            refine gj_callV (q := 52) (z := 1) (ci := 8) [jI x2] rfl (w_X9_byteAt hst  _) (gj_dk okX6_nameHere 28 rfl) ml_X6_70 me_X9_byteAt (sh1 hst) rfl (gj_nm rfl) rfl (gj_kI fun x5 S2 M2 h4 => ?_)
            obtain ⟨eS, eM⟩ := h4; subst eS; subst eM
            refine gj_i2l (q := 53) (gj_dk okX6_nameHere 29 rfl) rfl ?_
            refine gj_ladd (q := 54) (gj_dk okX6_nameHere 30 rfl) rfl ?_
            refine gj_lstore_n (q := 55) (gj_dk okX6_nameHere 31 rfl) (by decide) rfl ?_
            refine gj_iinc (q := 58) (v := x2 + 1) (gj_dk okX6_nameHere 32 rfl) rfl (by decide) (gj_wle (by omega) (by omega)) rfl ?_
            refine gj_goto (tgt := 31) (gj_dk okX6_nameHere 33 rfl) (by decide) ?_
            refine gj_sub [(0, jR 10), (1, jL (gj_wl ((gj_wl (x1 * 256)) + x5))), (3, jI (x2 + 1))] ⟨rfl, rfl, rfl, trivial⟩ ?_
            exact ih31 _ _ (by omega)
      refine gj_sub [(0, jR 10), (1, jL 0), (3, jI (M 10 7))] ⟨rfl, rfl, rfl, trivial⟩ ?_
      exact L31 _ _ _ (Nat.lt_succ_self _)
    · -- 22
      refine gj_lconst (q := 23) (z := 0) (gj_dk okX6_nameHere 11 rfl) rfl (by decide) rfl ?_
      exact gj_lret (gj_dk okX6_nameHere 12 rfl) rfl ⟨_, rfl, rfl, rfl⟩

set_option maxHeartbeats 4000000 in
set_option maxRecDepth 20000 in
theorem w_X6_isLineWord (hst : gj_Stat S)   : gj_C G l 6 0 0 yX6_isLineWord cX6_isLineWord 1 (some .boolean) [jR 10] S M (gj_qI fun x S' M' => (x = 0 ∨ x = 1) ∧ S = S' ∧ M = M') := by
  refine gj_Cof (by decide +kernel) (Nat.le_of_ble_eq_true rfl) ?_
  change gj_W G l 6 0 0 yX6_isLineWord cX6_isLineWord 1 (some .boolean) (gj_qI fun x S' M' => (x = 0 ∨ x = 1) ∧ S = S' ∧ M = M') 0 0 0 [(0, jR 10)] [] S M
  refine gj_aload_n (q := 1) (gj_dk okX6_isLineWord 0 rfl) rfl rfl ?_
  refine gj_ldc6 (q := 3) (z := -2) 0 (gj_dk okX6_isLineWord 1 rfl) rfl (by decide) rfl rfl rfl ?_
  refine gj_callV (q := 6) (z := 10) (ci := 6) [jR (-2)] rfl (w_X6_isWord hst (show (0 : Nat) < 9 by decide) rfl ) (gj_dk okX6_isLineWord 2 rfl) ml_X6_83 me_X6_isWord (sh10 hst) rfl (gj_nm rfl) rfl (gj_kI fun x2 S2 M2 h1 => ?_)
  obtain ⟨bx2, eS, eM⟩ := h1; subst eS; subst eM
  refine gj_if_ne (q := 9) (tgt := 81) (gj_dk okX6_isLineWord 3 rfl) (by decide) rfl (fun c6 => ?_) (fun c6 => ?_)
  · -- 81
    refine gj_iconst (q := 82) (gj_dk okX6_isLineWord 36 rfl) (by decide) rfl ?_
    refine gj_goto (tgt := 86) (gj_dk okX6_isLineWord 37 rfl) (by decide) ?_
    exact gj_zret (gj_dk okX6_isLineWord 39 rfl) rfl (by first | decide | assumption | omega) ⟨_, rfl, (by first | decide | assumption | omega), rfl, rfl⟩
  · -- 9
    refine gj_aload_n (q := 10) (gj_dk okX6_isLineWord 4 rfl) rfl rfl ?_
    refine gj_ldc6 (q := 12) (z := -3) 1 (gj_dk okX6_isLineWord 5 rfl) rfl (by decide) rfl rfl rfl ?_
    refine gj_callV (q := 15) (z := 10) (ci := 6) [jR (-3)] rfl (w_X6_isWord hst (show (1 : Nat) < 9 by decide) rfl ) (gj_dk okX6_isLineWord 6 rfl) ml_X6_83 me_X6_isWord (sh10 hst) rfl (gj_nm rfl) rfl (gj_kI fun x6 S2 M2 h5 => ?_)
    obtain ⟨bx6, eS, eM⟩ := h5; subst eS; subst eM
    refine gj_if_ne (q := 18) (tgt := 81) (gj_dk okX6_isLineWord 7 rfl) (by decide) rfl (fun c15 => ?_) (fun c15 => ?_)
    · -- 81
      refine gj_iconst (q := 82) (gj_dk okX6_isLineWord 36 rfl) (by decide) rfl ?_
      refine gj_goto (tgt := 86) (gj_dk okX6_isLineWord 37 rfl) (by decide) ?_
      exact gj_zret (gj_dk okX6_isLineWord 39 rfl) rfl (by first | decide | assumption | omega) ⟨_, rfl, (by first | decide | assumption | omega), rfl, rfl⟩
    · -- 18
      refine gj_aload_n (q := 19) (gj_dk okX6_isLineWord 8 rfl) rfl rfl ?_
      refine gj_ldc6 (q := 21) (z := -4) 2 (gj_dk okX6_isLineWord 9 rfl) rfl (by decide) rfl rfl rfl ?_
      refine gj_callV (q := 24) (z := 10) (ci := 6) [jR (-4)] rfl (w_X6_isWord hst (show (2 : Nat) < 9 by decide) rfl ) (gj_dk okX6_isLineWord 10 rfl) ml_X6_83 me_X6_isWord (sh10 hst) rfl (gj_nm rfl) rfl (gj_kI fun x10 S2 M2 h9 => ?_)
      obtain ⟨bx10, eS, eM⟩ := h9; subst eS; subst eM
      refine gj_if_ne (q := 27) (tgt := 81) (gj_dk okX6_isLineWord 11 rfl) (by decide) rfl (fun c24 => ?_) (fun c24 => ?_)
      · -- 81
        refine gj_iconst (q := 82) (gj_dk okX6_isLineWord 36 rfl) (by decide) rfl ?_
        refine gj_goto (tgt := 86) (gj_dk okX6_isLineWord 37 rfl) (by decide) ?_
        exact gj_zret (gj_dk okX6_isLineWord 39 rfl) rfl (by first | decide | assumption | omega) ⟨_, rfl, (by first | decide | assumption | omega), rfl, rfl⟩
      · -- 27
        refine gj_aload_n (q := 28) (gj_dk okX6_isLineWord 12 rfl) rfl rfl ?_
        refine gj_ldc6 (q := 30) (z := -5) 3 (gj_dk okX6_isLineWord 13 rfl) rfl (by decide) rfl rfl rfl ?_
        refine gj_callV (q := 33) (z := 10) (ci := 6) [jR (-5)] rfl (w_X6_isWord hst (show (3 : Nat) < 9 by decide) rfl ) (gj_dk okX6_isLineWord 14 rfl) ml_X6_83 me_X6_isWord (sh10 hst) rfl (gj_nm rfl) rfl (gj_kI fun x14 S2 M2 h13 => ?_)
        obtain ⟨bx14, eS, eM⟩ := h13; subst eS; subst eM
        refine gj_if_ne (q := 36) (tgt := 81) (gj_dk okX6_isLineWord 15 rfl) (by decide) rfl (fun c33 => ?_) (fun c33 => ?_)
        · -- 81
          refine gj_iconst (q := 82) (gj_dk okX6_isLineWord 36 rfl) (by decide) rfl ?_
          refine gj_goto (tgt := 86) (gj_dk okX6_isLineWord 37 rfl) (by decide) ?_
          exact gj_zret (gj_dk okX6_isLineWord 39 rfl) rfl (by first | decide | assumption | omega) ⟨_, rfl, (by first | decide | assumption | omega), rfl, rfl⟩
        · -- 36
          refine gj_aload_n (q := 37) (gj_dk okX6_isLineWord 16 rfl) rfl rfl ?_
          refine gj_ldc6 (q := 39) (z := -6) 4 (gj_dk okX6_isLineWord 17 rfl) rfl (by decide) rfl rfl rfl ?_
          refine gj_callV (q := 42) (z := 10) (ci := 6) [jR (-6)] rfl (w_X6_isWord hst (show (4 : Nat) < 9 by decide) rfl ) (gj_dk okX6_isLineWord 18 rfl) ml_X6_83 me_X6_isWord (sh10 hst) rfl (gj_nm rfl) rfl (gj_kI fun x18 S2 M2 h17 => ?_)
          obtain ⟨bx18, eS, eM⟩ := h17; subst eS; subst eM
          refine gj_if_ne (q := 45) (tgt := 81) (gj_dk okX6_isLineWord 19 rfl) (by decide) rfl (fun c42 => ?_) (fun c42 => ?_)
          · -- 81
            refine gj_iconst (q := 82) (gj_dk okX6_isLineWord 36 rfl) (by decide) rfl ?_
            refine gj_goto (tgt := 86) (gj_dk okX6_isLineWord 37 rfl) (by decide) ?_
            exact gj_zret (gj_dk okX6_isLineWord 39 rfl) rfl (by first | decide | assumption | omega) ⟨_, rfl, (by first | decide | assumption | omega), rfl, rfl⟩
          · -- 45
            refine gj_aload_n (q := 46) (gj_dk okX6_isLineWord 20 rfl) rfl rfl ?_
            refine gj_ldc6 (q := 48) (z := -7) 5 (gj_dk okX6_isLineWord 21 rfl) rfl (by decide) rfl rfl rfl ?_
            refine gj_callV (q := 51) (z := 10) (ci := 6) [jR (-7)] rfl (w_X6_isWord hst (show (5 : Nat) < 9 by decide) rfl ) (gj_dk okX6_isLineWord 22 rfl) ml_X6_83 me_X6_isWord (sh10 hst) rfl (gj_nm rfl) rfl (gj_kI fun x22 S2 M2 h21 => ?_)
            obtain ⟨bx22, eS, eM⟩ := h21; subst eS; subst eM
            refine gj_if_ne (q := 54) (tgt := 81) (gj_dk okX6_isLineWord 23 rfl) (by decide) rfl (fun c51 => ?_) (fun c51 => ?_)
            · -- 81
              refine gj_iconst (q := 82) (gj_dk okX6_isLineWord 36 rfl) (by decide) rfl ?_
              refine gj_goto (tgt := 86) (gj_dk okX6_isLineWord 37 rfl) (by decide) ?_
              exact gj_zret (gj_dk okX6_isLineWord 39 rfl) rfl (by first | decide | assumption | omega) ⟨_, rfl, (by first | decide | assumption | omega), rfl, rfl⟩
            · -- 54
              refine gj_aload_n (q := 55) (gj_dk okX6_isLineWord 24 rfl) rfl rfl ?_
              refine gj_ldc6 (q := 57) (z := -8) 6 (gj_dk okX6_isLineWord 25 rfl) rfl (by decide) rfl rfl rfl ?_
              refine gj_callV (q := 60) (z := 10) (ci := 6) [jR (-8)] rfl (w_X6_isWord hst (show (6 : Nat) < 9 by decide) rfl ) (gj_dk okX6_isLineWord 26 rfl) ml_X6_83 me_X6_isWord (sh10 hst) rfl (gj_nm rfl) rfl (gj_kI fun x26 S2 M2 h25 => ?_)
              obtain ⟨bx26, eS, eM⟩ := h25; subst eS; subst eM
              refine gj_if_ne (q := 63) (tgt := 81) (gj_dk okX6_isLineWord 27 rfl) (by decide) rfl (fun c60 => ?_) (fun c60 => ?_)
              · -- 81
                refine gj_iconst (q := 82) (gj_dk okX6_isLineWord 36 rfl) (by decide) rfl ?_
                refine gj_goto (tgt := 86) (gj_dk okX6_isLineWord 37 rfl) (by decide) ?_
                exact gj_zret (gj_dk okX6_isLineWord 39 rfl) rfl (by first | decide | assumption | omega) ⟨_, rfl, (by first | decide | assumption | omega), rfl, rfl⟩
              · -- 63
                refine gj_aload_n (q := 64) (gj_dk okX6_isLineWord 28 rfl) rfl rfl ?_
                refine gj_ldc6 (q := 66) (z := -9) 7 (gj_dk okX6_isLineWord 29 rfl) rfl (by decide) rfl rfl rfl ?_
                refine gj_callV (q := 69) (z := 10) (ci := 6) [jR (-9)] rfl (w_X6_isWord hst (show (7 : Nat) < 9 by decide) rfl ) (gj_dk okX6_isLineWord 30 rfl) ml_X6_83 me_X6_isWord (sh10 hst) rfl (gj_nm rfl) rfl (gj_kI fun x30 S2 M2 h29 => ?_)
                obtain ⟨bx30, eS, eM⟩ := h29; subst eS; subst eM
                refine gj_if_ne (q := 72) (tgt := 81) (gj_dk okX6_isLineWord 31 rfl) (by decide) rfl (fun c69 => ?_) (fun c69 => ?_)
                · -- 81
                  refine gj_iconst (q := 82) (gj_dk okX6_isLineWord 36 rfl) (by decide) rfl ?_
                  refine gj_goto (tgt := 86) (gj_dk okX6_isLineWord 37 rfl) (by decide) ?_
                  exact gj_zret (gj_dk okX6_isLineWord 39 rfl) rfl (by first | decide | assumption | omega) ⟨_, rfl, (by first | decide | assumption | omega), rfl, rfl⟩
                · -- 72
                  refine gj_aload_n (q := 73) (gj_dk okX6_isLineWord 32 rfl) rfl rfl ?_
                  refine gj_ldc6 (q := 75) (z := -10) 8 (gj_dk okX6_isLineWord 33 rfl) rfl (by decide) rfl rfl rfl ?_
                  refine gj_callV (q := 78) (z := 10) (ci := 6) [jR (-10)] rfl (w_X6_isWord hst (show (8 : Nat) < 9 by decide) rfl ) (gj_dk okX6_isLineWord 34 rfl) ml_X6_83 me_X6_isWord (sh10 hst) rfl (gj_nm rfl) rfl (gj_kI fun x34 S2 M2 h33 => ?_)
                  obtain ⟨bx34, eS, eM⟩ := h33; subst eS; subst eM
                  refine gj_if_eq (q := 81) (tgt := 85) (gj_dk okX6_isLineWord 35 rfl) (by decide) rfl (fun c78 => ?_) (fun c78 => ?_)
                  · -- 85
                    refine gj_iconst (q := 86) (gj_dk okX6_isLineWord 38 rfl) (by decide) rfl ?_
                    exact gj_zret (gj_dk okX6_isLineWord 39 rfl) rfl (by first | decide | assumption | omega) ⟨_, rfl, (by first | decide | assumption | omega), rfl, rfl⟩
                  · -- 81
                    refine gj_iconst (q := 82) (gj_dk okX6_isLineWord 36 rfl) (by decide) rfl ?_
                    refine gj_goto (tgt := 86) (gj_dk okX6_isLineWord 37 rfl) (by decide) ?_
                    exact gj_zret (gj_dk okX6_isLineWord 39 rfl) rfl (by first | decide | assumption | omega) ⟨_, rfl, (by first | decide | assumption | omega), rfl, rfl⟩

set_option maxHeartbeats 4000000 in
set_option maxRecDepth 20000 in
theorem w_X5_isPerson_3 (hst : gj_Stat S) (a1 : Int)  : gj_C G l 1 0 0 yX5_isPerson cX5_isPerson 2 (some .boolean) [jR 3, jI a1] S M (gj_qI fun x S' M' => (x = 0 ∨ x = 1) ∧ S = S' ∧ M = M') := by
  refine gj_Cof (by decide +kernel) (Nat.le_of_ble_eq_true rfl) ?_
  change gj_W G l 1 0 0 yX5_isPerson cX5_isPerson 2 (some .boolean) (gj_qI fun x S' M' => (x = 0 ∨ x = 1) ∧ S = S' ∧ M = M') 0 0 0 [(0, jR 3), (1, jI a1)] [] S M
  refine gj_iload_n (q := 1) (gj_dk okX5_isPerson 0 rfl) rfl rfl ?_
  refine gj_iconst (q := 2) (gj_dk okX5_isPerson 1 rfl) (by decide) rfl ?_
  refine gj_icmp_ge (q := 5) (tgt := 25) (gj_dk okX5_isPerson 2 rfl) (by decide) rfl (fun c2 => ?_) (fun c2 => ?_)
  · -- 25
    refine gj_iload_n (q := 26) (gj_dk okX5_isPerson 13 rfl) rfl rfl ?_
    refine gj_iconst (q := 27) (gj_dk okX5_isPerson 14 rfl) (by decide) rfl ?_
    refine gj_isub (q := 28) (gj_dk okX5_isPerson 15 rfl) rfl ?_
    refine gj_aload_n (q := 29) (gj_dk okX5_isPerson 16 rfl) rfl rfl ?_
    refine gj_gI (q := 32) (j := 1) (gj_dk okX5_isPerson 17 rfl) ff_X5_34 (sh3 hst) (by decide) rfl rfl ?_
    refine gj_icmp_ge (q := 35) (tgt := 39) (gj_dk okX5_isPerson 18 rfl) (by decide) rfl (fun c32 => ?_) (fun c32 => ?_)
    · -- 39
      refine gj_iconst (q := 40) (gj_dk okX5_isPerson 21 rfl) (by decide) rfl ?_
      exact gj_zret (gj_dk okX5_isPerson 22 rfl) rfl (by first | decide | assumption | omega) ⟨_, rfl, (by first | decide | assumption | omega), rfl, rfl⟩
    · -- 35
      refine gj_iconst (q := 36) (gj_dk okX5_isPerson 19 rfl) (by decide) rfl ?_
      refine gj_goto (tgt := 40) (gj_dk okX5_isPerson 20 rfl) (by decide) ?_
      exact gj_zret (gj_dk okX5_isPerson 22 rfl) rfl (by first | decide | assumption | omega) ⟨_, rfl, (by first | decide | assumption | omega), rfl, rfl⟩
  · -- 5
    refine gj_iload_n (q := 6) (gj_dk okX5_isPerson 3 rfl) rfl rfl ?_
    refine gj_if_lt (q := 9) (tgt := 21) (gj_dk okX5_isPerson 4 rfl) (by decide) rfl (fun c6 => ?_) (fun c6 => ?_)
    · -- 21
      refine gj_iconst (q := 22) (gj_dk okX5_isPerson 11 rfl) (by decide) rfl ?_
      refine gj_goto (tgt := 40) (gj_dk okX5_isPerson 12 rfl) (by decide) ?_
      exact gj_zret (gj_dk okX5_isPerson 22 rfl) rfl (by first | decide | assumption | omega) ⟨_, rfl, (by first | decide | assumption | omega), rfl, rfl⟩
    · -- 9
      refine gj_iload_n (q := 10) (gj_dk okX5_isPerson 5 rfl) rfl rfl ?_
      refine gj_aload_n (q := 11) (gj_dk okX5_isPerson 6 rfl) rfl rfl ?_
      refine gj_gI (q := 14) (j := 0) (gj_dk okX5_isPerson 7 rfl) ff_X5_30 (sh3 hst) (by decide) rfl rfl ?_
      refine gj_icmp_ge (q := 17) (tgt := 21) (gj_dk okX5_isPerson 8 rfl) (by decide) rfl (fun c14 => ?_) (fun c14 => ?_)
      · -- 21
        refine gj_iconst (q := 22) (gj_dk okX5_isPerson 11 rfl) (by decide) rfl ?_
        refine gj_goto (tgt := 40) (gj_dk okX5_isPerson 12 rfl) (by decide) ?_
        exact gj_zret (gj_dk okX5_isPerson 22 rfl) rfl (by first | decide | assumption | omega) ⟨_, rfl, (by first | decide | assumption | omega), rfl, rfl⟩
      · -- 17
        refine gj_iconst (q := 18) (gj_dk okX5_isPerson 9 rfl) (by decide) rfl ?_
        refine gj_goto (tgt := 40) (gj_dk okX5_isPerson 10 rfl) (by decide) ?_
        exact gj_zret (gj_dk okX5_isPerson 22 rfl) rfl (by first | decide | assumption | omega) ⟨_, rfl, (by first | decide | assumption | omega), rfl, rfl⟩

set_option maxHeartbeats 4000000 in
set_option maxRecDepth 20000 in
theorem w_X5_isPerson_14 (hst : gj_Stat S) (a1 : Int)  : gj_C G l 1 0 0 yX5_isPerson cX5_isPerson 2 (some .boolean) [jR 14, jI a1] S M (gj_qI fun x S' M' => (x = 0 ∨ x = 1) ∧ S = S' ∧ M = M') := by
  refine gj_Cof (by decide +kernel) (Nat.le_of_ble_eq_true rfl) ?_
  change gj_W G l 1 0 0 yX5_isPerson cX5_isPerson 2 (some .boolean) (gj_qI fun x S' M' => (x = 0 ∨ x = 1) ∧ S = S' ∧ M = M') 0 0 0 [(0, jR 14), (1, jI a1)] [] S M
  refine gj_iload_n (q := 1) (gj_dk okX5_isPerson 0 rfl) rfl rfl ?_
  refine gj_iconst (q := 2) (gj_dk okX5_isPerson 1 rfl) (by decide) rfl ?_
  refine gj_icmp_ge (q := 5) (tgt := 25) (gj_dk okX5_isPerson 2 rfl) (by decide) rfl (fun c2 => ?_) (fun c2 => ?_)
  · -- 25
    refine gj_iload_n (q := 26) (gj_dk okX5_isPerson 13 rfl) rfl rfl ?_
    refine gj_iconst (q := 27) (gj_dk okX5_isPerson 14 rfl) (by decide) rfl ?_
    refine gj_isub (q := 28) (gj_dk okX5_isPerson 15 rfl) rfl ?_
    refine gj_aload_n (q := 29) (gj_dk okX5_isPerson 16 rfl) rfl rfl ?_
    refine gj_gI (q := 32) (j := 1) (gj_dk okX5_isPerson 17 rfl) ff_X5_34 (sh14 hst) (by decide) rfl rfl ?_
    refine gj_icmp_ge (q := 35) (tgt := 39) (gj_dk okX5_isPerson 18 rfl) (by decide) rfl (fun c32 => ?_) (fun c32 => ?_)
    · -- 39
      refine gj_iconst (q := 40) (gj_dk okX5_isPerson 21 rfl) (by decide) rfl ?_
      exact gj_zret (gj_dk okX5_isPerson 22 rfl) rfl (by first | decide | assumption | omega) ⟨_, rfl, (by first | decide | assumption | omega), rfl, rfl⟩
    · -- 35
      refine gj_iconst (q := 36) (gj_dk okX5_isPerson 19 rfl) (by decide) rfl ?_
      refine gj_goto (tgt := 40) (gj_dk okX5_isPerson 20 rfl) (by decide) ?_
      exact gj_zret (gj_dk okX5_isPerson 22 rfl) rfl (by first | decide | assumption | omega) ⟨_, rfl, (by first | decide | assumption | omega), rfl, rfl⟩
  · -- 5
    refine gj_iload_n (q := 6) (gj_dk okX5_isPerson 3 rfl) rfl rfl ?_
    refine gj_if_lt (q := 9) (tgt := 21) (gj_dk okX5_isPerson 4 rfl) (by decide) rfl (fun c6 => ?_) (fun c6 => ?_)
    · -- 21
      refine gj_iconst (q := 22) (gj_dk okX5_isPerson 11 rfl) (by decide) rfl ?_
      refine gj_goto (tgt := 40) (gj_dk okX5_isPerson 12 rfl) (by decide) ?_
      exact gj_zret (gj_dk okX5_isPerson 22 rfl) rfl (by first | decide | assumption | omega) ⟨_, rfl, (by first | decide | assumption | omega), rfl, rfl⟩
    · -- 9
      refine gj_iload_n (q := 10) (gj_dk okX5_isPerson 5 rfl) rfl rfl ?_
      refine gj_aload_n (q := 11) (gj_dk okX5_isPerson 6 rfl) rfl rfl ?_
      refine gj_gI (q := 14) (j := 0) (gj_dk okX5_isPerson 7 rfl) ff_X5_30 (sh14 hst) (by decide) rfl rfl ?_
      refine gj_icmp_ge (q := 17) (tgt := 21) (gj_dk okX5_isPerson 8 rfl) (by decide) rfl (fun c14 => ?_) (fun c14 => ?_)
      · -- 21
        refine gj_iconst (q := 22) (gj_dk okX5_isPerson 11 rfl) (by decide) rfl ?_
        refine gj_goto (tgt := 40) (gj_dk okX5_isPerson 12 rfl) (by decide) ?_
        exact gj_zret (gj_dk okX5_isPerson 22 rfl) rfl (by first | decide | assumption | omega) ⟨_, rfl, (by first | decide | assumption | omega), rfl, rfl⟩
      · -- 17
        refine gj_iconst (q := 18) (gj_dk okX5_isPerson 9 rfl) (by decide) rfl ?_
        refine gj_goto (tgt := 40) (gj_dk okX5_isPerson 10 rfl) (by decide) ?_
        exact gj_zret (gj_dk okX5_isPerson 22 rfl) rfl (by first | decide | assumption | omega) ⟨_, rfl, (by first | decide | assumption | omega), rfl, rfl⟩

set_option maxHeartbeats 4000000 in
set_option maxRecDepth 20000 in
theorem w_X6_slotNamed (hst : gj_Stat S) (a1 : Int)  : gj_C G l 2 0 0 yX6_slotNamed cX6_slotNamed 4 (some .int) [jR 10, jL a1] S M (gj_qI fun x S' M' => S = S' ∧ M = M') := by
  refine gj_Cof (by decide +kernel) (Nat.le_of_ble_eq_true rfl) ?_
  change gj_W G l 2 0 0 yX6_slotNamed cX6_slotNamed 4 (some .int) (gj_qI fun x S' M' => S = S' ∧ M = M') 0 0 0 [(0, jR 10), (1, jL a1)] [] S M
  refine gj_iconst (q := 1) (gj_dk okX6_slotNamed 0 rfl) (by decide) rfl ?_
  refine gj_istore_n (q := 2) (gj_dk okX6_slotNamed 1 rfl) (by decide) rfl ?_
  have L2 : ∀ (k2 : Nat) (x1 : Int), (0 ≤ x1) → (2147483647 - x1).toNat < k2 → gj_W G l 2 0 0 yX6_slotNamed cX6_slotNamed 4 (some .int) (gj_qI fun x S' M' => S = S' ∧ M = M') 0 0 2 [(0, jR 10), (1, jL a1), (3, jI x1)] [] S M := by
    intro k2
    induction k2 with
    | zero => intro x1 f3 hk2; exact absurd hk2 (Nat.not_lt_zero _)
    | succ k2 ih2 =>
      intro x1 f3 hk2
      refine gj_iload_n (q := 3) (gj_dk okX6_slotNamed 2 rfl) rfl rfl ?_
      refine gj_aload_n (q := 4) (gj_dk okX6_slotNamed 3 rfl) rfl rfl ?_
      refine gj_gR (q := 7) (j := 2) (gj_dk okX6_slotNamed 4 rfl) ff_X6_9 (sh10 hst) (by decide) rfl (rf10_2 hst) rfl ?_
      refine gj_alen (q := 8) (gj_dk okX6_slotNamed 5 rfl) (sh11 hst) (by decide) rfl ?_
      refine gj_rng (fun ho8 _ _ => ?_)
      have ha8 : -2147483648 ≤ x1 ∧ x1 < 2147483648 := gj_o1 ho8
      clear ho8
      refine gj_icmp_ge (q := 11) (tgt := 47) (gj_dk okX6_slotNamed 6 rfl) (by decide) rfl (fun c8 => ?_) (fun c8 => ?_)
      · -- 47
        refine gj_iconst (q := 48) (gj_dk okX6_slotNamed 27 rfl) (by decide) rfl ?_
        exact gj_iret (gj_dk okX6_slotNamed 28 rfl) rfl ⟨_, rfl, rfl, rfl⟩
      · -- 11
        refine gj_lload_n (q := 12) (gj_dk okX6_slotNamed 7 rfl) rfl rfl ?_
        refine gj_lconst (q := 13) (z := 0) (gj_dk okX6_slotNamed 8 rfl) rfl (by decide) rfl ?_
        refine gj_lcmp (q := 14) (gj_dk okX6_slotNamed 9 rfl) rfl ?_
        refine gj_if_eq (q := 17) (tgt := 41) (gj_dk okX6_slotNamed 10 rfl) (by decide) rfl (fun c14 => ?_) (fun c14 => ?_)
        · -- 41
          refine gj_iinc (q := 44) (v := x1 + 1) (gj_dk okX6_slotNamed 25 rfl) rfl (by decide) (gj_wle (by omega) (by omega)) rfl ?_
          refine gj_goto (tgt := 2) (gj_dk okX6_slotNamed 26 rfl) (by decide) ?_
          refine gj_sub [(0, jR 10), (1, jL a1), (3, jI (x1 + 1))] ⟨rfl, rfl, rfl, trivial⟩ ?_
          exact ih2 _ (by omega) (by omega)
        · -- 17
          refine gj_aload_n (q := 18) (gj_dk okX6_slotNamed 11 rfl) rfl rfl ?_
          refine gj_gR (q := 21) (j := 1) (gj_dk okX6_slotNamed 12 rfl) ff_X6_26 (sh10 hst) (by decide) rfl (rf10_1 hst) rfl ?_
          refine gj_iload_n (q := 22) (gj_dk okX6_slotNamed 13 rfl) rfl rfl ?_
          refine gj_callV (q := 25) (z := 3) (ci := 5) [jI x1] rfl (w_X5_isPerson_3 hst  _) (gj_dk okX6_slotNamed 14 rfl) ml_X6_227 me_X5_isPerson (sh3 hst) rfl (gj_nm rfl) rfl (gj_kI fun x5 S2 M2 h4 => ?_)
          obtain ⟨bx5, eS, eM⟩ := h4; subst eS; subst eM
          refine gj_if_eq (q := 28) (tgt := 41) (gj_dk okX6_slotNamed 15 rfl) (by decide) rfl (fun c25 => ?_) (fun c25 => ?_)
          · -- 41
            refine gj_iinc (q := 44) (v := x1 + 1) (gj_dk okX6_slotNamed 25 rfl) rfl (by decide) (gj_wle (by omega) (by omega)) rfl ?_
            refine gj_goto (tgt := 2) (gj_dk okX6_slotNamed 26 rfl) (by decide) ?_
            refine gj_sub [(0, jR 10), (1, jL a1), (3, jI (x1 + 1))] ⟨rfl, rfl, rfl, trivial⟩ ?_
            exact ih2 _ (by omega) (by omega)
          · -- 28
            refine gj_aload_n (q := 29) (gj_dk okX6_slotNamed 16 rfl) rfl rfl ?_
            refine gj_gR (q := 32) (j := 2) (gj_dk okX6_slotNamed 17 rfl) ff_X6_9 (sh10 hst) (by decide) rfl (rf10_2 hst) rfl ?_
            refine gj_iload_n (q := 33) (gj_dk okX6_slotNamed 18 rfl) rfl rfl ?_
            refine gj_lald (q := 34) (gj_dk okX6_slotNamed 19 rfl) (sh11 hst) (by omega) (by omega) rfl ?_
            refine gj_lload_n (q := 35) (gj_dk okX6_slotNamed 20 rfl) rfl rfl ?_
            refine gj_lcmp (q := 36) (gj_dk okX6_slotNamed 21 rfl) rfl ?_
            refine gj_if_ne (q := 39) (tgt := 41) (gj_dk okX6_slotNamed 22 rfl) (by decide) rfl (fun c36 => ?_) (fun c36 => ?_)
            · -- 41
              refine gj_iinc (q := 44) (v := x1 + 1) (gj_dk okX6_slotNamed 25 rfl) rfl (by decide) (gj_wle (by omega) (by omega)) rfl ?_
              refine gj_goto (tgt := 2) (gj_dk okX6_slotNamed 26 rfl) (by decide) ?_
              refine gj_sub [(0, jR 10), (1, jL a1), (3, jI (x1 + 1))] ⟨rfl, rfl, rfl, trivial⟩ ?_
              exact ih2 _ (by omega) (by omega)
            · -- 39
              refine gj_iload_n (q := 40) (gj_dk okX6_slotNamed 23 rfl) rfl rfl ?_
              exact gj_iret (gj_dk okX6_slotNamed 24 rfl) rfl ⟨_, rfl, rfl, rfl⟩
  refine gj_sub [(0, jR 10), (1, jL a1), (3, jI 0)] ⟨rfl, rfl, rfl, trivial⟩ ?_
  exact L2 _ _ (by omega) (Nat.lt_succ_self _)

set_option maxHeartbeats 4000000 in
set_option maxRecDepth 20000 in
theorem w_X6_numberHere (hst : gj_Stat S)   : gj_C G l 3 0 0 yX6_numberHere cX6_numberHere 3 (some .int) [jR 10] S M (gj_qI fun x S' M' => S = S' ∧ M = M') := by
  refine gj_Cof (by decide +kernel) (Nat.le_of_ble_eq_true rfl) ?_
  change gj_W G l 3 0 0 yX6_numberHere cX6_numberHere 3 (some .int) (gj_qI fun x S' M' => S = S' ∧ M = M') 0 0 0 [(0, jR 10)] [] S M
  refine gj_iconst (q := 1) (gj_dk okX6_numberHere 0 rfl) (by decide) rfl ?_
  refine gj_istore_n (q := 2) (gj_dk okX6_numberHere 1 rfl) (by decide) rfl ?_
  refine gj_aload_n (q := 3) (gj_dk okX6_numberHere 2 rfl) rfl rfl ?_
  refine gj_gI (q := 6) (j := 7) (gj_dk okX6_numberHere 3 rfl) ff_X6_64 (sh10 hst) (by decide) rfl rfl ?_
  refine gj_istore_n (q := 7) (gj_dk okX6_numberHere 4 rfl) (by decide) rfl ?_
  have L7 : ∀ (k3 : Nat) (x1 x2 : Int), (2147483647 - x2).toNat < k3 → gj_W G l 3 0 0 yX6_numberHere cX6_numberHere 3 (some .int) (gj_qI fun x S' M' => S = S' ∧ M = M') 0 0 7 [(0, jR 10), (1, jI x1), (2, jI x2)] [] S M := by
    intro k3
    induction k3 with
    | zero => intro x1 x2 hk7; exact absurd hk7 (Nat.not_lt_zero _)
    | succ k3 ih7 =>
      intro x1 x2 hk7
      refine gj_iload_n (q := 8) (gj_dk okX6_numberHere 5 rfl) rfl rfl ?_
      refine gj_aload_n (q := 9) (gj_dk okX6_numberHere 6 rfl) rfl rfl ?_
      refine gj_gI (q := 12) (j := 8) (gj_dk okX6_numberHere 7 rfl) ff_X6_39 (sh10 hst) (by decide) rfl rfl ?_
      refine gj_rng (fun ho12 _ _ => ?_)
      have hb12 : -2147483648 ≤ M 10 8 ∧ M 10 8 < 2147483648 := gj_o0 ho12
      have ha12 : -2147483648 ≤ x2 ∧ x2 < 2147483648 := gj_o1 ho12
      clear ho12
      refine gj_icmp_ge (q := 15) (tgt := 43) (gj_dk okX6_numberHere 8 rfl) (by decide) rfl (fun c12 => ?_) (fun c12 => ?_)
      · -- 43
        refine gj_iload_n (q := 44) (gj_dk okX6_numberHere 24 rfl) rfl rfl ?_
        exact gj_iret (gj_dk okX6_numberHere 25 rfl) rfl ⟨_, rfl, rfl, rfl⟩
      · -- 15
        refine gj_ldc (q := 17) (z := 1000000) (gj_dk okX6_numberHere 9 rfl) kc_X6_219 (by decide) rfl ?_
        refine gj_iload_n (q := 18) (gj_dk okX6_numberHere 10 rfl) rfl rfl ?_
        refine gj_bipush (q := 20) (gj_dk okX6_numberHere 11 rfl) (by decide) rfl rfl ?_
        refine gj_imul (q := 21) (gj_dk okX6_numberHere 12 rfl) rfl ?_
        refine gj_aload_n (q := 22) (gj_dk okX6_numberHere 13 rfl) rfl rfl ?_
        refine gj_gR (q := 25) (j := 0) (gj_dk okX6_numberHere 14 rfl) ff_X6_22 (sh10 hst) (by decide) rfl (rf10_0 hst) rfl ?_
        refine gj_iload_n (q := 26) (gj_dk okX6_numberHere 15 rfl) rfl rfl ?_
        refine gj_callV (q := 29) (z := 1) (ci := 8) [jI x2] rfl (w_X9_byteAt hst  _) (gj_dk okX6_numberHere 16 rfl) ml_X6_70 me_X9_byteAt (sh1 hst) rfl (gj_nm rfl) rfl (gj_kI fun x5 S2 M2 h4 => ?_)
        obtain ⟨eS, eM⟩ := h4; subst eS; subst eM
        refine gj_iadd (q := 30) (gj_dk okX6_numberHere 17 rfl) rfl ?_
        refine gj_bipush (q := 32) (gj_dk okX6_numberHere 18 rfl) (by decide) rfl rfl ?_
        refine gj_isub (q := 33) (gj_dk okX6_numberHere 19 rfl) rfl ?_
        refine gj_mmin (q := 36) (gj_dk okX6_numberHere 20 rfl) ml_X6_220 ⟨by omega, Nat.le_of_ble_eq_true rfl⟩ rfl ?_
        refine gj_istore_n (q := 37) (gj_dk okX6_numberHere 21 rfl) (by decide) rfl ?_
        refine gj_iinc (q := 40) (v := x2 + 1) (gj_dk okX6_numberHere 22 rfl) rfl (by decide) (gj_wle (by omega) (by omega)) rfl ?_
        refine gj_goto (tgt := 7) (gj_dk okX6_numberHere 23 rfl) (by decide) ?_
        refine gj_sub [(0, jR 10), (1, jI (f_min 1000000 (gj_w ((gj_w ((gj_w (x1 * 10)) + x5)) - 48)))), (2, jI (x2 + 1))] ⟨rfl, rfl, rfl, trivial⟩ ?_
        exact ih7 _ _ (by omega)
  refine gj_sub [(0, jR 10), (1, jI 0), (2, jI (M 10 7))] ⟨rfl, rfl, rfl, trivial⟩ ?_
  exact L7 _ _ _ (Nat.lt_succ_self _)

set_option maxHeartbeats 4000000 in
set_option maxRecDepth 20000 in
theorem w_X6_takeNumber (hst : gj_Stat S) (h : w_CW M0 M) (a1 a2 : Int)  : gj_C G l 4 0 0 yX6_takeNumber cX6_takeNumber 4 (some .boolean) [jR 10, jI a1, jI a2] S M (gj_qI fun x S' M' => (x = 0 ∨ x = 1) ∧ (x = 1 → a1 ≤ M' 10 9 ∧ M' 10 9 ≤ a2) ∧ S = S' ∧ w_CW M0 M') := by
  refine gj_Cof (by decide +kernel) (Nat.le_of_ble_eq_true rfl) ?_
  change gj_W G l 4 0 0 yX6_takeNumber cX6_takeNumber 4 (some .boolean) (gj_qI fun x S' M' => (x = 0 ∨ x = 1) ∧ (x = 1 → a1 ≤ M' 10 9 ∧ M' 10 9 ≤ a2) ∧ S = S' ∧ w_CW M0 M') 0 0 0 [(0, jR 10), (1, jI a1), (2, jI a2)] [] S M
  refine gj_aload_n (q := 1) (gj_dk okX6_takeNumber 0 rfl) rfl rfl ?_
  refine gj_gI (q := 4) (j := 6) (gj_dk okX6_takeNumber 1 rfl) ff_X6_57 (sh10 hst) (by decide) rfl rfl ?_
  refine gj_iconst (q := 5) (gj_dk okX6_takeNumber 2 rfl) (by decide) rfl ?_
  refine gj_icmp_eq (q := 8) (tgt := 10) (gj_dk okX6_takeNumber 3 rfl) (by decide) rfl (fun c5 => ?_) (fun c5 => ?_)
  · -- 10
    refine gj_aload_n (q := 11) (gj_dk okX6_takeNumber 6 rfl) rfl rfl ?_
    refine gj_callV (q := 14) (z := 10) (ci := 6) [] rfl (w_X6_numberHere hst  ) (gj_dk okX6_takeNumber 7 rfl) ml_X6_216 me_X6_numberHere (sh10 hst) rfl (gj_nm rfl) rfl (gj_kI fun x2 S2 M2 h1 => ?_)
    obtain ⟨eS, eM⟩ := h1; subst eS; subst eM
    refine gj_istore_n (q := 15) (gj_dk okX6_takeNumber 8 rfl) (by decide) rfl ?_
    refine gj_iload_n (q := 16) (gj_dk okX6_takeNumber 9 rfl) rfl rfl ?_
    refine gj_iload_n (q := 17) (gj_dk okX6_takeNumber 10 rfl) rfl rfl ?_
    refine gj_icmp_lt (q := 20) (tgt := 25) (gj_dk okX6_takeNumber 11 rfl) (by decide) rfl (fun c17 => ?_) (fun c17 => ?_)
    · -- 25
      refine gj_iconst (q := 26) (gj_dk okX6_takeNumber 15 rfl) (by decide) rfl ?_
      exact gj_zret (gj_dk okX6_takeNumber 16 rfl) rfl (by first | decide | assumption | omega) ⟨_, rfl, (by first | decide | assumption | omega), (by intro hh; omega), rfl, h⟩
    · -- 20
      refine gj_iload_n (q := 21) (gj_dk okX6_takeNumber 12 rfl) rfl rfl ?_
      refine gj_iload_n (q := 22) (gj_dk okX6_takeNumber 13 rfl) rfl rfl ?_
      refine gj_icmp_le (q := 25) (tgt := 27) (gj_dk okX6_takeNumber 14 rfl) (by decide) rfl (fun c22 => ?_) (fun c22 => ?_)
      · -- 27
        refine gj_aload_n (q := 28) (gj_dk okX6_takeNumber 17 rfl) rfl rfl ?_
        refine gj_iload_n (q := 29) (gj_dk okX6_takeNumber 18 rfl) rfl rfl ?_
        refine gj_pfI (q := 32) (j := 9) (gj_dk okX6_takeNumber 19 rfl) ff_X6_152 (sh10 hst) (by decide) rfl rfl ?_
        refine gj_abs (fun M5 e7 => ?_)
        have w6 : w_CW M0 M5 := by rw [e7]; exact h.up (by decide) rfl
        have hvM5 : M5 10 9 = x2 := by rw [e7]; exact if_pos ⟨rfl, rfl⟩
        clear e7
        refine gj_aload_n (q := 33) (gj_dk okX6_takeNumber 20 rfl) rfl rfl ?_
        refine gj_callV (q := 36) (z := 10) (ci := 6) [] rfl (w_X6_scan hst w6  ) (gj_dk okX6_takeNumber 21 rfl) ml_X6_48 me_X6_scan (sh10 hst) rfl (gj_nm rfl) rfl (gj_kV fun S2 M2 h8 => ?_)
        obtain ⟨px9, eS, w11⟩ := h8; subst eS
        revert px9 w11; generalize M2 = M12; intro px9 w11
        refine gj_iconst (q := 37) (gj_dk okX6_takeNumber 22 rfl) (by decide) rfl ?_
        exact gj_zret (gj_dk okX6_takeNumber 23 rfl) rfl (by first | decide | assumption | omega) ⟨_, rfl, (by first | decide | assumption | omega), (by intro hh; omega), rfl, w11⟩
      · -- 25
        refine gj_iconst (q := 26) (gj_dk okX6_takeNumber 15 rfl) (by decide) rfl ?_
        exact gj_zret (gj_dk okX6_takeNumber 16 rfl) rfl (by first | decide | assumption | omega) ⟨_, rfl, (by first | decide | assumption | omega), (by intro hh; omega), rfl, h⟩
  · -- 8
    refine gj_iconst (q := 9) (gj_dk okX6_takeNumber 4 rfl) (by decide) rfl ?_
    exact gj_zret (gj_dk okX6_takeNumber 5 rfl) rfl (by first | decide | assumption | omega) ⟨_, rfl, (by first | decide | assumption | omega), (by intro hh; omega), rfl, h⟩

set_option maxHeartbeats 4000000 in
set_option maxRecDepth 20000 in
theorem w_X6_takeStop (hst : gj_Stat S) (h : w_CW M0 M)   : gj_C G l 4 0 0 yX6_takeStop cX6_takeStop 1 (some .boolean) [jR 10] S M (gj_qI fun x S' M' => (x = 0 ∨ x = 1) ∧ S = S' ∧ w_CW M0 M') := by
  refine gj_Cof (by decide +kernel) (Nat.le_of_ble_eq_true rfl) ?_
  change gj_W G l 4 0 0 yX6_takeStop cX6_takeStop 1 (some .boolean) (gj_qI fun x S' M' => (x = 0 ∨ x = 1) ∧ S = S' ∧ w_CW M0 M') 0 0 0 [(0, jR 10)] [] S M
  refine gj_aload_n (q := 1) (gj_dk okX6_takeStop 0 rfl) rfl rfl ?_
  refine gj_gI (q := 4) (j := 6) (gj_dk okX6_takeStop 1 rfl) ff_X6_57 (sh10 hst) (by decide) rfl rfl ?_
  refine gj_iconst (q := 5) (gj_dk okX6_takeStop 2 rfl) (by decide) rfl ?_
  refine gj_icmp_eq (q := 8) (tgt := 10) (gj_dk okX6_takeStop 3 rfl) (by decide) rfl (fun c5 => ?_) (fun c5 => ?_)
  · -- 10
    refine gj_aload_n (q := 11) (gj_dk okX6_takeStop 6 rfl) rfl rfl ?_
    refine gj_callV (q := 14) (z := 10) (ci := 6) [] rfl (w_X6_scan hst h  ) (gj_dk okX6_takeStop 7 rfl) ml_X6_48 me_X6_scan (sh10 hst) rfl (gj_nm rfl) rfl (gj_kV fun S2 M2 h1 => ?_)
    obtain ⟨px2, eS, w4⟩ := h1; subst eS
    revert px2 w4; generalize M2 = M5; intro px2 w4
    refine gj_iconst (q := 15) (gj_dk okX6_takeStop 8 rfl) (by decide) rfl ?_
    exact gj_zret (gj_dk okX6_takeStop 9 rfl) rfl (by first | decide | assumption | omega) ⟨_, rfl, (by first | decide | assumption | omega), rfl, w4⟩
  · -- 8
    refine gj_iconst (q := 9) (gj_dk okX6_takeStop 4 rfl) (by decide) rfl ?_
    exact gj_zret (gj_dk okX6_takeStop 5 rfl) rfl (by first | decide | assumption | omega) ⟨_, rfl, (by first | decide | assumption | omega), rfl, h⟩

set_option maxHeartbeats 4000000 in
set_option maxRecDepth 20000 in
theorem w_X6_readPerson (hst : gj_Stat S) (h : w_CW M0 M) (a1 a2 : Int)  : gj_C G l 7 0 0 yX6_readPerson cX6_readPerson 6 (some .boolean) [jR 10, jI a1, jI a2] S M (gj_qI fun x S' M' => (x = 0 ∨ x = 1) ∧ S = S' ∧ w_CW M0 M') := by
  refine gj_Cof (by decide +kernel) (Nat.le_of_ble_eq_true rfl) ?_
  change gj_W G l 7 0 0 yX6_readPerson cX6_readPerson 6 (some .boolean) (gj_qI fun x S' M' => (x = 0 ∨ x = 1) ∧ S = S' ∧ w_CW M0 M') 0 0 0 [(0, jR 10), (1, jI a1), (2, jI a2)] [] S M
  refine gj_iload_n (q := 1) (gj_dk okX6_readPerson 0 rfl) rfl rfl ?_
  refine gj_iconst (q := 2) (gj_dk okX6_readPerson 1 rfl) (by decide) rfl ?_
  refine gj_icmp_lt (q := 5) (tgt := 7) (gj_dk okX6_readPerson 2 rfl) (by decide) rfl (fun c2 => ?_) (fun c2 => ?_)
  · -- 7
    refine gj_aload_n (q := 8) (gj_dk okX6_readPerson 5 rfl) rfl rfl ?_
    refine gj_callV (q := 11) (z := 10) (ci := 6) [] rfl (w_X6_scan hst h  ) (gj_dk okX6_readPerson 6 rfl) ml_X6_48 me_X6_scan (sh10 hst) rfl (gj_nm rfl) rfl (gj_kV fun S2 M2 h1 => ?_)
    obtain ⟨px2, eS, w4⟩ := h1; subst eS
    revert px2 w4; generalize M2 = M5; intro px2 w4
    refine gj_aload_n (q := 12) (gj_dk okX6_readPerson 7 rfl) rfl rfl ?_
    refine gj_callV (q := 15) (z := 10) (ci := 6) [] rfl (w_X6_nameHere hst  ) (gj_dk okX6_readPerson 8 rfl) ml_X6_134 me_X6_nameHere (sh10 hst) rfl (gj_nm rfl) rfl (gj_kL fun x7 S2 M2 h6 => ?_)
    obtain ⟨eS, eM⟩ := h6; subst eS; subst eM
    refine gj_lstore_n (q := 16) (gj_dk okX6_readPerson 9 rfl) (by decide) rfl ?_
    refine gj_lload_n (q := 17) (gj_dk okX6_readPerson 10 rfl) rfl rfl ?_
    refine gj_lconst (q := 18) (z := 0) (gj_dk okX6_readPerson 11 rfl) rfl (by decide) rfl ?_
    refine gj_lcmp (q := 19) (gj_dk okX6_readPerson 12 rfl) rfl ?_
    refine gj_if_eq (q := 22) (tgt := 38) (gj_dk okX6_readPerson 13 rfl) (by decide) rfl (fun c19 => ?_) (fun c19 => ?_)
    · -- 38
      refine gj_iconst (q := 39) (gj_dk okX6_readPerson 22 rfl) (by decide) rfl ?_
      exact gj_zret (gj_dk okX6_readPerson 23 rfl) rfl (by first | decide | assumption | omega) ⟨_, rfl, (by first | decide | assumption | omega), rfl, w4⟩
    · -- 22
      refine gj_aload_n (q := 23) (gj_dk okX6_readPerson 14 rfl) rfl rfl ?_
      refine gj_callV (q := 26) (z := 10) (ci := 6) [] rfl (w_X6_isLineWord hst  ) (gj_dk okX6_readPerson 15 rfl) ml_X6_138 me_X6_isLineWord (sh10 hst) rfl (gj_nm rfl) rfl (gj_kI fun x11 S2 M2 h10 => ?_)
      obtain ⟨bx11, eS, eM⟩ := h10; subst eS; subst eM
      refine gj_if_ne (q := 29) (tgt := 38) (gj_dk okX6_readPerson 16 rfl) (by decide) rfl (fun c26 => ?_) (fun c26 => ?_)
      · -- 38
        refine gj_iconst (q := 39) (gj_dk okX6_readPerson 22 rfl) (by decide) rfl ?_
        exact gj_zret (gj_dk okX6_readPerson 23 rfl) rfl (by first | decide | assumption | omega) ⟨_, rfl, (by first | decide | assumption | omega), rfl, w4⟩
      · -- 29
        refine gj_aload_n (q := 30) (gj_dk okX6_readPerson 17 rfl) rfl rfl ?_
        refine gj_lload_n (q := 31) (gj_dk okX6_readPerson 18 rfl) rfl rfl ?_
        refine gj_callV (q := 34) (z := 10) (ci := 6) [jL x7] rfl (w_X6_slotNamed hst  _) (gj_dk okX6_readPerson 19 rfl) ml_X6_141 me_X6_slotNamed (sh10 hst) rfl (gj_nm rfl) rfl (gj_kI fun x15 S2 M2 h14 => ?_)
        obtain ⟨eS, eM⟩ := h14; subst eS; subst eM
        refine gj_iconst (q := 35) (gj_dk okX6_readPerson 20 rfl) (by decide) rfl ?_
        refine gj_icmp_eq (q := 38) (tgt := 40) (gj_dk okX6_readPerson 21 rfl) (by decide) rfl (fun c35 => ?_) (fun c35 => ?_)
        · -- 40
          refine gj_aload_n (q := 41) (gj_dk okX6_readPerson 24 rfl) rfl rfl ?_
          refine gj_callV (q := 44) (z := 10) (ci := 6) [] rfl (w_X6_scan hst w4  ) (gj_dk okX6_readPerson 25 rfl) ml_X6_48 me_X6_scan (sh10 hst) rfl (gj_nm rfl) rfl (gj_kV fun S2 M2 h18 => ?_)
          obtain ⟨px19, eS, w21⟩ := h18; subst eS
          revert px19 w21; generalize M2 = M22; intro px19 w21
          refine gj_aload_n (q := 45) (gj_dk okX6_readPerson 26 rfl) rfl rfl ?_
          refine gj_iconst (q := 46) (gj_dk okX6_readPerson 27 rfl) (by decide) rfl ?_
          refine gj_bipush (q := 48) (gj_dk okX6_readPerson 28 rfl) (by decide) rfl rfl ?_
          refine gj_callV (q := 51) (z := 10) (ci := 6) [jI 0, jI 99] rfl (w_X6_takeNumber hst w21  _ _) (gj_dk okX6_readPerson 29 rfl) ml_X6_145 me_X6_takeNumber (sh10 hst) rfl (gj_nm rfl) rfl (gj_kI fun x24 S2 M2 h23 => ?_)
          obtain ⟨bx24, px24, eS, w26⟩ := h23; subst eS
          revert px24 w26; generalize M2 = M27; intro px24 w26
          refine gj_if_ne (q := 54) (tgt := 56) (gj_dk okX6_readPerson 30 rfl) (by decide) rfl (fun c51 => ?_) (fun c51 => ?_)
          · -- 56
            refine gj_iload_n (q := 57) (gj_dk okX6_readPerson 33 rfl) rfl rfl ?_
            refine gj_iload_n (q := 58) (gj_dk okX6_readPerson 34 rfl) rfl rfl ?_
            refine gj_iadd (q := 59) (gj_dk okX6_readPerson 35 rfl) rfl ?_
            refine gj_istore (q := 61) (gj_dk okX6_readPerson 36 rfl) (by decide) rfl ?_
            refine gj_iload (q := 63) (gj_dk okX6_readPerson 37 rfl) rfl rfl ?_
            have J84 : ∀ (M28 : gj_M), (w_CW M0 M28) → gj_W G l 7 0 0 yX6_readPerson cX6_readPerson 6 (some .boolean) (gj_qI fun x S' M' => (x = 0 ∨ x = 1) ∧ S = S' ∧ w_CW M0 M') 0 0 84 [(0, jR 10), (1, jI a1), (5, jI (gj_w (a1 + a2)))] [] S M28 := by
              intro M28 w29
              refine gj_aload_n (q := 85) (gj_dk okX6_readPerson 49 rfl) rfl rfl ?_
              refine gj_gR (q := 88) (j := 1) (gj_dk okX6_readPerson 50 rfl) ff_X6_26 (sh10 hst) (by decide) rfl (rf10_1 hst) rfl ?_
              refine gj_gR (q := 91) (j := 10) (gj_dk okX6_readPerson 51 rfl) ff_X6_148 (sh3 hst) (by decide) rfl (rf3_10 hst) rfl ?_
              refine gj_iload (q := 93) (gj_dk okX6_readPerson 52 rfl) rfl rfl ?_
              refine gj_aload_n (q := 94) (gj_dk okX6_readPerson 53 rfl) rfl rfl ?_
              refine gj_gI (q := 97) (j := 9) (gj_dk okX6_readPerson 54 rfl) ff_X6_152 (sh10 hst) (by decide) rfl rfl ?_
              refine gj_callS (q := 100) [jR 4, jI (gj_w (a1 + a2)), jI (M28 10 9)] rfl (c_X7_put (sh4 hst) (by decide) (by decide) _ _) (gj_dk okX6_readPerson 55 rfl) ml_X6_155 me_X7_put (gj_nm rfl) rfl (gj_kV fun S2 M2 h30 => ?_)
              obtain ⟨eS, eM⟩ := h30; subst eS
              have w33 : w_CW M0 M2 := by rw [← eM]; exact w_CW.put w29 (by decide) (by decide)
              clear eM
              revert w33; generalize M2 = M34; intro w33
              refine gj_iload_n (q := 101) (gj_dk okX6_readPerson 56 rfl) rfl rfl ?_
              refine gj_if_ne (q := 104) (tgt := 120) (gj_dk okX6_readPerson 57 rfl) (by decide) rfl (fun c101 => ?_) (fun c101 => ?_)
              · -- 120
                refine gj_aload_n (q := 121) (gj_dk okX6_readPerson 66 rfl) rfl rfl ?_
                refine gj_gR (q := 124) (j := 1) (gj_dk okX6_readPerson 67 rfl) ff_X6_26 (sh10 hst) (by decide) rfl (rf10_1 hst) rfl ?_
                refine gj_dup (q := 125) (gj_dk okX6_readPerson 68 rfl) rfl rfl ?_
                refine gj_gI (q := 128) (j := 1) (gj_dk okX6_readPerson 69 rfl) ff_X6_96 (sh3 hst) (by decide) rfl rfl ?_
                refine gj_iconst (q := 129) (gj_dk okX6_readPerson 70 rfl) (by decide) rfl ?_
                refine gj_iadd (q := 130) (gj_dk okX6_readPerson 71 rfl) rfl ?_
                refine gj_pfI (q := 133) (j := 1) (gj_dk okX6_readPerson 72 rfl) ff_X6_96 (sh3 hst) (by decide) rfl rfl ?_
                refine gj_abs (fun M35 e37 => ?_)
                have w36 : w_CW M0 M35 := by rw [e37]; exact w33.up (by decide) rfl
                clear e37
                refine gj_aload_n (q := 134) (gj_dk okX6_readPerson 73 rfl) rfl rfl ?_
                refine gj_callV (q := 137) (z := 10) (ci := 6) [] rfl (w_X6_takeStop hst w36  ) (gj_dk okX6_readPerson 74 rfl) ml_X6_159 me_X6_takeStop (sh10 hst) rfl (gj_nm rfl) rfl (gj_kI fun x39 S2 M2 h38 => ?_)
                obtain ⟨bx39, eS, w41⟩ := h38; subst eS
                revert w41; generalize M2 = M42; intro w41
                exact gj_zret (gj_dk okX6_readPerson 75 rfl) rfl (by first | decide | assumption | omega) ⟨_, rfl, (by first | decide | assumption | omega), rfl, w41⟩
              · -- 104
                refine gj_aload_n (q := 105) (gj_dk okX6_readPerson 58 rfl) rfl rfl ?_
                refine gj_gR (q := 108) (j := 1) (gj_dk okX6_readPerson 59 rfl) ff_X6_26 (sh10 hst) (by decide) rfl (rf10_1 hst) rfl ?_
                refine gj_dup (q := 109) (gj_dk okX6_readPerson 60 rfl) rfl rfl ?_
                refine gj_gI (q := 112) (j := 0) (gj_dk okX6_readPerson 61 rfl) ff_X6_87 (sh3 hst) (by decide) rfl rfl ?_
                refine gj_iconst (q := 113) (gj_dk okX6_readPerson 62 rfl) (by decide) rfl ?_
                refine gj_iadd (q := 114) (gj_dk okX6_readPerson 63 rfl) rfl ?_
                refine gj_pfI (q := 117) (j := 0) (gj_dk okX6_readPerson 64 rfl) ff_X6_87 (sh3 hst) (by decide) rfl rfl ?_
                refine gj_abs (fun M43 e45 => ?_)
                have w44 : w_CW M0 M43 := by rw [e45]; exact w33.up (by decide) rfl
                clear e45
                refine gj_goto (tgt := 133) (gj_dk okX6_readPerson 65 rfl) (by decide) ?_
                refine gj_aload_n (q := 134) (gj_dk okX6_readPerson 73 rfl) rfl rfl ?_
                refine gj_callV (q := 137) (z := 10) (ci := 6) [] rfl (w_X6_takeStop hst w44  ) (gj_dk okX6_readPerson 74 rfl) ml_X6_159 me_X6_takeStop (sh10 hst) rfl (gj_nm rfl) rfl (gj_kI fun x47 S2 M2 h46 => ?_)
                obtain ⟨bx47, eS, w49⟩ := h46; subst eS
                revert w49; generalize M2 = M50; intro w49
                exact gj_zret (gj_dk okX6_readPerson 75 rfl) rfl (by first | decide | assumption | omega) ⟨_, rfl, (by first | decide | assumption | omega), rfl, w49⟩
            refine gj_if_lt (q := 66) (tgt := 84) (gj_dk okX6_readPerson 38 rfl) (by decide) rfl (fun c63 => ?_) (fun c63 => ?_)
            · -- 84
              refine gj_sub [(0, jR 10), (1, jI a1), (5, jI (gj_w (a1 + a2)))] ⟨rfl, rfl, rfl, trivial⟩ ?_
              exact J84 _ w26
            · -- 66
              refine gj_iload (q := 68) (gj_dk okX6_readPerson 39 rfl) rfl rfl ?_
              refine gj_aload_n (q := 69) (gj_dk okX6_readPerson 40 rfl) rfl rfl ?_
              refine gj_gR (q := 72) (j := 2) (gj_dk okX6_readPerson 41 rfl) ff_X6_9 (sh10 hst) (by decide) rfl (rf10_2 hst) rfl ?_
              refine gj_alen (q := 73) (gj_dk okX6_readPerson 42 rfl) (sh11 hst) (by decide) rfl ?_
              refine gj_icmp_ge (q := 76) (tgt := 84) (gj_dk okX6_readPerson 43 rfl) (by decide) rfl (fun c73 => ?_) (fun c73 => ?_)
              · -- 84
                refine gj_sub [(0, jR 10), (1, jI a1), (5, jI (gj_w (a1 + a2)))] ⟨rfl, rfl, rfl, trivial⟩ ?_
                exact J84 _ w26
              · -- 76
                refine gj_aload_n (q := 77) (gj_dk okX6_readPerson 44 rfl) rfl rfl ?_
                refine gj_gR (q := 80) (j := 2) (gj_dk okX6_readPerson 45 rfl) ff_X6_9 (sh10 hst) (by decide) rfl (rf10_2 hst) rfl ?_
                refine gj_iload (q := 82) (gj_dk okX6_readPerson 46 rfl) rfl rfl ?_
                refine gj_lload_n (q := 83) (gj_dk okX6_readPerson 47 rfl) rfl rfl ?_
                refine gj_last (q := 84) (gj_dk okX6_readPerson 48 rfl) (sh11 hst) (by omega) (by omega) rfl ?_
                refine gj_abs (fun M51 e53 => ?_)
                have w52 : w_CW M0 M51 := by rw [e53]; exact w26.up (by decide) rfl
                clear e53
                refine gj_sub [(0, jR 10), (1, jI a1), (5, jI (gj_w (a1 + a2)))] ⟨rfl, rfl, rfl, trivial⟩ ?_
                exact J84 _ w52
          · -- 54
            refine gj_iconst (q := 55) (gj_dk okX6_readPerson 31 rfl) (by decide) rfl ?_
            exact gj_zret (gj_dk okX6_readPerson 32 rfl) rfl (by first | decide | assumption | omega) ⟨_, rfl, (by first | decide | assumption | omega), rfl, w26⟩
        · -- 38
          refine gj_iconst (q := 39) (gj_dk okX6_readPerson 22 rfl) (by decide) rfl ?_
          exact gj_zret (gj_dk okX6_readPerson 23 rfl) rfl (by first | decide | assumption | omega) ⟨_, rfl, (by first | decide | assumption | omega), rfl, w4⟩
  · -- 5
    refine gj_iconst (q := 6) (gj_dk okX6_readPerson 3 rfl) (by decide) rfl ?_
    exact gj_zret (gj_dk okX6_readPerson 4 rfl) rfl (by first | decide | assumption | omega) ⟨_, rfl, (by first | decide | assumption | omega), rfl, h⟩

set_option maxHeartbeats 4000000 in
set_option maxRecDepth 20000 in
theorem w_X6_readThink (hst : gj_Stat S) (h : w_CW M0 M)   : gj_C G l 5 0 0 yX6_readThink cX6_readThink 4 (some .boolean) [jR 10] S M (gj_qI fun x S' M' => (x = 0 ∨ x = 1) ∧ S = S' ∧ w_CW M0 M') := by
  refine gj_Cof (by decide +kernel) (Nat.le_of_ble_eq_true rfl) ?_
  change gj_W G l 5 0 0 yX6_readThink cX6_readThink 4 (some .boolean) (gj_qI fun x S' M' => (x = 0 ∨ x = 1) ∧ S = S' ∧ w_CW M0 M') 0 0 0 [(0, jR 10)] [] S M
  refine gj_aload_n (q := 1) (gj_dk okX6_readThink 0 rfl) rfl rfl ?_
  refine gj_callV (q := 4) (z := 10) (ci := 6) [] rfl (w_X6_scan hst h  ) (gj_dk okX6_readThink 1 rfl) ml_X6_48 me_X6_scan (sh10 hst) rfl (gj_nm rfl) rfl (gj_kV fun S2 M2 h1 => ?_)
  obtain ⟨px2, eS, w4⟩ := h1; subst eS
  revert px2 w4; generalize M2 = M5; intro px2 w4
  refine gj_aload_n (q := 5) (gj_dk okX6_readThink 2 rfl) rfl rfl ?_
  refine gj_aload_n (q := 6) (gj_dk okX6_readThink 3 rfl) rfl rfl ?_
  refine gj_callV (q := 9) (z := 10) (ci := 6) [] rfl (w_X6_nameHere hst  ) (gj_dk okX6_readThink 4 rfl) ml_X6_134 me_X6_nameHere (sh10 hst) rfl (gj_nm rfl) rfl (gj_kL fun x7 S2 M2 h6 => ?_)
  obtain ⟨eS, eM⟩ := h6; subst eS; subst eM
  refine gj_callV (q := 12) (z := 10) (ci := 6) [jL x7] rfl (w_X6_slotNamed hst  _) (gj_dk okX6_readThink 5 rfl) ml_X6_141 me_X6_slotNamed (sh10 hst) rfl (gj_nm rfl) rfl (gj_kI fun x11 S2 M2 h10 => ?_)
  obtain ⟨eS, eM⟩ := h10; subst eS; subst eM
  refine gj_istore_n (q := 13) (gj_dk okX6_readThink 6 rfl) (by decide) rfl ?_
  refine gj_iload_n (q := 14) (gj_dk okX6_readThink 7 rfl) rfl rfl ?_
  refine gj_iconst (q := 15) (gj_dk okX6_readThink 8 rfl) (by decide) rfl ?_
  refine gj_icmp_ne (q := 18) (tgt := 20) (gj_dk okX6_readThink 9 rfl) (by decide) rfl (fun c15 => ?_) (fun c15 => ?_)
  · -- 20
    refine gj_aload_n (q := 21) (gj_dk okX6_readThink 12 rfl) rfl rfl ?_
    refine gj_callV (q := 24) (z := 10) (ci := 6) [] rfl (w_X6_scan hst w4  ) (gj_dk okX6_readThink 13 rfl) ml_X6_48 me_X6_scan (sh10 hst) rfl (gj_nm rfl) rfl (gj_kV fun S2 M2 h14 => ?_)
    obtain ⟨px15, eS, w17⟩ := h14; subst eS
    revert px15 w17; generalize M2 = M18; intro px15 w17
    refine gj_aload_n (q := 25) (gj_dk okX6_readThink 14 rfl) rfl rfl ?_
    refine gj_aload_n (q := 26) (gj_dk okX6_readThink 15 rfl) rfl rfl ?_
    refine gj_callV (q := 29) (z := 10) (ci := 6) [] rfl (w_X6_nameHere hst  ) (gj_dk okX6_readThink 16 rfl) ml_X6_134 me_X6_nameHere (sh10 hst) rfl (gj_nm rfl) rfl (gj_kL fun x20 S2 M2 h19 => ?_)
    obtain ⟨eS, eM⟩ := h19; subst eS; subst eM
    refine gj_callV (q := 32) (z := 10) (ci := 6) [jL x20] rfl (w_X6_slotNamed hst  _) (gj_dk okX6_readThink 17 rfl) ml_X6_141 me_X6_slotNamed (sh10 hst) rfl (gj_nm rfl) rfl (gj_kI fun x24 S2 M2 h23 => ?_)
    obtain ⟨eS, eM⟩ := h23; subst eS; subst eM
    refine gj_istore_n (q := 33) (gj_dk okX6_readThink 18 rfl) (by decide) rfl ?_
    refine gj_iload_n (q := 34) (gj_dk okX6_readThink 19 rfl) rfl rfl ?_
    refine gj_iload_n (q := 35) (gj_dk okX6_readThink 20 rfl) rfl rfl ?_
    refine gj_callS (q := 38) [jI x11, jI x24] rfl (c_X10_unlike _ _) (gj_dk okX6_readThink 21 rfl) ml_X6_162 me_X10_unlike (gj_nm rfl) rfl (gj_kI fun x28 S2 M2 h27 => ?_)
    have bx28 : x28 = 0 ∨ x28 = 1 := by rw [← h27.1]; exact f_unl_01 _ _
    obtain ⟨-, eS, eM⟩ := h27; subst eS; subst eM
    refine gj_if_eq (q := 41) (tgt := 56) (gj_dk okX6_readThink 22 rfl) (by decide) rfl (fun c38 => ?_) (fun c38 => ?_)
    · -- 56
      refine gj_iconst (q := 57) (gj_dk okX6_readThink 30 rfl) (by decide) rfl ?_
      exact gj_zret (gj_dk okX6_readThink 31 rfl) rfl (by first | decide | assumption | omega) ⟨_, rfl, (by first | decide | assumption | omega), rfl, w17⟩
    · -- 41
      refine gj_aload_n (q := 42) (gj_dk okX6_readThink 23 rfl) rfl rfl ?_
      refine gj_gR (q := 45) (j := 3) (gj_dk okX6_readThink 24 rfl) ff_X6_15 (sh10 hst) (by decide) rfl (rf10_3 hst) rfl ?_
      refine gj_iload_n (q := 46) (gj_dk okX6_readThink 25 rfl) rfl rfl ?_
      refine gj_iload_n (q := 47) (gj_dk okX6_readThink 26 rfl) rfl rfl ?_
      refine gj_callS (q := 50) [jI x11, jI x24] rfl (c_X10_view _ _) (gj_dk okX6_readThink 27 rfl) ml_X6_167 me_X10_view (gj_nm rfl) rfl (gj_kI fun x31 S2 M2 h30 => ?_)
      obtain ⟨-, eS, eM⟩ := h30; subst eS; subst eM
      refine gj_callS (q := 53) [jR 12, jI x31] rfl (c_X7_is (sh12 hst) (by decide) (by decide) _) (gj_dk okX6_readThink 28 rfl) ml_X6_171 me_X7_is (gj_nm rfl) rfl (gj_kI fun x34 S2 M2 h33 => ?_)
      obtain ⟨-, eS, eM⟩ := h33; subst eS; subst eM
      refine gj_if_eq (q := 56) (tgt := 58) (gj_dk okX6_readThink 29 rfl) (by decide) rfl (fun c53 => ?_) (fun c53 => ?_)
      · -- 58
        refine gj_iload_n (q := 59) (gj_dk okX6_readThink 32 rfl) rfl rfl ?_
        refine gj_iload_n (q := 60) (gj_dk okX6_readThink 33 rfl) rfl rfl ?_
        refine gj_callS (q := 63) [jI x11, jI x24] rfl (c_X10_view _ _) (gj_dk okX6_readThink 34 rfl) ml_X6_167 me_X10_view (gj_nm rfl) rfl (gj_kI fun x37 S2 M2 h36 => ?_)
        obtain ⟨-, eS, eM⟩ := h36; subst eS; subst eM
        refine gj_istore_n (q := 64) (gj_dk okX6_readThink 35 rfl) (by decide) rfl ?_
        refine gj_aload_n (q := 65) (gj_dk okX6_readThink 36 rfl) rfl rfl ?_
        refine gj_callV (q := 68) (z := 10) (ci := 6) [] rfl (w_X6_scan hst w17  ) (gj_dk okX6_readThink 37 rfl) ml_X6_48 me_X6_scan (sh10 hst) rfl (gj_nm rfl) rfl (gj_kV fun S2 M2 h39 => ?_)
        obtain ⟨px40, eS, w42⟩ := h39; subst eS
        revert px40 w42; generalize M2 = M43; intro px40 w42
        refine gj_aload_n (q := 69) (gj_dk okX6_readThink 38 rfl) rfl rfl ?_
        refine gj_gR (q := 72) (j := 3) (gj_dk okX6_readThink 39 rfl) ff_X6_15 (sh10 hst) (by decide) rfl (rf10_3 hst) rfl ?_
        refine gj_iload_n (q := 73) (gj_dk okX6_readThink 40 rfl) rfl rfl ?_
        refine gj_iconst (q := 74) (gj_dk okX6_readThink 41 rfl) (by decide) rfl ?_
        refine gj_callS (q := 77) [jR 12, jI x37, jI 1] rfl (c_X7_mark (sh12 hst) (by decide) (by decide) _ _ (by first | decide | assumption | omega)) (gj_dk okX6_readThink 42 rfl) ml_X6_175 me_X7_mark (gj_nm rfl) rfl (gj_kV fun S2 M2 h44 => ?_)
        obtain ⟨eS, eM⟩ := h44; subst eS
        have w47 : w_CW M0 M2 := by rw [← eM]; exact w_CW.put w42 (by decide) (by decide)
        clear eM
        revert w47; generalize M2 = M48; intro w47
        refine gj_aload_n (q := 78) (gj_dk okX6_readThink 43 rfl) rfl rfl ?_
        refine gj_iconst (q := 79) (gj_dk okX6_readThink 44 rfl) (by decide) rfl ?_
        refine gj_bipush (q := 81) (gj_dk okX6_readThink 45 rfl) (by decide) rfl rfl ?_
        refine gj_callV (q := 84) (z := 10) (ci := 6) [jI 0, jI 16] rfl (w_X6_takeNumber hst w47  _ _) (gj_dk okX6_readThink 46 rfl) ml_X6_145 me_X6_takeNumber (sh10 hst) rfl (gj_nm rfl) rfl (gj_kI fun x50 S2 M2 h49 => ?_)
        obtain ⟨bx50, px50, eS, w52⟩ := h49; subst eS
        revert px50 w52; generalize M2 = M53; intro px50 w52
        refine gj_if_ne (q := 87) (tgt := 89) (gj_dk okX6_readThink 47 rfl) (by decide) rfl (fun c84 => ?_) (fun c84 => ?_)
        · -- 89
          refine gj_aload_n (q := 90) (gj_dk okX6_readThink 50 rfl) rfl rfl ?_
          refine gj_gR (q := 93) (j := 1) (gj_dk okX6_readThink 51 rfl) ff_X6_26 (sh10 hst) (by decide) rfl (rf10_1 hst) rfl ?_
          refine gj_gR (q := 96) (j := 11) (gj_dk okX6_readThink 52 rfl) ff_X6_179 (sh3 hst) (by decide) rfl (rf3_11 hst) rfl ?_
          refine gj_iload_n (q := 97) (gj_dk okX6_readThink 53 rfl) rfl rfl ?_
          refine gj_aload_n (q := 98) (gj_dk okX6_readThink 54 rfl) rfl rfl ?_
          refine gj_gI (q := 101) (j := 9) (gj_dk okX6_readThink 55 rfl) ff_X6_152 (sh10 hst) (by decide) rfl rfl ?_
          refine gj_callS (q := 104) [jR 5, jI x37, jI (M53 10 9)] rfl (c_X7_put (sh5 hst) (by decide) (by decide) _ _) (gj_dk okX6_readThink 56 rfl) ml_X6_155 me_X7_put (gj_nm rfl) rfl (gj_kV fun S2 M2 h54 => ?_)
          obtain ⟨eS, eM⟩ := h54; subst eS
          have w57 : w_CW M0 M2 := by rw [← eM]; exact w_CW.put w52 (by decide) (by decide)
          clear eM
          revert w57; generalize M2 = M58; intro w57
          refine gj_aload_n (q := 105) (gj_dk okX6_readThink 57 rfl) rfl rfl ?_
          refine gj_iconst (q := 106) (gj_dk okX6_readThink 58 rfl) (by decide) rfl ?_
          refine gj_bipush (q := 108) (gj_dk okX6_readThink 59 rfl) (by decide) rfl rfl ?_
          refine gj_callV (q := 111) (z := 10) (ci := 6) [jI 0, jI 16] rfl (w_X6_takeNumber hst w57  _ _) (gj_dk okX6_readThink 60 rfl) ml_X6_145 me_X6_takeNumber (sh10 hst) rfl (gj_nm rfl) rfl (gj_kI fun x60 S2 M2 h59 => ?_)
          obtain ⟨bx60, px60, eS, w62⟩ := h59; subst eS
          revert px60 w62; generalize M2 = M63; intro px60 w62
          refine gj_if_ne (q := 114) (tgt := 116) (gj_dk okX6_readThink 61 rfl) (by decide) rfl (fun c111 => ?_) (fun c111 => ?_)
          · -- 116
            refine gj_aload_n (q := 117) (gj_dk okX6_readThink 64 rfl) rfl rfl ?_
            refine gj_gR (q := 120) (j := 1) (gj_dk okX6_readThink 65 rfl) ff_X6_26 (sh10 hst) (by decide) rfl (rf10_1 hst) rfl ?_
            refine gj_gR (q := 123) (j := 12) (gj_dk okX6_readThink 66 rfl) ff_X6_182 (sh3 hst) (by decide) rfl (rf3_12 hst) rfl ?_
            refine gj_iload_n (q := 124) (gj_dk okX6_readThink 67 rfl) rfl rfl ?_
            refine gj_aload_n (q := 125) (gj_dk okX6_readThink 68 rfl) rfl rfl ?_
            refine gj_gI (q := 128) (j := 9) (gj_dk okX6_readThink 69 rfl) ff_X6_152 (sh10 hst) (by decide) rfl rfl ?_
            refine gj_callS (q := 131) [jR 6, jI x37, jI (M63 10 9)] rfl (c_X7_put (sh6 hst) (by decide) (by decide) _ _) (gj_dk okX6_readThink 70 rfl) ml_X6_155 me_X7_put (gj_nm rfl) rfl (gj_kV fun S2 M2 h64 => ?_)
            obtain ⟨eS, eM⟩ := h64; subst eS
            have w67 : w_CW M0 M2 := by rw [← eM]; exact w_CW.put w62 (by decide) (by decide)
            clear eM
            revert w67; generalize M2 = M68; intro w67
            refine gj_aload_n (q := 132) (gj_dk okX6_readThink 71 rfl) rfl rfl ?_
            refine gj_iconst (q := 133) (gj_dk okX6_readThink 72 rfl) (by decide) rfl ?_
            refine gj_aload_n (q := 134) (gj_dk okX6_readThink 73 rfl) rfl rfl ?_
            refine gj_gI (q := 137) (j := 9) (gj_dk okX6_readThink 74 rfl) ff_X6_152 (sh10 hst) (by decide) rfl rfl ?_
            refine gj_callV (q := 140) (z := 10) (ci := 6) [jI 0, jI (M68 10 9)] rfl (w_X6_takeNumber hst w67  _ _) (gj_dk okX6_readThink 75 rfl) ml_X6_145 me_X6_takeNumber (sh10 hst) rfl (gj_nm rfl) rfl (gj_kI fun x70 S2 M2 h69 => ?_)
            obtain ⟨bx70, px70, eS, w72⟩ := h69; subst eS
            revert px70 w72; generalize M2 = M73; intro px70 w72
            refine gj_if_ne (q := 143) (tgt := 145) (gj_dk okX6_readThink 76 rfl) (by decide) rfl (fun c140 => ?_) (fun c140 => ?_)
            · -- 145
              refine gj_aload_n (q := 146) (gj_dk okX6_readThink 79 rfl) rfl rfl ?_
              refine gj_gR (q := 149) (j := 1) (gj_dk okX6_readThink 80 rfl) ff_X6_26 (sh10 hst) (by decide) rfl (rf10_1 hst) rfl ?_
              refine gj_gR (q := 152) (j := 13) (gj_dk okX6_readThink 81 rfl) ff_X6_185 (sh3 hst) (by decide) rfl (rf3_13 hst) rfl ?_
              refine gj_iload_n (q := 153) (gj_dk okX6_readThink 82 rfl) rfl rfl ?_
              refine gj_aload_n (q := 154) (gj_dk okX6_readThink 83 rfl) rfl rfl ?_
              refine gj_gI (q := 157) (j := 9) (gj_dk okX6_readThink 84 rfl) ff_X6_152 (sh10 hst) (by decide) rfl rfl ?_
              refine gj_callS (q := 160) [jR 7, jI x37, jI (M73 10 9)] rfl (c_X7_put (sh7 hst) (by decide) (by decide) _ _) (gj_dk okX6_readThink 85 rfl) ml_X6_155 me_X7_put (gj_nm rfl) rfl (gj_kV fun S2 M2 h74 => ?_)
              obtain ⟨eS, eM⟩ := h74; subst eS
              have w77 : w_CW M0 M2 := by rw [← eM]; exact w_CW.put w72 (by decide) (by decide)
              clear eM
              revert w77; generalize M2 = M78; intro w77
              refine gj_aload_n (q := 161) (gj_dk okX6_readThink 86 rfl) rfl rfl ?_
              refine gj_callV (q := 164) (z := 10) (ci := 6) [] rfl (w_X6_takeStop hst w77  ) (gj_dk okX6_readThink 87 rfl) ml_X6_159 me_X6_takeStop (sh10 hst) rfl (gj_nm rfl) rfl (gj_kI fun x80 S2 M2 h79 => ?_)
              obtain ⟨bx80, eS, w82⟩ := h79; subst eS
              revert w82; generalize M2 = M83; intro w82
              exact gj_zret (gj_dk okX6_readThink 88 rfl) rfl (by first | decide | assumption | omega) ⟨_, rfl, (by first | decide | assumption | omega), rfl, w82⟩
            · -- 143
              refine gj_iconst (q := 144) (gj_dk okX6_readThink 77 rfl) (by decide) rfl ?_
              exact gj_zret (gj_dk okX6_readThink 78 rfl) rfl (by first | decide | assumption | omega) ⟨_, rfl, (by first | decide | assumption | omega), rfl, w72⟩
          · -- 114
            refine gj_iconst (q := 115) (gj_dk okX6_readThink 62 rfl) (by decide) rfl ?_
            exact gj_zret (gj_dk okX6_readThink 63 rfl) rfl (by first | decide | assumption | omega) ⟨_, rfl, (by first | decide | assumption | omega), rfl, w62⟩
        · -- 87
          refine gj_iconst (q := 88) (gj_dk okX6_readThink 48 rfl) (by decide) rfl ?_
          exact gj_zret (gj_dk okX6_readThink 49 rfl) rfl (by first | decide | assumption | omega) ⟨_, rfl, (by first | decide | assumption | omega), rfl, w52⟩
      · -- 56
        refine gj_iconst (q := 57) (gj_dk okX6_readThink 30 rfl) (by decide) rfl ?_
        exact gj_zret (gj_dk okX6_readThink 31 rfl) rfl (by first | decide | assumption | omega) ⟨_, rfl, (by first | decide | assumption | omega), rfl, w17⟩
  · -- 18
    refine gj_iconst (q := 19) (gj_dk okX6_readThink 10 rfl) (by decide) rfl ?_
    exact gj_zret (gj_dk okX6_readThink 11 rfl) rfl (by first | decide | assumption | omega) ⟨_, rfl, (by first | decide | assumption | omega), rfl, w4⟩

set_option maxHeartbeats 4000000 in
set_option maxRecDepth 20000 in
theorem w_X6_readFit (hst : gj_Stat S) (h : w_CW M0 M)   : gj_C G l 5 0 0 yX6_readFit cX6_readFit 4 (some .boolean) [jR 10] S M (gj_qI fun x S' M' => (x = 0 ∨ x = 1) ∧ S = S' ∧ w_CW M0 M') := by
  refine gj_Cof (by decide +kernel) (Nat.le_of_ble_eq_true rfl) ?_
  change gj_W G l 5 0 0 yX6_readFit cX6_readFit 4 (some .boolean) (gj_qI fun x S' M' => (x = 0 ∨ x = 1) ∧ S = S' ∧ w_CW M0 M') 0 0 0 [(0, jR 10)] [] S M
  refine gj_aload_n (q := 1) (gj_dk okX6_readFit 0 rfl) rfl rfl ?_
  refine gj_callV (q := 4) (z := 10) (ci := 6) [] rfl (w_X6_scan hst h  ) (gj_dk okX6_readFit 1 rfl) ml_X6_48 me_X6_scan (sh10 hst) rfl (gj_nm rfl) rfl (gj_kV fun S2 M2 h1 => ?_)
  obtain ⟨px2, eS, w4⟩ := h1; subst eS
  revert px2 w4; generalize M2 = M5; intro px2 w4
  refine gj_aload_n (q := 5) (gj_dk okX6_readFit 2 rfl) rfl rfl ?_
  refine gj_aload_n (q := 6) (gj_dk okX6_readFit 3 rfl) rfl rfl ?_
  refine gj_callV (q := 9) (z := 10) (ci := 6) [] rfl (w_X6_nameHere hst  ) (gj_dk okX6_readFit 4 rfl) ml_X6_134 me_X6_nameHere (sh10 hst) rfl (gj_nm rfl) rfl (gj_kL fun x7 S2 M2 h6 => ?_)
  obtain ⟨eS, eM⟩ := h6; subst eS; subst eM
  refine gj_callV (q := 12) (z := 10) (ci := 6) [jL x7] rfl (w_X6_slotNamed hst  _) (gj_dk okX6_readFit 5 rfl) ml_X6_141 me_X6_slotNamed (sh10 hst) rfl (gj_nm rfl) rfl (gj_kI fun x11 S2 M2 h10 => ?_)
  obtain ⟨eS, eM⟩ := h10; subst eS; subst eM
  refine gj_istore_n (q := 13) (gj_dk okX6_readFit 6 rfl) (by decide) rfl ?_
  refine gj_iload_n (q := 14) (gj_dk okX6_readFit 7 rfl) rfl rfl ?_
  refine gj_iconst (q := 15) (gj_dk okX6_readFit 8 rfl) (by decide) rfl ?_
  refine gj_icmp_eq (q := 18) (tgt := 23) (gj_dk okX6_readFit 9 rfl) (by decide) rfl (fun c15 => ?_) (fun c15 => ?_)
  · -- 23
    refine gj_iconst (q := 24) (gj_dk okX6_readFit 13 rfl) (by decide) rfl ?_
    exact gj_zret (gj_dk okX6_readFit 14 rfl) rfl (by first | decide | assumption | omega) ⟨_, rfl, (by first | decide | assumption | omega), rfl, w4⟩
  · -- 18
    refine gj_iload_n (q := 19) (gj_dk okX6_readFit 10 rfl) rfl rfl ?_
    refine gj_iconst (q := 20) (gj_dk okX6_readFit 11 rfl) (by decide) rfl ?_
    refine gj_icmp_lt (q := 23) (tgt := 25) (gj_dk okX6_readFit 12 rfl) (by decide) rfl (fun c20 => ?_) (fun c20 => ?_)
    · -- 25
      refine gj_aload_n (q := 26) (gj_dk okX6_readFit 15 rfl) rfl rfl ?_
      refine gj_callV (q := 29) (z := 10) (ci := 6) [] rfl (w_X6_scan hst w4  ) (gj_dk okX6_readFit 16 rfl) ml_X6_48 me_X6_scan (sh10 hst) rfl (gj_nm rfl) rfl (gj_kV fun S2 M2 h14 => ?_)
      obtain ⟨px15, eS, w17⟩ := h14; subst eS
      revert px15 w17; generalize M2 = M18; intro px15 w17
      refine gj_aload_n (q := 30) (gj_dk okX6_readFit 17 rfl) rfl rfl ?_
      refine gj_aload_n (q := 31) (gj_dk okX6_readFit 18 rfl) rfl rfl ?_
      refine gj_callV (q := 34) (z := 10) (ci := 6) [] rfl (w_X6_nameHere hst  ) (gj_dk okX6_readFit 19 rfl) ml_X6_134 me_X6_nameHere (sh10 hst) rfl (gj_nm rfl) rfl (gj_kL fun x20 S2 M2 h19 => ?_)
      obtain ⟨eS, eM⟩ := h19; subst eS; subst eM
      refine gj_callV (q := 37) (z := 10) (ci := 6) [jL x20] rfl (w_X6_slotNamed hst  _) (gj_dk okX6_readFit 20 rfl) ml_X6_141 me_X6_slotNamed (sh10 hst) rfl (gj_nm rfl) rfl (gj_kI fun x24 S2 M2 h23 => ?_)
      obtain ⟨eS, eM⟩ := h23; subst eS; subst eM
      refine gj_istore_n (q := 38) (gj_dk okX6_readFit 21 rfl) (by decide) rfl ?_
      refine gj_iload_n (q := 39) (gj_dk okX6_readFit 22 rfl) rfl rfl ?_
      refine gj_iload_n (q := 40) (gj_dk okX6_readFit 23 rfl) rfl rfl ?_
      refine gj_callS (q := 43) [jI x11, jI x24] rfl (c_X10_unlike _ _) (gj_dk okX6_readFit 24 rfl) ml_X6_162 me_X10_unlike (gj_nm rfl) rfl (gj_kI fun x28 S2 M2 h27 => ?_)
      have bx28 : x28 = 0 ∨ x28 = 1 := by rw [← h27.1]; exact f_unl_01 _ _
      obtain ⟨-, eS, eM⟩ := h27; subst eS; subst eM
      refine gj_if_eq (q := 46) (tgt := 61) (gj_dk okX6_readFit 25 rfl) (by decide) rfl (fun c43 => ?_) (fun c43 => ?_)
      · -- 61
        refine gj_iconst (q := 62) (gj_dk okX6_readFit 33 rfl) (by decide) rfl ?_
        exact gj_zret (gj_dk okX6_readFit 34 rfl) rfl (by first | decide | assumption | omega) ⟨_, rfl, (by first | decide | assumption | omega), rfl, w17⟩
      · -- 46
        refine gj_aload_n (q := 47) (gj_dk okX6_readFit 26 rfl) rfl rfl ?_
        refine gj_gR (q := 50) (j := 4) (gj_dk okX6_readFit 27 rfl) ff_X6_19 (sh10 hst) (by decide) rfl (rf10_4 hst) rfl ?_
        refine gj_iload_n (q := 51) (gj_dk okX6_readFit 28 rfl) rfl rfl ?_
        refine gj_iload_n (q := 52) (gj_dk okX6_readFit 29 rfl) rfl rfl ?_
        refine gj_callS (q := 55) [jI x11, jI x24] rfl (c_X10_couple _ _) (gj_dk okX6_readFit 30 rfl) ml_X6_188 me_X10_couple (gj_nm rfl) rfl (gj_kI fun x31 S2 M2 h30 => ?_)
        obtain ⟨-, eS, eM⟩ := h30; subst eS; subst eM
        refine gj_callS (q := 58) [jR 13, jI x31] rfl (c_X7_is (sh13 hst) (by decide) (by decide) _) (gj_dk okX6_readFit 31 rfl) ml_X6_171 me_X7_is (gj_nm rfl) rfl (gj_kI fun x34 S2 M2 h33 => ?_)
        obtain ⟨-, eS, eM⟩ := h33; subst eS; subst eM
        refine gj_if_eq (q := 61) (tgt := 63) (gj_dk okX6_readFit 32 rfl) (by decide) rfl (fun c58 => ?_) (fun c58 => ?_)
        · -- 63
          refine gj_iload_n (q := 64) (gj_dk okX6_readFit 35 rfl) rfl rfl ?_
          refine gj_iload_n (q := 65) (gj_dk okX6_readFit 36 rfl) rfl rfl ?_
          refine gj_callS (q := 68) [jI x11, jI x24] rfl (c_X10_couple _ _) (gj_dk okX6_readFit 37 rfl) ml_X6_188 me_X10_couple (gj_nm rfl) rfl (gj_kI fun x37 S2 M2 h36 => ?_)
          obtain ⟨-, eS, eM⟩ := h36; subst eS; subst eM
          refine gj_istore_n (q := 69) (gj_dk okX6_readFit 38 rfl) (by decide) rfl ?_
          refine gj_aload_n (q := 70) (gj_dk okX6_readFit 39 rfl) rfl rfl ?_
          refine gj_callV (q := 73) (z := 10) (ci := 6) [] rfl (w_X6_scan hst w17  ) (gj_dk okX6_readFit 40 rfl) ml_X6_48 me_X6_scan (sh10 hst) rfl (gj_nm rfl) rfl (gj_kV fun S2 M2 h39 => ?_)
          obtain ⟨px40, eS, w42⟩ := h39; subst eS
          revert px40 w42; generalize M2 = M43; intro px40 w42
          refine gj_aload_n (q := 74) (gj_dk okX6_readFit 41 rfl) rfl rfl ?_
          refine gj_gR (q := 77) (j := 4) (gj_dk okX6_readFit 42 rfl) ff_X6_19 (sh10 hst) (by decide) rfl (rf10_4 hst) rfl ?_
          refine gj_iload_n (q := 78) (gj_dk okX6_readFit 43 rfl) rfl rfl ?_
          refine gj_iconst (q := 79) (gj_dk okX6_readFit 44 rfl) (by decide) rfl ?_
          refine gj_callS (q := 82) [jR 13, jI x37, jI 1] rfl (c_X7_mark (sh13 hst) (by decide) (by decide) _ _ (by first | decide | assumption | omega)) (gj_dk okX6_readFit 45 rfl) ml_X6_175 me_X7_mark (gj_nm rfl) rfl (gj_kV fun S2 M2 h44 => ?_)
          obtain ⟨eS, eM⟩ := h44; subst eS
          have w47 : w_CW M0 M2 := by rw [← eM]; exact w_CW.put w42 (by decide) (by decide)
          clear eM
          revert w47; generalize M2 = M48; intro w47
          refine gj_aload_n (q := 83) (gj_dk okX6_readFit 46 rfl) rfl rfl ?_
          refine gj_iconst (q := 84) (gj_dk okX6_readFit 47 rfl) (by decide) rfl ?_
          refine gj_bipush (q := 86) (gj_dk okX6_readFit 48 rfl) (by decide) rfl rfl ?_
          refine gj_callV (q := 89) (z := 10) (ci := 6) [jI 0, jI 16] rfl (w_X6_takeNumber hst w47  _ _) (gj_dk okX6_readFit 49 rfl) ml_X6_145 me_X6_takeNumber (sh10 hst) rfl (gj_nm rfl) rfl (gj_kI fun x50 S2 M2 h49 => ?_)
          obtain ⟨bx50, px50, eS, w52⟩ := h49; subst eS
          revert px50 w52; generalize M2 = M53; intro px50 w52
          refine gj_if_ne (q := 92) (tgt := 94) (gj_dk okX6_readFit 50 rfl) (by decide) rfl (fun c89 => ?_) (fun c89 => ?_)
          · -- 94
            refine gj_aload_n (q := 95) (gj_dk okX6_readFit 53 rfl) rfl rfl ?_
            refine gj_gR (q := 98) (j := 1) (gj_dk okX6_readFit 54 rfl) ff_X6_26 (sh10 hst) (by decide) rfl (rf10_1 hst) rfl ?_
            refine gj_gR (q := 101) (j := 14) (gj_dk okX6_readFit 55 rfl) ff_X6_191 (sh3 hst) (by decide) rfl (rf3_14 hst) rfl ?_
            refine gj_iload_n (q := 102) (gj_dk okX6_readFit 56 rfl) rfl rfl ?_
            refine gj_aload_n (q := 103) (gj_dk okX6_readFit 57 rfl) rfl rfl ?_
            refine gj_gI (q := 106) (j := 9) (gj_dk okX6_readFit 58 rfl) ff_X6_152 (sh10 hst) (by decide) rfl rfl ?_
            refine gj_callS (q := 109) [jR 8, jI x37, jI (M53 10 9)] rfl (c_X7_put (sh8 hst) (by decide) (by decide) _ _) (gj_dk okX6_readFit 59 rfl) ml_X6_155 me_X7_put (gj_nm rfl) rfl (gj_kV fun S2 M2 h54 => ?_)
            obtain ⟨eS, eM⟩ := h54; subst eS
            have w57 : w_CW M0 M2 := by rw [← eM]; exact w_CW.put w52 (by decide) (by decide)
            clear eM
            revert w57; generalize M2 = M58; intro w57
            refine gj_aload_n (q := 110) (gj_dk okX6_readFit 60 rfl) rfl rfl ?_
            refine gj_callV (q := 113) (z := 10) (ci := 6) [] rfl (w_X6_takeStop hst w57  ) (gj_dk okX6_readFit 61 rfl) ml_X6_159 me_X6_takeStop (sh10 hst) rfl (gj_nm rfl) rfl (gj_kI fun x60 S2 M2 h59 => ?_)
            obtain ⟨bx60, eS, w62⟩ := h59; subst eS
            revert w62; generalize M2 = M63; intro w62
            exact gj_zret (gj_dk okX6_readFit 62 rfl) rfl (by first | decide | assumption | omega) ⟨_, rfl, (by first | decide | assumption | omega), rfl, w62⟩
          · -- 92
            refine gj_iconst (q := 93) (gj_dk okX6_readFit 51 rfl) (by decide) rfl ?_
            exact gj_zret (gj_dk okX6_readFit 52 rfl) rfl (by first | decide | assumption | omega) ⟨_, rfl, (by first | decide | assumption | omega), rfl, w52⟩
        · -- 61
          refine gj_iconst (q := 62) (gj_dk okX6_readFit 33 rfl) (by decide) rfl ?_
          exact gj_zret (gj_dk okX6_readFit 34 rfl) rfl (by first | decide | assumption | omega) ⟨_, rfl, (by first | decide | assumption | omega), rfl, w17⟩
    · -- 23
      refine gj_iconst (q := 24) (gj_dk okX6_readFit 13 rfl) (by decide) rfl ?_
      exact gj_zret (gj_dk okX6_readFit 14 rfl) rfl (by first | decide | assumption | omega) ⟨_, rfl, (by first | decide | assumption | omega), rfl, w4⟩

set_option maxHeartbeats 4000000 in
set_option maxRecDepth 20000 in
theorem w_X6_firstTold (hst : gj_Stat S) (h : w_CW M0 M) (a1 : Int)  : gj_C G l 4 0 0 yX6_firstTold cX6_firstTold 2 (some .boolean) [jR 10, jI a1] S M (gj_qI fun x S' M' => (x = 0 ∨ x = 1) ∧ S = S' ∧ w_CW M0 M') := by
  refine gj_Cof (by decide +kernel) (Nat.le_of_ble_eq_true rfl) ?_
  change gj_W G l 4 0 0 yX6_firstTold cX6_firstTold 2 (some .boolean) (gj_qI fun x S' M' => (x = 0 ∨ x = 1) ∧ S = S' ∧ w_CW M0 M') 0 0 0 [(0, jR 10), (1, jI a1)] [] S M
  refine gj_aload_n (q := 1) (gj_dk okX6_firstTold 0 rfl) rfl rfl ?_
  refine gj_gI (q := 4) (j := 5) (gj_dk okX6_firstTold 1 rfl) ff_X6_35 (sh10 hst) (by decide) rfl rfl ?_
  refine gj_iload_n (q := 5) (gj_dk okX6_firstTold 2 rfl) rfl rfl ?_
  refine gj_iand (q := 6) (gj_dk okX6_firstTold 3 rfl) rfl ?_
  refine gj_if_eq (q := 9) (tgt := 11) (gj_dk okX6_firstTold 4 rfl) (by decide) rfl (fun c6 => ?_) (fun c6 => ?_)
  · -- 11
    refine gj_aload_n (q := 12) (gj_dk okX6_firstTold 7 rfl) rfl rfl ?_
    refine gj_dup (q := 13) (gj_dk okX6_firstTold 8 rfl) rfl rfl ?_
    refine gj_gI (q := 16) (j := 5) (gj_dk okX6_firstTold 9 rfl) ff_X6_35 (sh10 hst) (by decide) rfl rfl ?_
    refine gj_iload_n (q := 17) (gj_dk okX6_firstTold 10 rfl) rfl rfl ?_
    refine gj_ior (q := 18) (gj_dk okX6_firstTold 11 rfl) rfl ?_
    refine gj_pfI (q := 21) (j := 5) (gj_dk okX6_firstTold 12 rfl) ff_X6_35 (sh10 hst) (by decide) rfl rfl ?_
    refine gj_abs (fun M1 e3 => ?_)
    have w2 : w_CW M0 M1 := by rw [e3]; exact h.up (by decide) rfl
    clear e3
    refine gj_aload_n (q := 22) (gj_dk okX6_firstTold 13 rfl) rfl rfl ?_
    refine gj_callV (q := 25) (z := 10) (ci := 6) [] rfl (w_X6_scan hst w2  ) (gj_dk okX6_firstTold 14 rfl) ml_X6_48 me_X6_scan (sh10 hst) rfl (gj_nm rfl) rfl (gj_kV fun S2 M2 h4 => ?_)
    obtain ⟨px5, eS, w7⟩ := h4; subst eS
    revert px5 w7; generalize M2 = M8; intro px5 w7
    refine gj_iconst (q := 26) (gj_dk okX6_firstTold 15 rfl) (by decide) rfl ?_
    exact gj_zret (gj_dk okX6_firstTold 16 rfl) rfl (by first | decide | assumption | omega) ⟨_, rfl, (by first | decide | assumption | omega), rfl, w7⟩
  · -- 9
    refine gj_iconst (q := 10) (gj_dk okX6_firstTold 5 rfl) (by decide) rfl ?_
    exact gj_zret (gj_dk okX6_firstTold 6 rfl) rfl (by first | decide | assumption | omega) ⟨_, rfl, (by first | decide | assumption | omega), rfl, h⟩

set_option maxHeartbeats 4000000 in
set_option maxRecDepth 20000 in
theorem w_X6_readWorth (hst : gj_Stat S) (h : w_CW M0 M)   : gj_C G l 5 0 0 yX6_readWorth cX6_readWorth 1 (some .boolean) [jR 10] S M (gj_qI fun x S' M' => (x = 0 ∨ x = 1) ∧ S = S' ∧ w_CW M0 M') := by
  refine gj_Cof (by decide +kernel) (Nat.le_of_ble_eq_true rfl) ?_
  change gj_W G l 5 0 0 yX6_readWorth cX6_readWorth 1 (some .boolean) (gj_qI fun x S' M' => (x = 0 ∨ x = 1) ∧ S = S' ∧ w_CW M0 M') 0 0 0 [(0, jR 10)] [] S M
  refine gj_aload_n (q := 1) (gj_dk okX6_readWorth 0 rfl) rfl rfl ?_
  refine gj_iconst (q := 2) (gj_dk okX6_readWorth 1 rfl) (by decide) rfl ?_
  refine gj_callV (q := 5) (z := 10) (ci := 6) [jI 1] rfl (w_X6_firstTold hst h  _) (gj_dk okX6_readWorth 2 rfl) ml_X6_193 me_X6_firstTold (sh10 hst) rfl (gj_nm rfl) rfl (gj_kI fun x2 S2 M2 h1 => ?_)
  obtain ⟨bx2, eS, w4⟩ := h1; subst eS
  revert w4; generalize M2 = M5; intro w4
  refine gj_if_eq (q := 8) (tgt := 18) (gj_dk okX6_readWorth 3 rfl) (by decide) rfl (fun c5 => ?_) (fun c5 => ?_)
  · -- 18
    refine gj_iconst (q := 19) (gj_dk okX6_readWorth 9 rfl) (by decide) rfl ?_
    exact gj_zret (gj_dk okX6_readWorth 10 rfl) rfl (by first | decide | assumption | omega) ⟨_, rfl, (by first | decide | assumption | omega), rfl, w4⟩
  · -- 8
    refine gj_aload_n (q := 9) (gj_dk okX6_readWorth 4 rfl) rfl rfl ?_
    refine gj_iconst (q := 10) (gj_dk okX6_readWorth 5 rfl) (by decide) rfl ?_
    refine gj_bipush (q := 12) (gj_dk okX6_readWorth 6 rfl) (by decide) rfl rfl ?_
    refine gj_callV (q := 15) (z := 10) (ci := 6) [jI 0, jI 99] rfl (w_X6_takeNumber hst w4  _ _) (gj_dk okX6_readWorth 7 rfl) ml_X6_145 me_X6_takeNumber (sh10 hst) rfl (gj_nm rfl) rfl (gj_kI fun x7 S2 M2 h6 => ?_)
    obtain ⟨bx7, px7, eS, w9⟩ := h6; subst eS
    revert px7 w9; generalize M2 = M10; intro px7 w9
    refine gj_if_ne (q := 18) (tgt := 20) (gj_dk okX6_readWorth 8 rfl) (by decide) rfl (fun c15 => ?_) (fun c15 => ?_)
    · -- 20
      refine gj_aload_n (q := 21) (gj_dk okX6_readWorth 11 rfl) rfl rfl ?_
      refine gj_gR (q := 24) (j := 1) (gj_dk okX6_readWorth 12 rfl) ff_X6_26 (sh10 hst) (by decide) rfl (rf10_1 hst) rfl ?_
      refine gj_aload_n (q := 25) (gj_dk okX6_readWorth 13 rfl) rfl rfl ?_
      refine gj_gI (q := 28) (j := 9) (gj_dk okX6_readWorth 14 rfl) ff_X6_152 (sh10 hst) (by decide) rfl rfl ?_
      refine gj_pfI (q := 31) (j := 2) (gj_dk okX6_readWorth 15 rfl) ff_X6_196 (sh3 hst) (by decide) rfl rfl ?_
      refine gj_abs (fun M11 e13 => ?_)
      have w12 : w_CW M0 M11 := by rw [e13]; exact w9.up (by decide) rfl
      clear e13
      refine gj_aload_n (q := 32) (gj_dk okX6_readWorth 16 rfl) rfl rfl ?_
      refine gj_iconst (q := 33) (gj_dk okX6_readWorth 17 rfl) (by decide) rfl ?_
      refine gj_bipush (q := 35) (gj_dk okX6_readWorth 18 rfl) (by decide) rfl rfl ?_
      refine gj_callV (q := 38) (z := 10) (ci := 6) [jI 0, jI 99] rfl (w_X6_takeNumber hst w12  _ _) (gj_dk okX6_readWorth 19 rfl) ml_X6_145 me_X6_takeNumber (sh10 hst) rfl (gj_nm rfl) rfl (gj_kI fun x15 S2 M2 h14 => ?_)
      obtain ⟨bx15, px15, eS, w17⟩ := h14; subst eS
      revert px15 w17; generalize M2 = M18; intro px15 w17
      refine gj_if_ne (q := 41) (tgt := 43) (gj_dk okX6_readWorth 20 rfl) (by decide) rfl (fun c38 => ?_) (fun c38 => ?_)
      · -- 43
        refine gj_aload_n (q := 44) (gj_dk okX6_readWorth 23 rfl) rfl rfl ?_
        refine gj_gR (q := 47) (j := 1) (gj_dk okX6_readWorth 24 rfl) ff_X6_26 (sh10 hst) (by decide) rfl (rf10_1 hst) rfl ?_
        refine gj_aload_n (q := 48) (gj_dk okX6_readWorth 25 rfl) rfl rfl ?_
        refine gj_gI (q := 51) (j := 9) (gj_dk okX6_readWorth 26 rfl) ff_X6_152 (sh10 hst) (by decide) rfl rfl ?_
        refine gj_pfI (q := 54) (j := 3) (gj_dk okX6_readWorth 27 rfl) ff_X6_199 (sh3 hst) (by decide) rfl rfl ?_
        refine gj_abs (fun M19 e21 => ?_)
        have w20 : w_CW M0 M19 := by rw [e21]; exact w17.up (by decide) rfl
        clear e21
        refine gj_aload_n (q := 55) (gj_dk okX6_readWorth 28 rfl) rfl rfl ?_
        refine gj_callV (q := 58) (z := 10) (ci := 6) [] rfl (w_X6_takeStop hst w20  ) (gj_dk okX6_readWorth 29 rfl) ml_X6_159 me_X6_takeStop (sh10 hst) rfl (gj_nm rfl) rfl (gj_kI fun x23 S2 M2 h22 => ?_)
        obtain ⟨bx23, eS, w25⟩ := h22; subst eS
        revert w25; generalize M2 = M26; intro w25
        exact gj_zret (gj_dk okX6_readWorth 30 rfl) rfl (by first | decide | assumption | omega) ⟨_, rfl, (by first | decide | assumption | omega), rfl, w25⟩
      · -- 41
        refine gj_iconst (q := 42) (gj_dk okX6_readWorth 21 rfl) (by decide) rfl ?_
        exact gj_zret (gj_dk okX6_readWorth 22 rfl) rfl (by first | decide | assumption | omega) ⟨_, rfl, (by first | decide | assumption | omega), rfl, w17⟩
    · -- 18
      refine gj_iconst (q := 19) (gj_dk okX6_readWorth 9 rfl) (by decide) rfl ?_
      exact gj_zret (gj_dk okX6_readWorth 10 rfl) rfl (by first | decide | assumption | omega) ⟨_, rfl, (by first | decide | assumption | omega), rfl, w9⟩

set_option maxHeartbeats 4000000 in
set_option maxRecDepth 20000 in
theorem w_X6_readHouse (hst : gj_Stat S) (h : w_CW M0 M)   : gj_C G l 5 0 0 yX6_readHouse cX6_readHouse 1 (some .boolean) [jR 10] S M (gj_qI fun x S' M' => (x = 0 ∨ x = 1) ∧ S = S' ∧ w_CW M0 M') := by
  refine gj_Cof (by decide +kernel) (Nat.le_of_ble_eq_true rfl) ?_
  change gj_W G l 5 0 0 yX6_readHouse cX6_readHouse 1 (some .boolean) (gj_qI fun x S' M' => (x = 0 ∨ x = 1) ∧ S = S' ∧ w_CW M0 M') 0 0 0 [(0, jR 10)] [] S M
  refine gj_aload_n (q := 1) (gj_dk okX6_readHouse 0 rfl) rfl rfl ?_
  refine gj_iconst (q := 2) (gj_dk okX6_readHouse 1 rfl) (by decide) rfl ?_
  refine gj_callV (q := 5) (z := 10) (ci := 6) [jI 2] rfl (w_X6_firstTold hst h  _) (gj_dk okX6_readHouse 2 rfl) ml_X6_193 me_X6_firstTold (sh10 hst) rfl (gj_nm rfl) rfl (gj_kI fun x2 S2 M2 h1 => ?_)
  obtain ⟨bx2, eS, w4⟩ := h1; subst eS
  revert w4; generalize M2 = M5; intro w4
  refine gj_if_eq (q := 8) (tgt := 18) (gj_dk okX6_readHouse 3 rfl) (by decide) rfl (fun c5 => ?_) (fun c5 => ?_)
  · -- 18
    refine gj_iconst (q := 19) (gj_dk okX6_readHouse 9 rfl) (by decide) rfl ?_
    exact gj_zret (gj_dk okX6_readHouse 10 rfl) rfl (by first | decide | assumption | omega) ⟨_, rfl, (by first | decide | assumption | omega), rfl, w4⟩
  · -- 8
    refine gj_aload_n (q := 9) (gj_dk okX6_readHouse 4 rfl) rfl rfl ?_
    refine gj_iconst (q := 10) (gj_dk okX6_readHouse 5 rfl) (by decide) rfl ?_
    refine gj_bipush (q := 12) (gj_dk okX6_readHouse 6 rfl) (by decide) rfl rfl ?_
    refine gj_callV (q := 15) (z := 10) (ci := 6) [jI 1, jI 9] rfl (w_X6_takeNumber hst w4  _ _) (gj_dk okX6_readHouse 7 rfl) ml_X6_145 me_X6_takeNumber (sh10 hst) rfl (gj_nm rfl) rfl (gj_kI fun x7 S2 M2 h6 => ?_)
    obtain ⟨bx7, px7, eS, w9⟩ := h6; subst eS
    revert px7 w9; generalize M2 = M10; intro px7 w9
    refine gj_if_ne (q := 18) (tgt := 20) (gj_dk okX6_readHouse 8 rfl) (by decide) rfl (fun c15 => ?_) (fun c15 => ?_)
    · -- 20
      refine gj_aload_n (q := 21) (gj_dk okX6_readHouse 11 rfl) rfl rfl ?_
      refine gj_gR (q := 24) (j := 1) (gj_dk okX6_readHouse 12 rfl) ff_X6_26 (sh10 hst) (by decide) rfl (rf10_1 hst) rfl ?_
      refine gj_aload_n (q := 25) (gj_dk okX6_readHouse 13 rfl) rfl rfl ?_
      refine gj_gI (q := 28) (j := 9) (gj_dk okX6_readHouse 14 rfl) ff_X6_152 (sh10 hst) (by decide) rfl rfl ?_
      refine gj_pfI (q := 31) (j := 4) (gj_dk okX6_readHouse 15 rfl) ff_X6_202 (sh3 hst) (by decide) rfl rfl ?_
      refine gj_abs (fun M11 e13 => ?_)
      have w12 : w_CW M0 M11 := by rw [e13]; exact w9.up (by decide) rfl
      clear e13
      refine gj_aload_n (q := 32) (gj_dk okX6_readHouse 16 rfl) rfl rfl ?_
      refine gj_iconst (q := 33) (gj_dk okX6_readHouse 17 rfl) (by decide) rfl ?_
      refine gj_bipush (q := 35) (gj_dk okX6_readHouse 18 rfl) (by decide) rfl rfl ?_
      refine gj_callV (q := 38) (z := 10) (ci := 6) [jI 0, jI 99] rfl (w_X6_takeNumber hst w12  _ _) (gj_dk okX6_readHouse 19 rfl) ml_X6_145 me_X6_takeNumber (sh10 hst) rfl (gj_nm rfl) rfl (gj_kI fun x15 S2 M2 h14 => ?_)
      obtain ⟨bx15, px15, eS, w17⟩ := h14; subst eS
      revert px15 w17; generalize M2 = M18; intro px15 w17
      refine gj_if_ne (q := 41) (tgt := 43) (gj_dk okX6_readHouse 20 rfl) (by decide) rfl (fun c38 => ?_) (fun c38 => ?_)
      · -- 43
        refine gj_aload_n (q := 44) (gj_dk okX6_readHouse 23 rfl) rfl rfl ?_
        refine gj_gR (q := 47) (j := 1) (gj_dk okX6_readHouse 24 rfl) ff_X6_26 (sh10 hst) (by decide) rfl (rf10_1 hst) rfl ?_
        refine gj_aload_n (q := 48) (gj_dk okX6_readHouse 25 rfl) rfl rfl ?_
        refine gj_gI (q := 51) (j := 9) (gj_dk okX6_readHouse 26 rfl) ff_X6_152 (sh10 hst) (by decide) rfl rfl ?_
        refine gj_pfI (q := 54) (j := 5) (gj_dk okX6_readHouse 27 rfl) ff_X6_205 (sh3 hst) (by decide) rfl rfl ?_
        refine gj_abs (fun M19 e21 => ?_)
        have w20 : w_CW M0 M19 := by rw [e21]; exact w17.up (by decide) rfl
        clear e21
        refine gj_aload_n (q := 55) (gj_dk okX6_readHouse 28 rfl) rfl rfl ?_
        refine gj_callV (q := 58) (z := 10) (ci := 6) [] rfl (w_X6_takeStop hst w20  ) (gj_dk okX6_readHouse 29 rfl) ml_X6_159 me_X6_takeStop (sh10 hst) rfl (gj_nm rfl) rfl (gj_kI fun x23 S2 M2 h22 => ?_)
        obtain ⟨bx23, eS, w25⟩ := h22; subst eS
        revert w25; generalize M2 = M26; intro w25
        exact gj_zret (gj_dk okX6_readHouse 30 rfl) rfl (by first | decide | assumption | omega) ⟨_, rfl, (by first | decide | assumption | omega), rfl, w25⟩
      · -- 41
        refine gj_iconst (q := 42) (gj_dk okX6_readHouse 21 rfl) (by decide) rfl ?_
        exact gj_zret (gj_dk okX6_readHouse 22 rfl) rfl (by first | decide | assumption | omega) ⟨_, rfl, (by first | decide | assumption | omega), rfl, w17⟩
    · -- 18
      refine gj_iconst (q := 19) (gj_dk okX6_readHouse 9 rfl) (by decide) rfl ?_
      exact gj_zret (gj_dk okX6_readHouse 10 rfl) rfl (by first | decide | assumption | omega) ⟨_, rfl, (by first | decide | assumption | omega), rfl, w9⟩

set_option maxHeartbeats 4000000 in
set_option maxRecDepth 20000 in
theorem w_X6_readChild (hst : gj_Stat S) (h : w_CW M0 M)   : gj_C G l 5 0 0 yX6_readChild cX6_readChild 1 (some .boolean) [jR 10] S M (gj_qI fun x S' M' => (x = 0 ∨ x = 1) ∧ S = S' ∧ w_CW M0 M') := by
  refine gj_Cof (by decide +kernel) (Nat.le_of_ble_eq_true rfl) ?_
  change gj_W G l 5 0 0 yX6_readChild cX6_readChild 1 (some .boolean) (gj_qI fun x S' M' => (x = 0 ∨ x = 1) ∧ S = S' ∧ w_CW M0 M') 0 0 0 [(0, jR 10)] [] S M
  refine gj_aload_n (q := 1) (gj_dk okX6_readChild 0 rfl) rfl rfl ?_
  refine gj_iconst (q := 2) (gj_dk okX6_readChild 1 rfl) (by decide) rfl ?_
  refine gj_callV (q := 5) (z := 10) (ci := 6) [jI 4] rfl (w_X6_firstTold hst h  _) (gj_dk okX6_readChild 2 rfl) ml_X6_193 me_X6_firstTold (sh10 hst) rfl (gj_nm rfl) rfl (gj_kI fun x2 S2 M2 h1 => ?_)
  obtain ⟨bx2, eS, w4⟩ := h1; subst eS
  revert w4; generalize M2 = M5; intro w4
  refine gj_if_eq (q := 8) (tgt := 18) (gj_dk okX6_readChild 3 rfl) (by decide) rfl (fun c5 => ?_) (fun c5 => ?_)
  · -- 18
    refine gj_iconst (q := 19) (gj_dk okX6_readChild 9 rfl) (by decide) rfl ?_
    exact gj_zret (gj_dk okX6_readChild 10 rfl) rfl (by first | decide | assumption | omega) ⟨_, rfl, (by first | decide | assumption | omega), rfl, w4⟩
  · -- 8
    refine gj_aload_n (q := 9) (gj_dk okX6_readChild 4 rfl) rfl rfl ?_
    refine gj_iconst (q := 10) (gj_dk okX6_readChild 5 rfl) (by decide) rfl ?_
    refine gj_bipush (q := 12) (gj_dk okX6_readChild 6 rfl) (by decide) rfl rfl ?_
    refine gj_callV (q := 15) (z := 10) (ci := 6) [jI 0, jI 16] rfl (w_X6_takeNumber hst w4  _ _) (gj_dk okX6_readChild 7 rfl) ml_X6_145 me_X6_takeNumber (sh10 hst) rfl (gj_nm rfl) rfl (gj_kI fun x7 S2 M2 h6 => ?_)
    obtain ⟨bx7, px7, eS, w9⟩ := h6; subst eS
    revert px7 w9; generalize M2 = M10; intro px7 w9
    refine gj_if_ne (q := 18) (tgt := 20) (gj_dk okX6_readChild 8 rfl) (by decide) rfl (fun c15 => ?_) (fun c15 => ?_)
    · -- 20
      refine gj_aload_n (q := 21) (gj_dk okX6_readChild 11 rfl) rfl rfl ?_
      refine gj_gR (q := 24) (j := 1) (gj_dk okX6_readChild 12 rfl) ff_X6_26 (sh10 hst) (by decide) rfl (rf10_1 hst) rfl ?_
      refine gj_aload_n (q := 25) (gj_dk okX6_readChild 13 rfl) rfl rfl ?_
      refine gj_gI (q := 28) (j := 9) (gj_dk okX6_readChild 14 rfl) ff_X6_152 (sh10 hst) (by decide) rfl rfl ?_
      refine gj_pfI (q := 31) (j := 6) (gj_dk okX6_readChild 15 rfl) ff_X6_207 (sh3 hst) (by decide) rfl rfl ?_
      refine gj_abs (fun M11 e13 => ?_)
      have w12 : w_CW M0 M11 := by rw [e13]; exact w9.up (by decide) rfl
      clear e13
      refine gj_aload_n (q := 32) (gj_dk okX6_readChild 16 rfl) rfl rfl ?_
      refine gj_iconst (q := 33) (gj_dk okX6_readChild 17 rfl) (by decide) rfl ?_
      refine gj_bipush (q := 35) (gj_dk okX6_readChild 18 rfl) (by decide) rfl rfl ?_
      refine gj_callV (q := 38) (z := 10) (ci := 6) [jI 0, jI 99] rfl (w_X6_takeNumber hst w12  _ _) (gj_dk okX6_readChild 19 rfl) ml_X6_145 me_X6_takeNumber (sh10 hst) rfl (gj_nm rfl) rfl (gj_kI fun x15 S2 M2 h14 => ?_)
      obtain ⟨bx15, px15, eS, w17⟩ := h14; subst eS
      revert px15 w17; generalize M2 = M18; intro px15 w17
      refine gj_if_ne (q := 41) (tgt := 43) (gj_dk okX6_readChild 20 rfl) (by decide) rfl (fun c38 => ?_) (fun c38 => ?_)
      · -- 43
        refine gj_aload_n (q := 44) (gj_dk okX6_readChild 23 rfl) rfl rfl ?_
        refine gj_gR (q := 47) (j := 1) (gj_dk okX6_readChild 24 rfl) ff_X6_26 (sh10 hst) (by decide) rfl (rf10_1 hst) rfl ?_
        refine gj_aload_n (q := 48) (gj_dk okX6_readChild 25 rfl) rfl rfl ?_
        refine gj_gI (q := 51) (j := 9) (gj_dk okX6_readChild 26 rfl) ff_X6_152 (sh10 hst) (by decide) rfl rfl ?_
        refine gj_pfI (q := 54) (j := 7) (gj_dk okX6_readChild 27 rfl) ff_X6_210 (sh3 hst) (by decide) rfl rfl ?_
        refine gj_abs (fun M19 e21 => ?_)
        have w20 : w_CW M0 M19 := by rw [e21]; exact w17.up (by decide) rfl
        clear e21
        refine gj_aload_n (q := 55) (gj_dk okX6_readChild 28 rfl) rfl rfl ?_
        refine gj_callV (q := 58) (z := 10) (ci := 6) [] rfl (w_X6_takeStop hst w20  ) (gj_dk okX6_readChild 29 rfl) ml_X6_159 me_X6_takeStop (sh10 hst) rfl (gj_nm rfl) rfl (gj_kI fun x23 S2 M2 h22 => ?_)
        obtain ⟨bx23, eS, w25⟩ := h22; subst eS
        revert w25; generalize M2 = M26; intro w25
        exact gj_zret (gj_dk okX6_readChild 30 rfl) rfl (by first | decide | assumption | omega) ⟨_, rfl, (by first | decide | assumption | omega), rfl, w25⟩
      · -- 41
        refine gj_iconst (q := 42) (gj_dk okX6_readChild 21 rfl) (by decide) rfl ?_
        exact gj_zret (gj_dk okX6_readChild 22 rfl) rfl (by first | decide | assumption | omega) ⟨_, rfl, (by first | decide | assumption | omega), rfl, w17⟩
    · -- 18
      refine gj_iconst (q := 19) (gj_dk okX6_readChild 9 rfl) (by decide) rfl ?_
      exact gj_zret (gj_dk okX6_readChild 10 rfl) rfl (by first | decide | assumption | omega) ⟨_, rfl, (by first | decide | assumption | omega), rfl, w9⟩

set_option maxHeartbeats 4000000 in
set_option maxRecDepth 20000 in
theorem w_X6_readCow (hst : gj_Stat S) (h : w_CW M0 M)   : gj_C G l 5 0 0 yX6_readCow cX6_readCow 1 (some .boolean) [jR 10] S M (gj_qI fun x S' M' => (x = 0 ∨ x = 1) ∧ S = S' ∧ w_CW M0 M') := by
  refine gj_Cof (by decide +kernel) (Nat.le_of_ble_eq_true rfl) ?_
  change gj_W G l 5 0 0 yX6_readCow cX6_readCow 1 (some .boolean) (gj_qI fun x S' M' => (x = 0 ∨ x = 1) ∧ S = S' ∧ w_CW M0 M') 0 0 0 [(0, jR 10)] [] S M
  refine gj_aload_n (q := 1) (gj_dk okX6_readCow 0 rfl) rfl rfl ?_
  refine gj_bipush (q := 3) (gj_dk okX6_readCow 1 rfl) (by decide) rfl rfl ?_
  refine gj_callV (q := 6) (z := 10) (ci := 6) [jI 8] rfl (w_X6_firstTold hst h  _) (gj_dk okX6_readCow 2 rfl) ml_X6_193 me_X6_firstTold (sh10 hst) rfl (gj_nm rfl) rfl (gj_kI fun x2 S2 M2 h1 => ?_)
  obtain ⟨bx2, eS, w4⟩ := h1; subst eS
  revert w4; generalize M2 = M5; intro w4
  refine gj_if_eq (q := 9) (tgt := 20) (gj_dk okX6_readCow 3 rfl) (by decide) rfl (fun c6 => ?_) (fun c6 => ?_)
  · -- 20
    refine gj_iconst (q := 21) (gj_dk okX6_readCow 9 rfl) (by decide) rfl ?_
    exact gj_zret (gj_dk okX6_readCow 10 rfl) rfl (by first | decide | assumption | omega) ⟨_, rfl, (by first | decide | assumption | omega), rfl, w4⟩
  · -- 9
    refine gj_aload_n (q := 10) (gj_dk okX6_readCow 4 rfl) rfl rfl ?_
    refine gj_iconst (q := 11) (gj_dk okX6_readCow 5 rfl) (by decide) rfl ?_
    refine gj_sipush (q := 14) (gj_dk okX6_readCow 6 rfl) (by decide) rfl rfl ?_
    refine gj_callV (q := 17) (z := 10) (ci := 6) [jI 0, jI 999] rfl (w_X6_takeNumber hst w4  _ _) (gj_dk okX6_readCow 7 rfl) ml_X6_145 me_X6_takeNumber (sh10 hst) rfl (gj_nm rfl) rfl (gj_kI fun x7 S2 M2 h6 => ?_)
    obtain ⟨bx7, px7, eS, w9⟩ := h6; subst eS
    revert px7 w9; generalize M2 = M10; intro px7 w9
    refine gj_if_ne (q := 20) (tgt := 22) (gj_dk okX6_readCow 8 rfl) (by decide) rfl (fun c17 => ?_) (fun c17 => ?_)
    · -- 22
      refine gj_aload_n (q := 23) (gj_dk okX6_readCow 11 rfl) rfl rfl ?_
      refine gj_gR (q := 26) (j := 1) (gj_dk okX6_readCow 12 rfl) ff_X6_26 (sh10 hst) (by decide) rfl (rf10_1 hst) rfl ?_
      refine gj_aload_n (q := 27) (gj_dk okX6_readCow 13 rfl) rfl rfl ?_
      refine gj_gI (q := 30) (j := 9) (gj_dk okX6_readCow 14 rfl) ff_X6_152 (sh10 hst) (by decide) rfl rfl ?_
      refine gj_pfI (q := 33) (j := 8) (gj_dk okX6_readCow 15 rfl) ff_X6_212 (sh3 hst) (by decide) rfl rfl ?_
      refine gj_abs (fun M11 e13 => ?_)
      have w12 : w_CW M0 M11 := by rw [e13]; exact w9.up (by decide) rfl
      clear e13
      refine gj_aload_n (q := 34) (gj_dk okX6_readCow 16 rfl) rfl rfl ?_
      refine gj_callV (q := 37) (z := 10) (ci := 6) [] rfl (w_X6_takeStop hst w12  ) (gj_dk okX6_readCow 17 rfl) ml_X6_159 me_X6_takeStop (sh10 hst) rfl (gj_nm rfl) rfl (gj_kI fun x15 S2 M2 h14 => ?_)
      obtain ⟨bx15, eS, w17⟩ := h14; subst eS
      revert w17; generalize M2 = M18; intro w17
      exact gj_zret (gj_dk okX6_readCow 18 rfl) rfl (by first | decide | assumption | omega) ⟨_, rfl, (by first | decide | assumption | omega), rfl, w17⟩
    · -- 20
      refine gj_iconst (q := 21) (gj_dk okX6_readCow 9 rfl) (by decide) rfl ?_
      exact gj_zret (gj_dk okX6_readCow 10 rfl) rfl (by first | decide | assumption | omega) ⟨_, rfl, (by first | decide | assumption | omega), rfl, w9⟩

set_option maxHeartbeats 4000000 in
set_option maxRecDepth 20000 in
theorem w_X6_readAhead (hst : gj_Stat S) (h : w_CW M0 M)   : gj_C G l 5 0 0 yX6_readAhead cX6_readAhead 1 (some .boolean) [jR 10] S M (gj_qI fun x S' M' => (x = 0 ∨ x = 1) ∧ S = S' ∧ w_CW M0 M') := by
  refine gj_Cof (by decide +kernel) (Nat.le_of_ble_eq_true rfl) ?_
  change gj_W G l 5 0 0 yX6_readAhead cX6_readAhead 1 (some .boolean) (gj_qI fun x S' M' => (x = 0 ∨ x = 1) ∧ S = S' ∧ w_CW M0 M') 0 0 0 [(0, jR 10)] [] S M
  refine gj_aload_n (q := 1) (gj_dk okX6_readAhead 0 rfl) rfl rfl ?_
  refine gj_bipush (q := 3) (gj_dk okX6_readAhead 1 rfl) (by decide) rfl rfl ?_
  refine gj_callV (q := 6) (z := 10) (ci := 6) [jI 16] rfl (w_X6_firstTold hst h  _) (gj_dk okX6_readAhead 2 rfl) ml_X6_193 me_X6_firstTold (sh10 hst) rfl (gj_nm rfl) rfl (gj_kI fun x2 S2 M2 h1 => ?_)
  obtain ⟨bx2, eS, w4⟩ := h1; subst eS
  revert w4; generalize M2 = M5; intro w4
  refine gj_if_eq (q := 9) (tgt := 18) (gj_dk okX6_readAhead 3 rfl) (by decide) rfl (fun c6 => ?_) (fun c6 => ?_)
  · -- 18
    refine gj_iconst (q := 19) (gj_dk okX6_readAhead 9 rfl) (by decide) rfl ?_
    exact gj_zret (gj_dk okX6_readAhead 10 rfl) rfl (by first | decide | assumption | omega) ⟨_, rfl, (by first | decide | assumption | omega), rfl, w4⟩
  · -- 9
    refine gj_aload_n (q := 10) (gj_dk okX6_readAhead 4 rfl) rfl rfl ?_
    refine gj_iconst (q := 11) (gj_dk okX6_readAhead 5 rfl) (by decide) rfl ?_
    refine gj_iconst (q := 12) (gj_dk okX6_readAhead 6 rfl) (by decide) rfl ?_
    refine gj_callV (q := 15) (z := 10) (ci := 6) [jI 1, jI 4] rfl (w_X6_takeNumber hst w4  _ _) (gj_dk okX6_readAhead 7 rfl) ml_X6_145 me_X6_takeNumber (sh10 hst) rfl (gj_nm rfl) rfl (gj_kI fun x7 S2 M2 h6 => ?_)
    obtain ⟨bx7, px7, eS, w9⟩ := h6; subst eS
    revert px7 w9; generalize M2 = M10; intro px7 w9
    refine gj_if_ne (q := 18) (tgt := 20) (gj_dk okX6_readAhead 8 rfl) (by decide) rfl (fun c15 => ?_) (fun c15 => ?_)
    · -- 20
      refine gj_aload_n (q := 21) (gj_dk okX6_readAhead 11 rfl) rfl rfl ?_
      refine gj_gR (q := 24) (j := 1) (gj_dk okX6_readAhead 12 rfl) ff_X6_26 (sh10 hst) (by decide) rfl (rf10_1 hst) rfl ?_
      refine gj_aload_n (q := 25) (gj_dk okX6_readAhead 13 rfl) rfl rfl ?_
      refine gj_gI (q := 28) (j := 9) (gj_dk okX6_readAhead 14 rfl) ff_X6_152 (sh10 hst) (by decide) rfl rfl ?_
      refine gj_pfI (q := 31) (j := 9) (gj_dk okX6_readAhead 15 rfl) ff_X6_214 (sh3 hst) (by decide) rfl rfl ?_
      refine gj_abs (fun M11 e13 => ?_)
      have w12 : w_CW M0 M11 := by rw [e13]; exact w_CW.upA (by decide) w9 (by omega)
      clear e13
      refine gj_aload_n (q := 32) (gj_dk okX6_readAhead 16 rfl) rfl rfl ?_
      refine gj_callV (q := 35) (z := 10) (ci := 6) [] rfl (w_X6_takeStop hst w12  ) (gj_dk okX6_readAhead 17 rfl) ml_X6_159 me_X6_takeStop (sh10 hst) rfl (gj_nm rfl) rfl (gj_kI fun x15 S2 M2 h14 => ?_)
      obtain ⟨bx15, eS, w17⟩ := h14; subst eS
      revert w17; generalize M2 = M18; intro w17
      exact gj_zret (gj_dk okX6_readAhead 18 rfl) rfl (by first | decide | assumption | omega) ⟨_, rfl, (by first | decide | assumption | omega), rfl, w17⟩
    · -- 18
      refine gj_iconst (q := 19) (gj_dk okX6_readAhead 9 rfl) (by decide) rfl ?_
      exact gj_zret (gj_dk okX6_readAhead 10 rfl) rfl (by first | decide | assumption | omega) ⟨_, rfl, (by first | decide | assumption | omega), rfl, w9⟩

set_option maxHeartbeats 4000000 in
set_option maxRecDepth 20000 in
theorem w_X6_readLine (hst : gj_Stat S) (h : w_CW M0 M)   : gj_C G l 8 0 0 yX6_readLine cX6_readLine 1 (some .boolean) [jR 10] S M (gj_qI fun x S' M' => (x = 0 ∨ x = 1) ∧ S = S' ∧ w_CW M0 M') := by
  refine gj_Cof (by decide +kernel) (Nat.le_of_ble_eq_true rfl) ?_
  change gj_W G l 8 0 0 yX6_readLine cX6_readLine 1 (some .boolean) (gj_qI fun x S' M' => (x = 0 ∨ x = 1) ∧ S = S' ∧ w_CW M0 M') 0 0 0 [(0, jR 10)] [] S M
  refine gj_aload_n (q := 1) (gj_dk okX6_readLine 0 rfl) rfl rfl ?_
  refine gj_ldc6 (q := 3) (z := -2) 0 (gj_dk okX6_readLine 1 rfl) rfl (by decide) rfl rfl rfl ?_
  refine gj_callV (q := 6) (z := 10) (ci := 6) [jR (-2)] rfl (w_X6_isWord hst (show (0 : Nat) < 9 by decide) rfl ) (gj_dk okX6_readLine 2 rfl) ml_X6_83 me_X6_isWord (sh10 hst) rfl (gj_nm rfl) rfl (gj_kI fun x2 S2 M2 h1 => ?_)
  obtain ⟨bx2, eS, eM⟩ := h1; subst eS; subst eM
  refine gj_if_eq (q := 9) (tgt := 22) (gj_dk okX6_readLine 3 rfl) (by decide) rfl (fun c6 => ?_) (fun c6 => ?_)
  · -- 22
    refine gj_aload_n (q := 23) (gj_dk okX6_readLine 11 rfl) rfl rfl ?_
    refine gj_ldc6 (q := 25) (z := -3) 1 (gj_dk okX6_readLine 12 rfl) rfl (by decide) rfl rfl rfl ?_
    refine gj_callV (q := 28) (z := 10) (ci := 6) [jR (-3)] rfl (w_X6_isWord hst (show (1 : Nat) < 9 by decide) rfl ) (gj_dk okX6_readLine 13 rfl) ml_X6_83 me_X6_isWord (sh10 hst) rfl (gj_nm rfl) rfl (gj_kI fun x6 S2 M2 h5 => ?_)
    obtain ⟨bx6, eS, eM⟩ := h5; subst eS; subst eM
    refine gj_if_eq (q := 31) (tgt := 44) (gj_dk okX6_readLine 14 rfl) (by decide) rfl (fun c28 => ?_) (fun c28 => ?_)
    · -- 44
      refine gj_aload_n (q := 45) (gj_dk okX6_readLine 22 rfl) rfl rfl ?_
      refine gj_ldc6 (q := 47) (z := -4) 2 (gj_dk okX6_readLine 23 rfl) rfl (by decide) rfl rfl rfl ?_
      refine gj_callV (q := 50) (z := 10) (ci := 6) [jR (-4)] rfl (w_X6_isWord hst (show (2 : Nat) < 9 by decide) rfl ) (gj_dk okX6_readLine 24 rfl) ml_X6_83 me_X6_isWord (sh10 hst) rfl (gj_nm rfl) rfl (gj_kI fun x10 S2 M2 h9 => ?_)
      obtain ⟨bx10, eS, eM⟩ := h9; subst eS; subst eM
      refine gj_if_eq (q := 53) (tgt := 58) (gj_dk okX6_readLine 25 rfl) (by decide) rfl (fun c50 => ?_) (fun c50 => ?_)
      · -- 58
        refine gj_aload_n (q := 59) (gj_dk okX6_readLine 29 rfl) rfl rfl ?_
        refine gj_ldc6 (q := 61) (z := -5) 3 (gj_dk okX6_readLine 30 rfl) rfl (by decide) rfl rfl rfl ?_
        refine gj_callV (q := 64) (z := 10) (ci := 6) [jR (-5)] rfl (w_X6_isWord hst (show (3 : Nat) < 9 by decide) rfl ) (gj_dk okX6_readLine 31 rfl) ml_X6_83 me_X6_isWord (sh10 hst) rfl (gj_nm rfl) rfl (gj_kI fun x14 S2 M2 h13 => ?_)
        obtain ⟨bx14, eS, eM⟩ := h13; subst eS; subst eM
        refine gj_if_eq (q := 67) (tgt := 72) (gj_dk okX6_readLine 32 rfl) (by decide) rfl (fun c64 => ?_) (fun c64 => ?_)
        · -- 72
          refine gj_aload_n (q := 73) (gj_dk okX6_readLine 36 rfl) rfl rfl ?_
          refine gj_ldc6 (q := 75) (z := -6) 4 (gj_dk okX6_readLine 37 rfl) rfl (by decide) rfl rfl rfl ?_
          refine gj_callV (q := 78) (z := 10) (ci := 6) [jR (-6)] rfl (w_X6_isWord hst (show (4 : Nat) < 9 by decide) rfl ) (gj_dk okX6_readLine 38 rfl) ml_X6_83 me_X6_isWord (sh10 hst) rfl (gj_nm rfl) rfl (gj_kI fun x18 S2 M2 h17 => ?_)
          obtain ⟨bx18, eS, eM⟩ := h17; subst eS; subst eM
          refine gj_if_eq (q := 81) (tgt := 86) (gj_dk okX6_readLine 39 rfl) (by decide) rfl (fun c78 => ?_) (fun c78 => ?_)
          · -- 86
            refine gj_aload_n (q := 87) (gj_dk okX6_readLine 43 rfl) rfl rfl ?_
            refine gj_ldc6 (q := 89) (z := -7) 5 (gj_dk okX6_readLine 44 rfl) rfl (by decide) rfl rfl rfl ?_
            refine gj_callV (q := 92) (z := 10) (ci := 6) [jR (-7)] rfl (w_X6_isWord hst (show (5 : Nat) < 9 by decide) rfl ) (gj_dk okX6_readLine 45 rfl) ml_X6_83 me_X6_isWord (sh10 hst) rfl (gj_nm rfl) rfl (gj_kI fun x22 S2 M2 h21 => ?_)
            obtain ⟨bx22, eS, eM⟩ := h21; subst eS; subst eM
            refine gj_if_eq (q := 95) (tgt := 100) (gj_dk okX6_readLine 46 rfl) (by decide) rfl (fun c92 => ?_) (fun c92 => ?_)
            · -- 100
              refine gj_aload_n (q := 101) (gj_dk okX6_readLine 50 rfl) rfl rfl ?_
              refine gj_ldc6 (q := 103) (z := -8) 6 (gj_dk okX6_readLine 51 rfl) rfl (by decide) rfl rfl rfl ?_
              refine gj_callV (q := 106) (z := 10) (ci := 6) [jR (-8)] rfl (w_X6_isWord hst (show (6 : Nat) < 9 by decide) rfl ) (gj_dk okX6_readLine 52 rfl) ml_X6_83 me_X6_isWord (sh10 hst) rfl (gj_nm rfl) rfl (gj_kI fun x26 S2 M2 h25 => ?_)
              obtain ⟨bx26, eS, eM⟩ := h25; subst eS; subst eM
              refine gj_if_eq (q := 109) (tgt := 114) (gj_dk okX6_readLine 53 rfl) (by decide) rfl (fun c106 => ?_) (fun c106 => ?_)
              · -- 114
                refine gj_aload_n (q := 115) (gj_dk okX6_readLine 57 rfl) rfl rfl ?_
                refine gj_ldc6 (q := 117) (z := -9) 7 (gj_dk okX6_readLine 58 rfl) rfl (by decide) rfl rfl rfl ?_
                refine gj_callV (q := 120) (z := 10) (ci := 6) [jR (-9)] rfl (w_X6_isWord hst (show (7 : Nat) < 9 by decide) rfl ) (gj_dk okX6_readLine 59 rfl) ml_X6_83 me_X6_isWord (sh10 hst) rfl (gj_nm rfl) rfl (gj_kI fun x30 S2 M2 h29 => ?_)
                obtain ⟨bx30, eS, eM⟩ := h29; subst eS; subst eM
                refine gj_if_eq (q := 123) (tgt := 128) (gj_dk okX6_readLine 60 rfl) (by decide) rfl (fun c120 => ?_) (fun c120 => ?_)
                · -- 128
                  refine gj_aload_n (q := 129) (gj_dk okX6_readLine 64 rfl) rfl rfl ?_
                  refine gj_ldc6 (q := 131) (z := -10) 8 (gj_dk okX6_readLine 65 rfl) rfl (by decide) rfl rfl rfl ?_
                  refine gj_callV (q := 134) (z := 10) (ci := 6) [jR (-10)] rfl (w_X6_isWord hst (show (8 : Nat) < 9 by decide) rfl ) (gj_dk okX6_readLine 66 rfl) ml_X6_83 me_X6_isWord (sh10 hst) rfl (gj_nm rfl) rfl (gj_kI fun x34 S2 M2 h33 => ?_)
                  obtain ⟨bx34, eS, eM⟩ := h33; subst eS; subst eM
                  refine gj_if_eq (q := 137) (tgt := 148) (gj_dk okX6_readLine 67 rfl) (by decide) rfl (fun c134 => ?_) (fun c134 => ?_)
                  · -- 148
                    refine gj_iconst (q := 149) (gj_dk okX6_readLine 73 rfl) (by decide) rfl ?_
                    exact gj_zret (gj_dk okX6_readLine 74 rfl) rfl (by first | decide | assumption | omega) ⟨_, rfl, (by first | decide | assumption | omega), rfl, h⟩
                  · -- 137
                    refine gj_aload_n (q := 138) (gj_dk okX6_readLine 68 rfl) rfl rfl ?_
                    refine gj_callV (q := 141) (z := 10) (ci := 6) [] rfl (w_X6_readAhead hst h  ) (gj_dk okX6_readLine 69 rfl) ml_X6_131 me_X6_readAhead (sh10 hst) rfl (gj_nm rfl) rfl (gj_kI fun x38 S2 M2 h37 => ?_)
                    obtain ⟨bx38, eS, w40⟩ := h37; subst eS
                    revert w40; generalize M2 = M41; intro w40
                    refine gj_if_eq (q := 144) (tgt := 148) (gj_dk okX6_readLine 70 rfl) (by decide) rfl (fun c141 => ?_) (fun c141 => ?_)
                    · -- 148
                      refine gj_iconst (q := 149) (gj_dk okX6_readLine 73 rfl) (by decide) rfl ?_
                      exact gj_zret (gj_dk okX6_readLine 74 rfl) rfl (by first | decide | assumption | omega) ⟨_, rfl, (by first | decide | assumption | omega), rfl, w40⟩
                    · -- 144
                      refine gj_iconst (q := 145) (gj_dk okX6_readLine 71 rfl) (by decide) rfl ?_
                      refine gj_goto (tgt := 149) (gj_dk okX6_readLine 72 rfl) (by decide) ?_
                      exact gj_zret (gj_dk okX6_readLine 74 rfl) rfl (by first | decide | assumption | omega) ⟨_, rfl, (by first | decide | assumption | omega), rfl, w40⟩
                · -- 123
                  refine gj_aload_n (q := 124) (gj_dk okX6_readLine 61 rfl) rfl rfl ?_
                  refine gj_callV (q := 127) (z := 10) (ci := 6) [] rfl (w_X6_readCow hst h  ) (gj_dk okX6_readLine 62 rfl) ml_X6_126 me_X6_readCow (sh10 hst) rfl (gj_nm rfl) rfl (gj_kI fun x43 S2 M2 h42 => ?_)
                  obtain ⟨bx43, eS, w45⟩ := h42; subst eS
                  revert w45; generalize M2 = M46; intro w45
                  exact gj_zret (gj_dk okX6_readLine 63 rfl) rfl (by first | decide | assumption | omega) ⟨_, rfl, (by first | decide | assumption | omega), rfl, w45⟩
              · -- 109
                refine gj_aload_n (q := 110) (gj_dk okX6_readLine 54 rfl) rfl rfl ?_
                refine gj_callV (q := 113) (z := 10) (ci := 6) [] rfl (w_X6_readChild hst h  ) (gj_dk okX6_readLine 55 rfl) ml_X6_121 me_X6_readChild (sh10 hst) rfl (gj_nm rfl) rfl (gj_kI fun x48 S2 M2 h47 => ?_)
                obtain ⟨bx48, eS, w50⟩ := h47; subst eS
                revert w50; generalize M2 = M51; intro w50
                exact gj_zret (gj_dk okX6_readLine 56 rfl) rfl (by first | decide | assumption | omega) ⟨_, rfl, (by first | decide | assumption | omega), rfl, w50⟩
            · -- 95
              refine gj_aload_n (q := 96) (gj_dk okX6_readLine 47 rfl) rfl rfl ?_
              refine gj_callV (q := 99) (z := 10) (ci := 6) [] rfl (w_X6_readHouse hst h  ) (gj_dk okX6_readLine 48 rfl) ml_X6_116 me_X6_readHouse (sh10 hst) rfl (gj_nm rfl) rfl (gj_kI fun x53 S2 M2 h52 => ?_)
              obtain ⟨bx53, eS, w55⟩ := h52; subst eS
              revert w55; generalize M2 = M56; intro w55
              exact gj_zret (gj_dk okX6_readLine 49 rfl) rfl (by first | decide | assumption | omega) ⟨_, rfl, (by first | decide | assumption | omega), rfl, w55⟩
          · -- 81
            refine gj_aload_n (q := 82) (gj_dk okX6_readLine 40 rfl) rfl rfl ?_
            refine gj_callV (q := 85) (z := 10) (ci := 6) [] rfl (w_X6_readWorth hst h  ) (gj_dk okX6_readLine 41 rfl) ml_X6_111 me_X6_readWorth (sh10 hst) rfl (gj_nm rfl) rfl (gj_kI fun x58 S2 M2 h57 => ?_)
            obtain ⟨bx58, eS, w60⟩ := h57; subst eS
            revert w60; generalize M2 = M61; intro w60
            exact gj_zret (gj_dk okX6_readLine 42 rfl) rfl (by first | decide | assumption | omega) ⟨_, rfl, (by first | decide | assumption | omega), rfl, w60⟩
        · -- 67
          refine gj_aload_n (q := 68) (gj_dk okX6_readLine 33 rfl) rfl rfl ?_
          refine gj_callV (q := 71) (z := 10) (ci := 6) [] rfl (w_X6_readFit hst h  ) (gj_dk okX6_readLine 34 rfl) ml_X6_106 me_X6_readFit (sh10 hst) rfl (gj_nm rfl) rfl (gj_kI fun x63 S2 M2 h62 => ?_)
          obtain ⟨bx63, eS, w65⟩ := h62; subst eS
          revert w65; generalize M2 = M66; intro w65
          exact gj_zret (gj_dk okX6_readLine 35 rfl) rfl (by first | decide | assumption | omega) ⟨_, rfl, (by first | decide | assumption | omega), rfl, w65⟩
      · -- 53
        refine gj_aload_n (q := 54) (gj_dk okX6_readLine 26 rfl) rfl rfl ?_
        refine gj_callV (q := 57) (z := 10) (ci := 6) [] rfl (w_X6_readThink hst h  ) (gj_dk okX6_readLine 27 rfl) ml_X6_101 me_X6_readThink (sh10 hst) rfl (gj_nm rfl) rfl (gj_kI fun x68 S2 M2 h67 => ?_)
        obtain ⟨bx68, eS, w70⟩ := h67; subst eS
        revert w70; generalize M2 = M71; intro w70
        exact gj_zret (gj_dk okX6_readLine 28 rfl) rfl (by first | decide | assumption | omega) ⟨_, rfl, (by first | decide | assumption | omega), rfl, w70⟩
    · -- 31
      refine gj_aload_n (q := 32) (gj_dk okX6_readLine 15 rfl) rfl rfl ?_
      refine gj_iconst (q := 33) (gj_dk okX6_readLine 16 rfl) (by decide) rfl ?_
      refine gj_aload_n (q := 34) (gj_dk okX6_readLine 17 rfl) rfl rfl ?_
      refine gj_gR (q := 37) (j := 1) (gj_dk okX6_readLine 18 rfl) ff_X6_26 (sh10 hst) (by decide) rfl (rf10_1 hst) rfl ?_
      refine gj_gI (q := 40) (j := 1) (gj_dk okX6_readLine 19 rfl) ff_X6_96 (sh3 hst) (by decide) rfl rfl ?_
      refine gj_callV (q := 43) (z := 10) (ci := 6) [jI 4, jI (M 3 1)] rfl (w_X6_readPerson hst h  _ _) (gj_dk okX6_readLine 20 rfl) ml_X6_90 me_X6_readPerson (sh10 hst) rfl (gj_nm rfl) rfl (gj_kI fun x73 S2 M2 h72 => ?_)
      obtain ⟨bx73, eS, w75⟩ := h72; subst eS
      revert w75; generalize M2 = M76; intro w75
      exact gj_zret (gj_dk okX6_readLine 21 rfl) rfl (by first | decide | assumption | omega) ⟨_, rfl, (by first | decide | assumption | omega), rfl, w75⟩
  · -- 9
    refine gj_aload_n (q := 10) (gj_dk okX6_readLine 4 rfl) rfl rfl ?_
    refine gj_iconst (q := 11) (gj_dk okX6_readLine 5 rfl) (by decide) rfl ?_
    refine gj_aload_n (q := 12) (gj_dk okX6_readLine 6 rfl) rfl rfl ?_
    refine gj_gR (q := 15) (j := 1) (gj_dk okX6_readLine 7 rfl) ff_X6_26 (sh10 hst) (by decide) rfl (rf10_1 hst) rfl ?_
    refine gj_gI (q := 18) (j := 0) (gj_dk okX6_readLine 8 rfl) ff_X6_87 (sh3 hst) (by decide) rfl rfl ?_
    refine gj_callV (q := 21) (z := 10) (ci := 6) [jI 0, jI (M 3 0)] rfl (w_X6_readPerson hst h  _ _) (gj_dk okX6_readLine 9 rfl) ml_X6_90 me_X6_readPerson (sh10 hst) rfl (gj_nm rfl) rfl (gj_kI fun x78 S2 M2 h77 => ?_)
    obtain ⟨bx78, eS, w80⟩ := h77; subst eS
    revert w80; generalize M2 = M81; intro w80
    exact gj_zret (gj_dk okX6_readLine 10 rfl) rfl (by first | decide | assumption | omega) ⟨_, rfl, (by first | decide | assumption | omega), rfl, w80⟩

set_option maxHeartbeats 4000000 in
set_option maxRecDepth 20000 in
theorem w_X5_stands_3 (hst : gj_Stat S)   : gj_C G l 1 0 0 yX5_stands cX5_stands 1 (some .boolean) [jR 3] S M (gj_qI fun x S' M' => (x = 0 ∨ x = 1) ∧ S = S' ∧ M = M') := by
  refine gj_Cof (by decide +kernel) (Nat.le_of_ble_eq_true rfl) ?_
  change gj_W G l 1 0 0 yX5_stands cX5_stands 1 (some .boolean) (gj_qI fun x S' M' => (x = 0 ∨ x = 1) ∧ S = S' ∧ M = M') 0 0 0 [(0, jR 3)] [] S M
  refine gj_aload_n (q := 1) (gj_dk okX5_stands 0 rfl) rfl rfl ?_
  refine gj_gI (q := 4) (j := 0) (gj_dk okX5_stands 1 rfl) ff_X5_30 (sh3 hst) (by decide) rfl rfl ?_
  refine gj_if_le (q := 7) (tgt := 18) (gj_dk okX5_stands 2 rfl) (by decide) rfl (fun c4 => ?_) (fun c4 => ?_)
  · -- 18
    refine gj_iconst (q := 19) (gj_dk okX5_stands 8 rfl) (by decide) rfl ?_
    exact gj_zret (gj_dk okX5_stands 9 rfl) rfl (by first | decide | assumption | omega) ⟨_, rfl, (by first | decide | assumption | omega), rfl, rfl⟩
  · -- 7
    refine gj_aload_n (q := 8) (gj_dk okX5_stands 3 rfl) rfl rfl ?_
    refine gj_gI (q := 11) (j := 1) (gj_dk okX5_stands 4 rfl) ff_X5_34 (sh3 hst) (by decide) rfl rfl ?_
    refine gj_if_le (q := 14) (tgt := 18) (gj_dk okX5_stands 5 rfl) (by decide) rfl (fun c11 => ?_) (fun c11 => ?_)
    · -- 18
      refine gj_iconst (q := 19) (gj_dk okX5_stands 8 rfl) (by decide) rfl ?_
      exact gj_zret (gj_dk okX5_stands 9 rfl) rfl (by first | decide | assumption | omega) ⟨_, rfl, (by first | decide | assumption | omega), rfl, rfl⟩
    · -- 14
      refine gj_iconst (q := 15) (gj_dk okX5_stands 6 rfl) (by decide) rfl ?_
      refine gj_goto (tgt := 19) (gj_dk okX5_stands 7 rfl) (by decide) ?_
      exact gj_zret (gj_dk okX5_stands 9 rfl) rfl (by first | decide | assumption | omega) ⟨_, rfl, (by first | decide | assumption | omega), rfl, rfl⟩

set_option maxHeartbeats 4000000 in
set_option maxRecDepth 20000 in
theorem w_X5_stands_14 (hst : gj_Stat S)   : gj_C G l 1 0 0 yX5_stands cX5_stands 1 (some .boolean) [jR 14] S M (gj_qI fun x S' M' => (x = 0 ∨ x = 1) ∧ S = S' ∧ M = M') := by
  refine gj_Cof (by decide +kernel) (Nat.le_of_ble_eq_true rfl) ?_
  change gj_W G l 1 0 0 yX5_stands cX5_stands 1 (some .boolean) (gj_qI fun x S' M' => (x = 0 ∨ x = 1) ∧ S = S' ∧ M = M') 0 0 0 [(0, jR 14)] [] S M
  refine gj_aload_n (q := 1) (gj_dk okX5_stands 0 rfl) rfl rfl ?_
  refine gj_gI (q := 4) (j := 0) (gj_dk okX5_stands 1 rfl) ff_X5_30 (sh14 hst) (by decide) rfl rfl ?_
  refine gj_if_le (q := 7) (tgt := 18) (gj_dk okX5_stands 2 rfl) (by decide) rfl (fun c4 => ?_) (fun c4 => ?_)
  · -- 18
    refine gj_iconst (q := 19) (gj_dk okX5_stands 8 rfl) (by decide) rfl ?_
    exact gj_zret (gj_dk okX5_stands 9 rfl) rfl (by first | decide | assumption | omega) ⟨_, rfl, (by first | decide | assumption | omega), rfl, rfl⟩
  · -- 7
    refine gj_aload_n (q := 8) (gj_dk okX5_stands 3 rfl) rfl rfl ?_
    refine gj_gI (q := 11) (j := 1) (gj_dk okX5_stands 4 rfl) ff_X5_34 (sh14 hst) (by decide) rfl rfl ?_
    refine gj_if_le (q := 14) (tgt := 18) (gj_dk okX5_stands 5 rfl) (by decide) rfl (fun c11 => ?_) (fun c11 => ?_)
    · -- 18
      refine gj_iconst (q := 19) (gj_dk okX5_stands 8 rfl) (by decide) rfl ?_
      exact gj_zret (gj_dk okX5_stands 9 rfl) rfl (by first | decide | assumption | omega) ⟨_, rfl, (by first | decide | assumption | omega), rfl, rfl⟩
    · -- 14
      refine gj_iconst (q := 15) (gj_dk okX5_stands 6 rfl) (by decide) rfl ?_
      refine gj_goto (tgt := 19) (gj_dk okX5_stands 7 rfl) (by decide) ?_
      exact gj_zret (gj_dk okX5_stands 9 rfl) rfl (by first | decide | assumption | omega) ⟨_, rfl, (by first | decide | assumption | omega), rfl, rfl⟩

set_option maxHeartbeats 4000000 in
set_option maxRecDepth 20000 in
theorem w_X6_read (hst : gj_Stat S) (h : w_CW M0 M)   : gj_C G l 9 0 0 yX6_read cX6_read 2 (some .int) [jR 10] S M (gj_qI fun x S' M' => S = S' ∧ w_CW M0 M') := by
  refine gj_Cof (by decide +kernel) (Nat.le_of_ble_eq_true rfl) ?_
  change gj_W G l 9 0 0 yX6_read cX6_read 2 (some .int) (gj_qI fun x S' M' => S = S' ∧ w_CW M0 M') 0 0 0 [(0, jR 10)] [] S M
  have qh := h.2.2.2.2
  refine gj_aload_n (q := 1) (gj_dk okX6_read 0 rfl) rfl rfl ?_
  refine gj_gR (q := 4) (j := 1) (gj_dk okX6_read 1 rfl) ff_X6_26 (sh10 hst) (by decide) rfl (rf10_1 hst) rfl ?_
  refine gj_callV (q := 7) (z := 3) (ci := 5) [] rfl (w_X5_clear hst h  ) (gj_dk okX6_read 2 rfl) ml_X6_30 me_X5_clear (sh3 hst) rfl (gj_nm rfl) rfl (gj_kV fun S2 M2 h1 => ?_)
  obtain ⟨eS, w4⟩ := h1; subst eS
  revert w4; generalize M2 = M5; intro w4
  have qw4 := w4.2.2.2.2
  refine gj_aload_n (q := 8) (gj_dk okX6_read 3 rfl) rfl rfl ?_
  refine gj_iconst (q := 9) (gj_dk okX6_read 4 rfl) (by decide) rfl ?_
  refine gj_pfI (q := 12) (j := 5) (gj_dk okX6_read 5 rfl) ff_X6_35 (sh10 hst) (by decide) rfl rfl ?_
  refine gj_abs (fun M6 e8 => ?_)
  have w7 : w_CW M0 M6 := by rw [e8]; exact w4.up (by decide) rfl
  clear e8
  refine gj_aload_n (q := 13) (gj_dk okX6_read 6 rfl) rfl rfl ?_
  refine gj_iconst (q := 14) (gj_dk okX6_read 7 rfl) (by decide) rfl ?_
  refine gj_pfI (q := 17) (j := 8) (gj_dk okX6_read 8 rfl) ff_X6_39 (sh10 hst) (by decide) rfl rfl ?_
  refine gj_abs (fun M9 e11 => ?_)
  have w10 : w_CW M0 M9 := by rw [e11]; exact w7.up (by decide) rfl
  clear e11
  refine gj_aload_n (q := 18) (gj_dk okX6_read 9 rfl) rfl rfl ?_
  refine gj_gR (q := 21) (j := 3) (gj_dk okX6_read 10 rfl) ff_X6_15 (sh10 hst) (by decide) rfl (rf10_3 hst) rfl ?_
  refine gj_callS (q := 24) [jR 12] rfl (c_X7_unmark (sh12 hst) (by decide) (by decide)) (gj_dk okX6_read 11 rfl) ml_X6_42 me_X7_unmark (gj_nm rfl) rfl (gj_kV fun S2 M2 h12 => ?_)
  obtain ⟨eS, eM⟩ := h12; subst eS
  have w15 : w_CW M0 M2 := by rw [← eM]; exact w_CW.fill w10 (by decide) (by decide)
  clear eM
  revert w15; generalize M2 = M16; intro w15
  refine gj_aload_n (q := 25) (gj_dk okX6_read 12 rfl) rfl rfl ?_
  refine gj_gR (q := 28) (j := 4) (gj_dk okX6_read 13 rfl) ff_X6_19 (sh10 hst) (by decide) rfl (rf10_4 hst) rfl ?_
  refine gj_callS (q := 31) [jR 13] rfl (c_X7_unmark (sh13 hst) (by decide) (by decide)) (gj_dk okX6_read 14 rfl) ml_X6_42 me_X7_unmark (gj_nm rfl) rfl (gj_kV fun S2 M2 h17 => ?_)
  obtain ⟨eS, eM⟩ := h17; subst eS
  have w20 : w_CW M0 M2 := by rw [← eM]; exact w_CW.fill w15 (by decide) (by decide)
  clear eM
  revert w20; generalize M2 = M21; intro w20
  refine gj_aload_n (q := 32) (gj_dk okX6_read 15 rfl) rfl rfl ?_
  refine gj_callV (q := 35) (z := 10) (ci := 6) [] rfl (w_X6_scan hst w20  ) (gj_dk okX6_read 16 rfl) ml_X6_48 me_X6_scan (sh10 hst) rfl (gj_nm rfl) rfl (gj_kV fun S2 M2 h22 => ?_)
  obtain ⟨px23, eS, w25⟩ := h22; subst eS
  revert px23 w25; generalize M2 = M26; intro px23 w25
  have qw25 := w25.2.2.2.2
  refine gj_iconst (q := 36) (gj_dk okX6_read 17 rfl) (by decide) rfl ?_
  refine gj_istore_n (q := 37) (gj_dk okX6_read 18 rfl) (by decide) rfl ?_
  have L37 : ∀ (k28 : Nat) (x27 : Int) (M29 : gj_M), (w_CW M0 M29) → (2147483647 - x27).toNat < k28 → gj_W G l 9 0 0 yX6_read cX6_read 2 (some .int) (gj_qI fun x S' M' => S = S' ∧ w_CW M0 M') 0 0 37 [(0, jR 10), (1, jI x27)] [] S M29 := by
    intro k28
    induction k28 with
    | zero => intro x27 M29 w30 hk37; exact absurd hk37 (Nat.not_lt_zero _)
    | succ k28 ih37 =>
      intro x27 M29 w30 hk37
      have qw30 := w30.2.2.2.2
      refine gj_iload_n (q := 38) (gj_dk okX6_read 19 rfl) rfl rfl ?_
      refine gj_aload_n (q := 39) (gj_dk okX6_read 20 rfl) rfl rfl ?_
      refine gj_gR (q := 42) (j := 0) (gj_dk okX6_read 21 rfl) ff_X6_22 (sh10 hst) (by decide) rfl (rf10_0 hst) rfl ?_
      refine gj_callV (q := 45) (z := 1) (ci := 8) [] rfl (w_X9_length hst  ) (gj_dk okX6_read 22 rfl) ml_X6_51 me_X9_length (sh1 hst) rfl (gj_nm rfl) rfl (gj_kI fun x32 S2 M2 h31 => ?_)
      obtain ⟨px32, eS, eM⟩ := h31; subst eS; subst eM
      refine gj_rng (fun ho45 _ _ => ?_)
      have hb45 : -2147483648 ≤ x32 ∧ x32 < 2147483648 := gj_o0 ho45
      have ha45 : -2147483648 ≤ x27 ∧ x27 < 2147483648 := gj_o1 ho45
      clear ho45
      refine gj_icmp_gt (q := 48) (tgt := 73) (gj_dk okX6_read 23 rfl) (by decide) rfl (fun c45 => ?_) (fun c45 => ?_)
      · -- 73
        refine gj_aload_n (q := 74) (gj_dk okX6_read 35 rfl) rfl rfl ?_
        refine gj_gR (q := 77) (j := 1) (gj_dk okX6_read 36 rfl) ff_X6_26 (sh10 hst) (by decide) rfl (rf10_1 hst) rfl ?_
        refine gj_callV (q := 80) (z := 3) (ci := 5) [] rfl (w_X5_stands_3 hst  ) (gj_dk okX6_read 37 rfl) ml_X6_67 me_X5_stands (sh3 hst) rfl (gj_nm rfl) rfl (gj_kI fun x36 S2 M2 h35 => ?_)
        obtain ⟨bx36, eS, eM⟩ := h35; subst eS; subst eM
        refine gj_if_eq (q := 83) (tgt := 87) (gj_dk okX6_read 38 rfl) (by decide) rfl (fun c80 => ?_) (fun c80 => ?_)
        · -- 87
          refine gj_aload_n (q := 88) (gj_dk okX6_read 41 rfl) rfl rfl ?_
          refine gj_gR (q := 91) (j := 0) (gj_dk okX6_read 42 rfl) ff_X6_22 (sh10 hst) (by decide) rfl (rf10_0 hst) rfl ?_
          refine gj_callV (q := 94) (z := 1) (ci := 8) [] rfl (w_X9_length hst  ) (gj_dk okX6_read 43 rfl) ml_X6_51 me_X9_length (sh1 hst) rfl (gj_nm rfl) rfl (gj_kI fun x40 S2 M2 h39 => ?_)
          obtain ⟨px40, eS, eM⟩ := h39; subst eS; subst eM
          exact gj_iret (gj_dk okX6_read 44 rfl) rfl ⟨_, rfl, rfl, w30⟩
        · -- 83
          refine gj_iconst (q := 84) (gj_dk okX6_read 39 rfl) (by decide) rfl ?_
          refine gj_goto (tgt := 94) (gj_dk okX6_read 40 rfl) (by decide) ?_
          exact gj_iret (gj_dk okX6_read 44 rfl) rfl ⟨_, rfl, rfl, w30⟩
      · -- 48
        refine gj_aload_n (q := 49) (gj_dk okX6_read 24 rfl) rfl rfl ?_
        refine gj_gI (q := 52) (j := 6) (gj_dk okX6_read 25 rfl) ff_X6_57 (sh10 hst) (by decide) rfl rfl ?_
        refine gj_if_eq (q := 55) (tgt := 73) (gj_dk okX6_read 26 rfl) (by decide) rfl (fun c52 => ?_) (fun c52 => ?_)
        · -- 73
          refine gj_aload_n (q := 74) (gj_dk okX6_read 35 rfl) rfl rfl ?_
          refine gj_gR (q := 77) (j := 1) (gj_dk okX6_read 36 rfl) ff_X6_26 (sh10 hst) (by decide) rfl (rf10_1 hst) rfl ?_
          refine gj_callV (q := 80) (z := 3) (ci := 5) [] rfl (w_X5_stands_3 hst  ) (gj_dk okX6_read 37 rfl) ml_X6_67 me_X5_stands (sh3 hst) rfl (gj_nm rfl) rfl (gj_kI fun x44 S2 M2 h43 => ?_)
          obtain ⟨bx44, eS, eM⟩ := h43; subst eS; subst eM
          refine gj_if_eq (q := 83) (tgt := 87) (gj_dk okX6_read 38 rfl) (by decide) rfl (fun c80 => ?_) (fun c80 => ?_)
          · -- 87
            refine gj_aload_n (q := 88) (gj_dk okX6_read 41 rfl) rfl rfl ?_
            refine gj_gR (q := 91) (j := 0) (gj_dk okX6_read 42 rfl) ff_X6_22 (sh10 hst) (by decide) rfl (rf10_0 hst) rfl ?_
            refine gj_callV (q := 94) (z := 1) (ci := 8) [] rfl (w_X9_length hst  ) (gj_dk okX6_read 43 rfl) ml_X6_51 me_X9_length (sh1 hst) rfl (gj_nm rfl) rfl (gj_kI fun x48 S2 M2 h47 => ?_)
            obtain ⟨px48, eS, eM⟩ := h47; subst eS; subst eM
            exact gj_iret (gj_dk okX6_read 44 rfl) rfl ⟨_, rfl, rfl, w30⟩
          · -- 83
            refine gj_iconst (q := 84) (gj_dk okX6_read 39 rfl) (by decide) rfl ?_
            refine gj_goto (tgt := 94) (gj_dk okX6_read 40 rfl) (by decide) ?_
            exact gj_iret (gj_dk okX6_read 44 rfl) rfl ⟨_, rfl, rfl, w30⟩
        · -- 55
          refine gj_aload_n (q := 56) (gj_dk okX6_read 27 rfl) rfl rfl ?_
          refine gj_callV (q := 59) (z := 10) (ci := 6) [] rfl (w_X6_readLine hst w30  ) (gj_dk okX6_read 28 rfl) ml_X6_60 me_X6_readLine (sh10 hst) rfl (gj_nm rfl) rfl (gj_kI fun x52 S2 M2 h51 => ?_)
          obtain ⟨bx52, eS, w54⟩ := h51; subst eS
          revert w54; generalize M2 = M55; intro w54
          have qw54 := w54.2.2.2.2
          refine gj_if_ne (q := 62) (tgt := 67) (gj_dk okX6_read 29 rfl) (by decide) rfl (fun c59 => ?_) (fun c59 => ?_)
          · -- 67
            refine gj_iinc (q := 70) (v := x27 + 1) (gj_dk okX6_read 33 rfl) rfl (by decide) (gj_wle (by omega) (by omega)) rfl ?_
            refine gj_goto (tgt := 37) (gj_dk okX6_read 34 rfl) (by decide) ?_
            refine gj_sub [(0, jR 10), (1, jI (x27 + 1))] ⟨rfl, rfl, trivial⟩ ?_
            exact ih37 _ _ w54 (by omega)
          · -- 62
            refine gj_aload_n (q := 63) (gj_dk okX6_read 30 rfl) rfl rfl ?_
            refine gj_gI (q := 66) (j := 7) (gj_dk okX6_read 31 rfl) ff_X6_64 (sh10 hst) (by decide) rfl rfl ?_
            exact gj_iret (gj_dk okX6_read 32 rfl) rfl ⟨_, rfl, rfl, w54⟩
  refine gj_sub [(0, jR 10), (1, jI 0)] ⟨rfl, rfl, trivial⟩ ?_
  exact L37 _ _ _ w25 (Nat.lt_succ_self _)

set_option maxHeartbeats 4000000 in
set_option maxRecDepth 20000 in
theorem w_X11_fault (hst : gj_Stat S) (h : w_CW M0 M)   : gj_C G l 10 0 0 yX11_fault cX11_fault 1 (some .int) [jR 0] S M (gj_qI fun x S' M' => S = S' ∧ w_CW M0 M') := by
  refine gj_Cof (by decide +kernel) (Nat.le_of_ble_eq_true rfl) ?_
  change gj_W G l 10 0 0 yX11_fault cX11_fault 1 (some .int) (gj_qI fun x S' M' => S = S' ∧ w_CW M0 M') 0 0 0 [(0, jR 0)] [] S M
  refine gj_aload_n (q := 1) (gj_dk okX11_fault 0 rfl) rfl rfl ?_
  refine gj_gR (q := 4) (j := 2) (gj_dk okX11_fault 1 rfl) ff_X11_28 (sh0 hst) (by decide) rfl (rf0_2 hst) rfl ?_
  refine gj_callV (q := 7) (z := 10) (ci := 6) [] rfl (w_X6_read hst h  ) (gj_dk okX11_fault 2 rfl) ml_X11_106 me_X6_read (sh10 hst) rfl (gj_nm rfl) rfl (gj_kI fun x2 S2 M2 h1 => ?_)
  obtain ⟨eS, w4⟩ := h1; subst eS
  revert w4; generalize M2 = M5; intro w4
  exact gj_iret (gj_dk okX11_fault 3 rfl) rfl ⟨_, rfl, rfl, w4⟩

set_option maxHeartbeats 4000000 in
set_option maxRecDepth 20000 in
theorem w_X5_oddsOf (hst : gj_Stat S) (a1 a2 a3 : Int)  : gj_C G l 1 0 0 yX5_oddsOf cX5_oddsOf 6 (some .long) [jI a1, jI a2, jI a3] S M (gj_qL fun x S' M' => S = S' ∧ M = M') := by
  refine gj_Cof (by decide +kernel) (Nat.le_of_ble_eq_true rfl) ?_
  change gj_W G l 1 0 0 yX5_oddsOf cX5_oddsOf 6 (some .long) (gj_qL fun x S' M' => S = S' ∧ M = M') 0 0 0 [(0, jI a1), (1, jI a2), (2, jI a3)] [] S M
  refine gj_lconst (q := 1) (z := 1) (gj_dk okX5_oddsOf 0 rfl) rfl (by decide) rfl ?_
  refine gj_lstore_n (q := 2) (gj_dk okX5_oddsOf 1 rfl) (by decide) rfl ?_
  refine gj_iconst (q := 3) (gj_dk okX5_oddsOf 2 rfl) (by decide) rfl ?_
  refine gj_istore (q := 5) (gj_dk okX5_oddsOf 3 rfl) (by decide) rfl ?_
  have L5 : ∀ (k3 : Nat) (x1 x2 : Int), (2147483647 - x2).toNat < k3 → gj_W G l 1 0 0 yX5_oddsOf cX5_oddsOf 6 (some .long) (gj_qL fun x S' M' => S = S' ∧ M = M') 0 0 5 [(0, jI a1), (1, jI a2), (2, jI a3), (3, jL x1), (5, jI x2)] [] S M := by
    intro k3
    induction k3 with
    | zero => intro x1 x2 hk5; exact absurd hk5 (Nat.not_lt_zero _)
    | succ k3 ih5 =>
      intro x1 x2 hk5
      refine gj_iload (q := 7) (gj_dk okX5_oddsOf 4 rfl) rfl rfl ?_
      refine gj_iload_n (q := 8) (gj_dk okX5_oddsOf 5 rfl) rfl rfl ?_
      refine gj_rng (fun ho8 _ _ => ?_)
      have hb8 : -2147483648 ≤ a2 ∧ a2 < 2147483648 := gj_o0 ho8
      have ha8 : -2147483648 ≤ x2 ∧ x2 < 2147483648 := gj_o1 ho8
      clear ho8
      have J28 : ∀ (x4 : Int), gj_W G l 1 0 0 yX5_oddsOf cX5_oddsOf 6 (some .long) (gj_qL fun x S' M' => S = S' ∧ M = M') 0 0 28 [(0, jI a1), (2, jI a3), (3, jL x4)] [] S M := by
        intro x4
        refine gj_iconst (q := 29) (gj_dk okX5_oddsOf 17 rfl) (by decide) rfl ?_
        refine gj_istore (q := 31) (gj_dk okX5_oddsOf 18 rfl) (by decide) rfl ?_
        have L31 : ∀ (k7 : Nat) (x5 x6 : Int), (2147483647 - x6).toNat < k7 → gj_W G l 1 0 0 yX5_oddsOf cX5_oddsOf 6 (some .long) (gj_qL fun x S' M' => S = S' ∧ M = M') 0 0 31 [(0, jI a1), (2, jI a3), (3, jL x5), (5, jI x6)] [] S M := by
          intro k7
          induction k7 with
          | zero => intro x5 x6 hk31; exact absurd hk31 (Nat.not_lt_zero _)
          | succ k7 ih31 =>
            intro x5 x6 hk31
            refine gj_iload (q := 33) (gj_dk okX5_oddsOf 19 rfl) rfl rfl ?_
            refine gj_iload_n (q := 34) (gj_dk okX5_oddsOf 20 rfl) rfl rfl ?_
            refine gj_rng (fun ho34 _ _ => ?_)
            have hb34 : -2147483648 ≤ a3 ∧ a3 < 2147483648 := gj_o0 ho34
            have ha34 : -2147483648 ≤ x6 ∧ x6 < 2147483648 := gj_o1 ho34
            clear ho34
            refine gj_icmp_ge (q := 37) (tgt := 57) (gj_dk okX5_oddsOf 21 rfl) (by decide) rfl (fun c34 => ?_) (fun c34 => ?_)
            · -- 57
              refine gj_lload_n (q := 58) (gj_dk okX5_oddsOf 34 rfl) rfl rfl ?_
              exact gj_lret (gj_dk okX5_oddsOf 35 rfl) rfl ⟨_, rfl, rfl, rfl⟩
            · -- 37
              refine gj_iload (q := 39) (gj_dk okX5_oddsOf 22 rfl) rfl rfl ?_
              refine gj_iconst (q := 40) (gj_dk okX5_oddsOf 23 rfl) (by decide) rfl ?_
              refine gj_rng (fun ho40 _ _ => ?_)
              have ha40 : -2147483648 ≤ x6 ∧ x6 < 2147483648 := gj_o1 ho40
              clear ho40
              refine gj_icmp_ge (q := 43) (tgt := 57) (gj_dk okX5_oddsOf 24 rfl) (by decide) rfl (fun c40 => ?_) (fun c40 => ?_)
              · -- 57
                refine gj_lload_n (q := 58) (gj_dk okX5_oddsOf 34 rfl) rfl rfl ?_
                exact gj_lret (gj_dk okX5_oddsOf 35 rfl) rfl ⟨_, rfl, rfl, rfl⟩
              · -- 43
                refine gj_lload_n (q := 44) (gj_dk okX5_oddsOf 25 rfl) rfl rfl ?_
                refine gj_bipush (q := 46) (gj_dk okX5_oddsOf 26 rfl) (by decide) rfl rfl ?_
                refine gj_iload_n (q := 47) (gj_dk okX5_oddsOf 27 rfl) rfl rfl ?_
                refine gj_isub (q := 48) (gj_dk okX5_oddsOf 28 rfl) rfl ?_
                refine gj_i2l (q := 49) (gj_dk okX5_oddsOf 29 rfl) rfl ?_
                refine gj_lmul (q := 50) (gj_dk okX5_oddsOf 30 rfl) rfl ?_
                refine gj_lstore_n (q := 51) (gj_dk okX5_oddsOf 31 rfl) (by decide) rfl ?_
                refine gj_iinc (q := 54) (v := x6 + 1) (gj_dk okX5_oddsOf 32 rfl) rfl (by decide) (gj_wle (by omega) (by omega)) rfl ?_
                refine gj_goto (tgt := 31) (gj_dk okX5_oddsOf 33 rfl) (by decide) ?_
                refine gj_sub [(0, jI a1), (2, jI a3), (3, jL (gj_wl (x5 * (gj_w (16 - a1))))), (5, jI (x6 + 1))] ⟨rfl, rfl, rfl, rfl, trivial⟩ ?_
                exact ih31 _ _ (by omega)
        refine gj_sub [(0, jI a1), (2, jI a3), (3, jL x4), (5, jI 0)] ⟨rfl, rfl, rfl, rfl, trivial⟩ ?_
        exact L31 _ _ _ (Nat.lt_succ_self _)
      refine gj_icmp_ge (q := 11) (tgt := 28) (gj_dk okX5_oddsOf 6 rfl) (by decide) rfl (fun c8 => ?_) (fun c8 => ?_)
      · -- 28
        refine gj_sub [(0, jI a1), (2, jI a3), (3, jL x1)] ⟨rfl, rfl, rfl, trivial⟩ ?_
        exact J28 _
      · -- 11
        refine gj_iload (q := 13) (gj_dk okX5_oddsOf 7 rfl) rfl rfl ?_
        refine gj_iconst (q := 14) (gj_dk okX5_oddsOf 8 rfl) (by decide) rfl ?_
        refine gj_rng (fun ho14 _ _ => ?_)
        have ha14 : -2147483648 ≤ x2 ∧ x2 < 2147483648 := gj_o1 ho14
        clear ho14
        refine gj_icmp_ge (q := 17) (tgt := 28) (gj_dk okX5_oddsOf 9 rfl) (by decide) rfl (fun c14 => ?_) (fun c14 => ?_)
        · -- 28
          refine gj_sub [(0, jI a1), (2, jI a3), (3, jL x1)] ⟨rfl, rfl, rfl, trivial⟩ ?_
          exact J28 _
        · -- 17
          refine gj_lload_n (q := 18) (gj_dk okX5_oddsOf 10 rfl) rfl rfl ?_
          refine gj_iload_n (q := 19) (gj_dk okX5_oddsOf 11 rfl) rfl rfl ?_
          refine gj_i2l (q := 20) (gj_dk okX5_oddsOf 12 rfl) rfl ?_
          refine gj_lmul (q := 21) (gj_dk okX5_oddsOf 13 rfl) rfl ?_
          refine gj_lstore_n (q := 22) (gj_dk okX5_oddsOf 14 rfl) (by decide) rfl ?_
          refine gj_iinc (q := 25) (v := x2 + 1) (gj_dk okX5_oddsOf 15 rfl) rfl (by decide) (gj_wle (by omega) (by omega)) rfl ?_
          refine gj_goto (tgt := 5) (gj_dk okX5_oddsOf 16 rfl) (by decide) ?_
          refine gj_sub [(0, jI a1), (1, jI a2), (2, jI a3), (3, jL (gj_wl (x1 * a1))), (5, jI (x2 + 1))] ⟨rfl, rfl, rfl, rfl, rfl, trivial⟩ ?_
          exact ih5 _ _ (by omega)
  refine gj_sub [(0, jI a1), (1, jI a2), (2, jI a3), (3, jL 1), (5, jI 0)] ⟨rfl, rfl, rfl, rfl, rfl, trivial⟩ ?_
  exact L5 _ _ _ (Nat.lt_succ_self _)

set_option maxHeartbeats 4000000 in
set_option maxRecDepth 20000 in
theorem w_X5_rightAfter (hst : gj_Stat S) (a1 a2 a3 : Int)  : gj_C G l 2 0 0 yX5_rightAfter cX5_rightAfter 4 (some .long) [jR 14, jI a1, jI a2, jI a3] S M (gj_qL fun x S' M' => S = S' ∧ M = M') := by
  refine gj_Cof (by decide +kernel) (Nat.le_of_ble_eq_true rfl) ?_
  change gj_W G l 2 0 0 yX5_rightAfter cX5_rightAfter 4 (some .long) (gj_qL fun x S' M' => S = S' ∧ M = M') 0 0 0 [(0, jR 14), (1, jI a1), (2, jI a2), (3, jI a3)] [] S M
  refine gj_aload_n (q := 1) (gj_dk okX5_rightAfter 0 rfl) rfl rfl ?_
  refine gj_gR (q := 4) (j := 11) (gj_dk okX5_rightAfter 1 rfl) ff_X5_15 (sh14 hst) (by decide) rfl (rf14_11 hst) rfl ?_
  refine gj_iload_n (q := 5) (gj_dk okX5_rightAfter 2 rfl) rfl rfl ?_
  refine gj_callS (q := 8) [jR 16, jI a1] rfl (c_X7_at (sh16 hst) (by decide) (by decide) _) (gj_dk okX5_rightAfter 3 rfl) ml_X5_83 me_X7_at (gj_nm rfl) rfl (gj_kI fun x2 S2 M2 h1 => ?_)
  obtain ⟨-, eS, eM⟩ := h1; subst eS; subst eM
  refine gj_i2l (q := 9) (gj_dk okX5_rightAfter 4 rfl) rfl ?_
  refine gj_aload_n (q := 10) (gj_dk okX5_rightAfter 5 rfl) rfl rfl ?_
  refine gj_gR (q := 13) (j := 12) (gj_dk okX5_rightAfter 6 rfl) ff_X5_18 (sh14 hst) (by decide) rfl (rf14_12 hst) rfl ?_
  refine gj_iload_n (q := 14) (gj_dk okX5_rightAfter 7 rfl) rfl rfl ?_
  refine gj_callS (q := 17) [jR 17, jI a1] rfl (c_X7_at (sh17 hst) (by decide) (by decide) _) (gj_dk okX5_rightAfter 8 rfl) ml_X5_83 me_X7_at (gj_nm rfl) rfl (gj_kI fun x5 S2 M2 h4 => ?_)
  obtain ⟨-, eS, eM⟩ := h4; subst eS; subst eM
  refine gj_iload_n (q := 18) (gj_dk okX5_rightAfter 9 rfl) rfl rfl ?_
  refine gj_iload_n (q := 19) (gj_dk okX5_rightAfter 10 rfl) rfl rfl ?_
  refine gj_callS (q := 22) [jI x5, jI a2, jI a3] rfl (w_X5_oddsOf hst  _ _ _) (gj_dk okX5_rightAfter 11 rfl) ml_X5_122 me_X5_oddsOf (gj_nm rfl) rfl (gj_kL fun x8 S2 M2 h7 => ?_)
  obtain ⟨eS, eM⟩ := h7; subst eS; subst eM
  refine gj_lmul (q := 23) (gj_dk okX5_rightAfter 12 rfl) rfl ?_
  exact gj_lret (gj_dk okX5_rightAfter 13 rfl) rfl ⟨_, rfl, rfl, rfl⟩

set_option maxHeartbeats 4000000 in
set_option maxRecDepth 20000 in
theorem w_X5_otherAfter (hst : gj_Stat S) (a1 a2 a3 : Int)  : gj_C G l 2 0 0 yX5_otherAfter cX5_otherAfter 4 (some .long) [jR 14, jI a1, jI a2, jI a3] S M (gj_qL fun x S' M' => S = S' ∧ M = M') := by
  refine gj_Cof (by decide +kernel) (Nat.le_of_ble_eq_true rfl) ?_
  change gj_W G l 2 0 0 yX5_otherAfter cX5_otherAfter 4 (some .long) (gj_qL fun x S' M' => S = S' ∧ M = M') 0 0 0 [(0, jR 14), (1, jI a1), (2, jI a2), (3, jI a3)] [] S M
  refine gj_bipush (q := 2) (gj_dk okX5_otherAfter 0 rfl) (by decide) rfl rfl ?_
  refine gj_aload_n (q := 3) (gj_dk okX5_otherAfter 1 rfl) rfl rfl ?_
  refine gj_gR (q := 6) (j := 11) (gj_dk okX5_otherAfter 2 rfl) ff_X5_15 (sh14 hst) (by decide) rfl (rf14_11 hst) rfl ?_
  refine gj_iload_n (q := 7) (gj_dk okX5_otherAfter 3 rfl) rfl rfl ?_
  refine gj_callS (q := 10) [jR 16, jI a1] rfl (c_X7_at (sh16 hst) (by decide) (by decide) _) (gj_dk okX5_otherAfter 4 rfl) ml_X5_83 me_X7_at (gj_nm rfl) rfl (gj_kI fun x2 S2 M2 h1 => ?_)
  obtain ⟨-, eS, eM⟩ := h1; subst eS; subst eM
  refine gj_isub (q := 11) (gj_dk okX5_otherAfter 5 rfl) rfl ?_
  refine gj_i2l (q := 12) (gj_dk okX5_otherAfter 6 rfl) rfl ?_
  refine gj_aload_n (q := 13) (gj_dk okX5_otherAfter 7 rfl) rfl rfl ?_
  refine gj_gR (q := 16) (j := 13) (gj_dk okX5_otherAfter 8 rfl) ff_X5_21 (sh14 hst) (by decide) rfl (rf14_13 hst) rfl ?_
  refine gj_iload_n (q := 17) (gj_dk okX5_otherAfter 9 rfl) rfl rfl ?_
  refine gj_callS (q := 20) [jR 18, jI a1] rfl (c_X7_at (sh18 hst) (by decide) (by decide) _) (gj_dk okX5_otherAfter 10 rfl) ml_X5_83 me_X7_at (gj_nm rfl) rfl (gj_kI fun x5 S2 M2 h4 => ?_)
  obtain ⟨-, eS, eM⟩ := h4; subst eS; subst eM
  refine gj_iload_n (q := 21) (gj_dk okX5_otherAfter 11 rfl) rfl rfl ?_
  refine gj_iload_n (q := 22) (gj_dk okX5_otherAfter 12 rfl) rfl rfl ?_
  refine gj_callS (q := 25) [jI x5, jI a2, jI a3] rfl (w_X5_oddsOf hst  _ _ _) (gj_dk okX5_otherAfter 13 rfl) ml_X5_122 me_X5_oddsOf (gj_nm rfl) rfl (gj_kL fun x8 S2 M2 h7 => ?_)
  obtain ⟨eS, eM⟩ := h7; subst eS; subst eM
  refine gj_lmul (q := 26) (gj_dk okX5_otherAfter 14 rfl) rfl ?_
  exact gj_lret (gj_dk okX5_otherAfter 15 rfl) rfl ⟨_, rfl, rfl, rfl⟩

set_option maxHeartbeats 4000000 in
set_option maxRecDepth 20000 in
theorem w_X5_goodNext (hst : gj_Stat S) (a1 a2 a3 : Int)  : gj_C G l 3 0 0 yX5_goodNext cX5_goodNext 10 (some .int) [jR 14, jI a1, jI a2, jI a3] S M (gj_qI fun x S' M' => S = S' ∧ M = M') := by
  refine gj_Cof (by decide +kernel) (Nat.le_of_ble_eq_true rfl) ?_
  change gj_W G l 3 0 0 yX5_goodNext cX5_goodNext 10 (some .int) (gj_qI fun x S' M' => S = S' ∧ M = M') 0 0 0 [(0, jR 14), (1, jI a1), (2, jI a2), (3, jI a3)] [] S M
  refine gj_aload_n (q := 1) (gj_dk okX5_goodNext 0 rfl) rfl rfl ?_
  refine gj_iload_n (q := 2) (gj_dk okX5_goodNext 1 rfl) rfl rfl ?_
  refine gj_iload_n (q := 3) (gj_dk okX5_goodNext 2 rfl) rfl rfl ?_
  refine gj_iload_n (q := 4) (gj_dk okX5_goodNext 3 rfl) rfl rfl ?_
  refine gj_callV (q := 7) (z := 14) (ci := 5) [jI a1, jI a2, jI a3] rfl (w_X5_rightAfter hst  _ _ _) (gj_dk okX5_goodNext 4 rfl) ml_X5_74 me_X5_rightAfter (sh14 hst) rfl (gj_nm rfl) rfl (gj_kL fun x2 S2 M2 h1 => ?_)
  obtain ⟨eS, eM⟩ := h1; subst eS; subst eM
  refine gj_lstore (q := 9) (gj_dk okX5_goodNext 5 rfl) (by decide) rfl ?_
  refine gj_aload_n (q := 10) (gj_dk okX5_goodNext 6 rfl) rfl rfl ?_
  refine gj_iload_n (q := 11) (gj_dk okX5_goodNext 7 rfl) rfl rfl ?_
  refine gj_iload_n (q := 12) (gj_dk okX5_goodNext 8 rfl) rfl rfl ?_
  refine gj_iload_n (q := 13) (gj_dk okX5_goodNext 9 rfl) rfl rfl ?_
  refine gj_callV (q := 16) (z := 14) (ci := 5) [jI a1, jI a2, jI a3] rfl (w_X5_otherAfter hst  _ _ _) (gj_dk okX5_goodNext 10 rfl) ml_X5_78 me_X5_otherAfter (sh14 hst) rfl (gj_nm rfl) rfl (gj_kL fun x6 S2 M2 h5 => ?_)
  obtain ⟨eS, eM⟩ := h5; subst eS; subst eM
  refine gj_lstore (q := 18) (gj_dk okX5_goodNext 11 rfl) (by decide) rfl ?_
  refine gj_ldc2 (q := 21) (z := 16) (gj_dk okX5_goodNext 12 rfl) kl_X5_120 (by decide) rfl ?_
  refine gj_lload (q := 23) (gj_dk okX5_goodNext 13 rfl) rfl rfl ?_
  refine gj_lload (q := 25) (gj_dk okX5_goodNext 14 rfl) rfl rfl ?_
  refine gj_ladd (q := 26) (gj_dk okX5_goodNext 15 rfl) rfl ?_
  refine gj_lmul (q := 27) (gj_dk okX5_goodNext 16 rfl) rfl ?_
  refine gj_lstore (q := 29) (gj_dk okX5_goodNext 17 rfl) (by decide) rfl ?_
  refine gj_lload (q := 31) (gj_dk okX5_goodNext 18 rfl) rfl rfl ?_
  refine gj_lconst (q := 32) (z := 0) (gj_dk okX5_goodNext 19 rfl) rfl (by decide) rfl ?_
  refine gj_lcmp (q := 33) (gj_dk okX5_goodNext 20 rfl) rfl ?_
  refine gj_if_gt (q := 36) (tgt := 38) (gj_dk okX5_goodNext 21 rfl) (by decide) rfl (fun c33 => ?_) (fun c33 => ?_)
  · -- 38
    refine gj_ldc2 (q := 41) (z := 1000) (gj_dk okX5_goodNext 24 rfl) kl_X5_81 (by decide) rfl ?_
    refine gj_lload (q := 43) (gj_dk okX5_goodNext 25 rfl) rfl rfl ?_
    refine gj_aload_n (q := 44) (gj_dk okX5_goodNext 26 rfl) rfl rfl ?_
    refine gj_gR (q := 47) (j := 12) (gj_dk okX5_goodNext 27 rfl) ff_X5_18 (sh14 hst) (by decide) rfl (rf14_12 hst) rfl ?_
    refine gj_iload_n (q := 48) (gj_dk okX5_goodNext 28 rfl) rfl rfl ?_
    refine gj_callS (q := 51) [jR 17, jI a1] rfl (c_X7_at (sh17 hst) (by decide) (by decide) _) (gj_dk okX5_goodNext 29 rfl) ml_X5_83 me_X7_at (gj_nm rfl) rfl (gj_kI fun x10 S2 M2 h9 => ?_)
    obtain ⟨-, eS, eM⟩ := h9; subst eS; subst eM
    refine gj_i2l (q := 52) (gj_dk okX5_goodNext 30 rfl) rfl ?_
    refine gj_lmul (q := 53) (gj_dk okX5_goodNext 31 rfl) rfl ?_
    refine gj_lload (q := 55) (gj_dk okX5_goodNext 32 rfl) rfl rfl ?_
    refine gj_aload_n (q := 56) (gj_dk okX5_goodNext 33 rfl) rfl rfl ?_
    refine gj_gR (q := 59) (j := 13) (gj_dk okX5_goodNext 34 rfl) ff_X5_21 (sh14 hst) (by decide) rfl (rf14_13 hst) rfl ?_
    refine gj_iload_n (q := 60) (gj_dk okX5_goodNext 35 rfl) rfl rfl ?_
    refine gj_callS (q := 63) [jR 18, jI a1] rfl (c_X7_at (sh18 hst) (by decide) (by decide) _) (gj_dk okX5_goodNext 36 rfl) ml_X5_83 me_X7_at (gj_nm rfl) rfl (gj_kI fun x13 S2 M2 h12 => ?_)
    obtain ⟨-, eS, eM⟩ := h12; subst eS; subst eM
    refine gj_i2l (q := 64) (gj_dk okX5_goodNext 37 rfl) rfl ?_
    refine gj_lmul (q := 65) (gj_dk okX5_goodNext 38 rfl) rfl ?_
    refine gj_ladd (q := 66) (gj_dk okX5_goodNext 39 rfl) rfl ?_
    refine gj_lmul (q := 67) (gj_dk okX5_goodNext 40 rfl) rfl ?_
    refine gj_lload (q := 69) (gj_dk okX5_goodNext 41 rfl) rfl rfl ?_
    refine gj_ldiv (q := 70) (gj_dk okX5_goodNext 42 rfl) (by have hh := gj_cmp_gt c33; omega) rfl ?_
    refine gj_l2i (q := 71) (gj_dk okX5_goodNext 43 rfl) rfl ?_
    exact gj_iret (gj_dk okX5_goodNext 44 rfl) rfl ⟨_, rfl, rfl, rfl⟩
  · -- 36
    refine gj_iconst (q := 37) (gj_dk okX5_goodNext 22 rfl) (by decide) rfl ?_
    exact gj_iret (gj_dk okX5_goodNext 23 rfl) rfl ⟨_, rfl, rfl, rfl⟩

set_option maxHeartbeats 4000000 in
set_option maxRecDepth 20000 in
theorem w_X5_reckonShown (hst : gj_Stat S) (h : w_CW M0 M)   : gj_C G l 4 0 0 yX5_reckonShown cX5_reckonShown 4 none [jR 14] S M (gj_qV fun S' M' => S = S' ∧ w_CW M0 M') := by
  refine gj_Cof (by decide +kernel) (Nat.le_of_ble_eq_true rfl) ?_
  change gj_W G l 4 0 0 yX5_reckonShown cX5_reckonShown 4 none (gj_qV fun S' M' => S = S' ∧ w_CW M0 M') 0 0 0 [(0, jR 14)] [] S M
  refine gj_iconst (q := 1) (gj_dk okX5_reckonShown 0 rfl) (by decide) rfl ?_
  refine gj_istore_n (q := 2) (gj_dk okX5_reckonShown 1 rfl) (by decide) rfl ?_
  have L2 : ∀ (k2 : Nat) (x1 : Int) (M3 : gj_M), (w_CW M0 M3) → (2147483647 - x1).toNat < k2 → gj_W G l 4 0 0 yX5_reckonShown cX5_reckonShown 4 none (gj_qV fun S' M' => S = S' ∧ w_CW M0 M') 0 0 2 [(0, jR 14), (1, jI x1)] [] S M3 := by
    intro k2
    induction k2 with
    | zero => intro x1 M3 w4 hk2; exact absurd hk2 (Nat.not_lt_zero _)
    | succ k2 ih2 =>
      intro x1 M3 w4 hk2
      refine gj_iload_n (q := 3) (gj_dk okX5_reckonShown 2 rfl) rfl rfl ?_
      refine gj_bipush (q := 5) (gj_dk okX5_reckonShown 3 rfl) (by decide) rfl rfl ?_
      refine gj_rng (fun ho5 _ _ => ?_)
      have ha5 : -2147483648 ≤ x1 ∧ x1 < 2147483648 := gj_o1 ho5
      clear ho5
      refine gj_icmp_ge (q := 8) (tgt := 63) (gj_dk okX5_reckonShown 4 rfl) (by decide) rfl (fun c5 => ?_) (fun c5 => ?_)
      · -- 63
        exact gj_vret (gj_dk okX5_reckonShown 38 rfl) rfl ⟨rfl, rfl, w4⟩
      · -- 8
        refine gj_iconst (q := 9) (gj_dk okX5_reckonShown 5 rfl) (by decide) rfl ?_
        refine gj_istore_n (q := 10) (gj_dk okX5_reckonShown 6 rfl) (by decide) rfl ?_
        have L10 : ∀ (k6 : Nat) (x5 : Int) (M7 : gj_M), (w_CW M0 M7) → (2147483647 - x5).toNat < k6 → gj_W G l 4 0 0 yX5_reckonShown cX5_reckonShown 4 none (gj_qV fun S' M' => S = S' ∧ w_CW M0 M') 0 0 10 [(0, jR 14), (1, jI x1), (2, jI x5)] [] S M7 := by
          intro k6
          induction k6 with
          | zero => intro x5 M7 w8 hk10; exact absurd hk10 (Nat.not_lt_zero _)
          | succ k6 ih10 =>
            intro x5 M7 w8 hk10
            refine gj_iload_n (q := 11) (gj_dk okX5_reckonShown 7 rfl) rfl rfl ?_
            refine gj_iconst (q := 12) (gj_dk okX5_reckonShown 8 rfl) (by decide) rfl ?_
            refine gj_rng (fun ho12 _ _ => ?_)
            have ha12 : -2147483648 ≤ x5 ∧ x5 < 2147483648 := gj_o1 ho12
            clear ho12
            refine gj_icmp_ge (q := 15) (tgt := 57) (gj_dk okX5_reckonShown 9 rfl) (by decide) rfl (fun c12 => ?_) (fun c12 => ?_)
            · -- 57
              refine gj_iinc (q := 60) (v := x1 + 1) (gj_dk okX5_reckonShown 36 rfl) rfl (by decide) (gj_wle (by omega) (by omega)) rfl ?_
              refine gj_goto (tgt := 2) (gj_dk okX5_reckonShown 37 rfl) (by decide) ?_
              refine gj_sub [(0, jR 14), (1, jI (x1 + 1))] ⟨rfl, rfl, trivial⟩ ?_
              exact ih2 _ _ w8 (by omega)
            · -- 15
              refine gj_iconst (q := 16) (gj_dk okX5_reckonShown 10 rfl) (by decide) rfl ?_
              refine gj_istore_n (q := 17) (gj_dk okX5_reckonShown 11 rfl) (by decide) rfl ?_
              have L17 : ∀ (k10 : Nat) (x9 : Int) (M11 : gj_M), (w_CW M0 M11) → (2147483647 - x9).toNat < k10 → gj_W G l 4 0 0 yX5_reckonShown cX5_reckonShown 4 none (gj_qV fun S' M' => S = S' ∧ w_CW M0 M') 0 0 17 [(0, jR 14), (1, jI x1), (2, jI x5), (3, jI x9)] [] S M11 := by
                intro k10
                induction k10 with
                | zero => intro x9 M11 w12 hk17; exact absurd hk17 (Nat.not_lt_zero _)
                | succ k10 ih17 =>
                  intro x9 M11 w12 hk17
                  refine gj_iload_n (q := 18) (gj_dk okX5_reckonShown 12 rfl) rfl rfl ?_
                  refine gj_iconst (q := 19) (gj_dk okX5_reckonShown 13 rfl) (by decide) rfl ?_
                  refine gj_rng (fun ho19 _ _ => ?_)
                  have ha19 : -2147483648 ≤ x9 ∧ x9 < 2147483648 := gj_o1 ho19
                  clear ho19
                  refine gj_icmp_ge (q := 22) (tgt := 51) (gj_dk okX5_reckonShown 14 rfl) (by decide) rfl (fun c19 => ?_) (fun c19 => ?_)
                  · -- 51
                    refine gj_iinc (q := 54) (v := x5 + 1) (gj_dk okX5_reckonShown 34 rfl) rfl (by decide) (gj_wle (by omega) (by omega)) rfl ?_
                    refine gj_goto (tgt := 10) (gj_dk okX5_reckonShown 35 rfl) (by decide) ?_
                    refine gj_sub [(0, jR 14), (1, jI x1), (2, jI (x5 + 1))] ⟨rfl, rfl, rfl, trivial⟩ ?_
                    exact ih10 _ _ w12 (by omega)
                  · -- 22
                    refine gj_aload_n (q := 23) (gj_dk okX5_reckonShown 15 rfl) rfl rfl ?_
                    refine gj_gR (q := 26) (j := 15) (gj_dk okX5_reckonShown 16 rfl) ff_X5_27 (sh14 hst) (by decide) rfl (rf14_15 hst) rfl ?_
                    refine gj_iload_n (q := 27) (gj_dk okX5_reckonShown 17 rfl) rfl rfl ?_
                    refine gj_iconst (q := 28) (gj_dk okX5_reckonShown 18 rfl) (by decide) rfl ?_
                    refine gj_imul (q := 29) (gj_dk okX5_reckonShown 19 rfl) rfl ?_
                    refine gj_iload_n (q := 30) (gj_dk okX5_reckonShown 20 rfl) rfl rfl ?_
                    refine gj_iadd (q := 31) (gj_dk okX5_reckonShown 21 rfl) rfl ?_
                    refine gj_iconst (q := 32) (gj_dk okX5_reckonShown 22 rfl) (by decide) rfl ?_
                    refine gj_imul (q := 33) (gj_dk okX5_reckonShown 23 rfl) rfl ?_
                    refine gj_iload_n (q := 34) (gj_dk okX5_reckonShown 24 rfl) rfl rfl ?_
                    refine gj_iadd (q := 35) (gj_dk okX5_reckonShown 25 rfl) rfl ?_
                    refine gj_aload_n (q := 36) (gj_dk okX5_reckonShown 26 rfl) rfl rfl ?_
                    refine gj_iload_n (q := 37) (gj_dk okX5_reckonShown 27 rfl) rfl rfl ?_
                    refine gj_iload_n (q := 38) (gj_dk okX5_reckonShown 28 rfl) rfl rfl ?_
                    refine gj_iload_n (q := 39) (gj_dk okX5_reckonShown 29 rfl) rfl rfl ?_
                    refine gj_callV (q := 42) (z := 14) (ci := 5) [jI x1, jI x5, jI x9] rfl (w_X5_goodNext hst  _ _ _) (gj_dk okX5_reckonShown 30 rfl) ml_X5_113 me_X5_goodNext (sh14 hst) rfl (gj_nm rfl) rfl (gj_kI fun x14 S2 M2 h13 => ?_)
                    obtain ⟨eS, eM⟩ := h13; subst eS; subst eM
                    refine gj_callS (q := 45) [jR 20, jI (gj_w ((gj_w ((gj_w ((gj_w (x1 * 5)) + x5)) * 5)) + x9)), jI x14] rfl (c_X7_put (sh20 hst) (by decide) (by decide) _ _) (gj_dk okX5_reckonShown 31 rfl) ml_X5_116 me_X7_put (gj_nm rfl) rfl (gj_kV fun S2 M2 h17 => ?_)
                    obtain ⟨eS, eM⟩ := h17; subst eS
                    have w20 : w_CW M0 M2 := by rw [← eM]; exact w_CW.put w12 (by decide) (by decide)
                    clear eM
                    revert w20; generalize M2 = M21; intro w20
                    refine gj_iinc (q := 48) (v := x9 + 1) (gj_dk okX5_reckonShown 32 rfl) rfl (by decide) (gj_wle (by omega) (by omega)) rfl ?_
                    refine gj_goto (tgt := 17) (gj_dk okX5_reckonShown 33 rfl) (by decide) ?_
                    refine gj_sub [(0, jR 14), (1, jI x1), (2, jI x5), (3, jI (x9 + 1))] ⟨rfl, rfl, rfl, rfl, trivial⟩ ?_
                    exact ih17 _ _ w20 (by omega)
              refine gj_sub [(0, jR 14), (1, jI x1), (2, jI x5), (3, jI 0)] ⟨rfl, rfl, rfl, rfl, trivial⟩ ?_
              exact L17 _ _ _ w8 (Nat.lt_succ_self _)
        refine gj_sub [(0, jR 14), (1, jI x1), (2, jI 0)] ⟨rfl, rfl, rfl, trivial⟩ ?_
        exact L10 _ _ _ w4 (Nat.lt_succ_self _)
  refine gj_sub [(0, jR 14), (1, jI 0)] ⟨rfl, rfl, trivial⟩ ?_
  exact L2 _ _ _ h (Nat.lt_succ_self _)

set_option maxHeartbeats 4000000 in
set_option maxRecDepth 20000 in
theorem w_X5_take (hst : gj_Stat S) (h : w_CW M0 M)   : gj_C G l 5 0 0 yX5_take cX5_take 2 none [jR 14, jR 3] S M (gj_qV fun S' M' => S = S' ∧ w_CW M0 M') := by
  refine gj_Cof (by decide +kernel) (Nat.le_of_ble_eq_true rfl) ?_
  change gj_W G l 5 0 0 yX5_take cX5_take 2 none (gj_qV fun S' M' => S = S' ∧ w_CW M0 M') 0 0 0 [(0, jR 14), (1, jR 3)] [] S M
  refine gj_aload_n (q := 1) (gj_dk okX5_take 0 rfl) rfl rfl ?_
  refine gj_ifnonnull (q := 4) (tgt := 5) (gj_dk okX5_take 1 rfl) (by decide) rfl (fun c1 => ?_) (fun c1 => ?_)
  · -- 5
    refine gj_aload_n (q := 6) (gj_dk okX5_take 3 rfl) rfl rfl ?_
    refine gj_aload_n (q := 7) (gj_dk okX5_take 4 rfl) rfl rfl ?_
    refine gj_gI (q := 10) (j := 0) (gj_dk okX5_take 5 rfl) ff_X5_30 (sh3 hst) (by decide) rfl rfl ?_
    refine gj_pfI (q := 13) (j := 0) (gj_dk okX5_take 6 rfl) ff_X5_30 (sh14 hst) (by decide) rfl rfl ?_
    refine gj_abs (fun M1 e3 => ?_)
    have w2 : w_CW M0 M1 := by rw [e3]; exact h.up (by decide) rfl
    clear e3
    refine gj_aload_n (q := 14) (gj_dk okX5_take 7 rfl) rfl rfl ?_
    refine gj_aload_n (q := 15) (gj_dk okX5_take 8 rfl) rfl rfl ?_
    refine gj_gI (q := 18) (j := 1) (gj_dk okX5_take 9 rfl) ff_X5_34 (sh3 hst) (by decide) rfl rfl ?_
    refine gj_pfI (q := 21) (j := 1) (gj_dk okX5_take 10 rfl) ff_X5_34 (sh14 hst) (by decide) rfl rfl ?_
    refine gj_abs (fun M4 e6 => ?_)
    have w5 : w_CW M0 M4 := by rw [e6]; exact w2.up (by decide) rfl
    clear e6
    refine gj_aload_n (q := 22) (gj_dk okX5_take 11 rfl) rfl rfl ?_
    refine gj_aload_n (q := 23) (gj_dk okX5_take 12 rfl) rfl rfl ?_
    refine gj_gI (q := 26) (j := 2) (gj_dk okX5_take 13 rfl) ff_X5_37 (sh3 hst) (by decide) rfl rfl ?_
    refine gj_pfI (q := 29) (j := 2) (gj_dk okX5_take 14 rfl) ff_X5_37 (sh14 hst) (by decide) rfl rfl ?_
    refine gj_abs (fun M7 e9 => ?_)
    have w8 : w_CW M0 M7 := by rw [e9]; exact w5.up (by decide) rfl
    clear e9
    refine gj_aload_n (q := 30) (gj_dk okX5_take 15 rfl) rfl rfl ?_
    refine gj_aload_n (q := 31) (gj_dk okX5_take 16 rfl) rfl rfl ?_
    refine gj_gI (q := 34) (j := 3) (gj_dk okX5_take 17 rfl) ff_X5_40 (sh3 hst) (by decide) rfl rfl ?_
    refine gj_pfI (q := 37) (j := 3) (gj_dk okX5_take 18 rfl) ff_X5_40 (sh14 hst) (by decide) rfl rfl ?_
    refine gj_abs (fun M10 e12 => ?_)
    have w11 : w_CW M0 M10 := by rw [e12]; exact w8.up (by decide) rfl
    clear e12
    refine gj_aload_n (q := 38) (gj_dk okX5_take 19 rfl) rfl rfl ?_
    refine gj_aload_n (q := 39) (gj_dk okX5_take 20 rfl) rfl rfl ?_
    refine gj_gI (q := 42) (j := 4) (gj_dk okX5_take 21 rfl) ff_X5_43 (sh3 hst) (by decide) rfl rfl ?_
    refine gj_pfI (q := 45) (j := 4) (gj_dk okX5_take 22 rfl) ff_X5_43 (sh14 hst) (by decide) rfl rfl ?_
    refine gj_abs (fun M13 e15 => ?_)
    have w14 : w_CW M0 M13 := by rw [e15]; exact w11.up (by decide) rfl
    clear e15
    refine gj_aload_n (q := 46) (gj_dk okX5_take 23 rfl) rfl rfl ?_
    refine gj_aload_n (q := 47) (gj_dk okX5_take 24 rfl) rfl rfl ?_
    refine gj_gI (q := 50) (j := 5) (gj_dk okX5_take 25 rfl) ff_X5_46 (sh3 hst) (by decide) rfl rfl ?_
    refine gj_pfI (q := 53) (j := 5) (gj_dk okX5_take 26 rfl) ff_X5_46 (sh14 hst) (by decide) rfl rfl ?_
    refine gj_abs (fun M16 e18 => ?_)
    have w17 : w_CW M0 M16 := by rw [e18]; exact w14.up (by decide) rfl
    clear e18
    refine gj_aload_n (q := 54) (gj_dk okX5_take 27 rfl) rfl rfl ?_
    refine gj_aload_n (q := 55) (gj_dk okX5_take 28 rfl) rfl rfl ?_
    refine gj_gI (q := 58) (j := 6) (gj_dk okX5_take 29 rfl) ff_X5_49 (sh3 hst) (by decide) rfl rfl ?_
    refine gj_pfI (q := 61) (j := 6) (gj_dk okX5_take 30 rfl) ff_X5_49 (sh14 hst) (by decide) rfl rfl ?_
    refine gj_abs (fun M19 e21 => ?_)
    have w20 : w_CW M0 M19 := by rw [e21]; exact w17.up (by decide) rfl
    clear e21
    refine gj_aload_n (q := 62) (gj_dk okX5_take 31 rfl) rfl rfl ?_
    refine gj_aload_n (q := 63) (gj_dk okX5_take 32 rfl) rfl rfl ?_
    refine gj_gI (q := 66) (j := 7) (gj_dk okX5_take 33 rfl) ff_X5_52 (sh3 hst) (by decide) rfl rfl ?_
    refine gj_pfI (q := 69) (j := 7) (gj_dk okX5_take 34 rfl) ff_X5_52 (sh14 hst) (by decide) rfl rfl ?_
    refine gj_abs (fun M22 e24 => ?_)
    have w23 : w_CW M0 M22 := by rw [e24]; exact w20.up (by decide) rfl
    clear e24
    refine gj_aload_n (q := 70) (gj_dk okX5_take 35 rfl) rfl rfl ?_
    refine gj_aload_n (q := 71) (gj_dk okX5_take 36 rfl) rfl rfl ?_
    refine gj_gI (q := 74) (j := 8) (gj_dk okX5_take 37 rfl) ff_X5_55 (sh3 hst) (by decide) rfl rfl ?_
    refine gj_pfI (q := 77) (j := 8) (gj_dk okX5_take 38 rfl) ff_X5_55 (sh14 hst) (by decide) rfl rfl ?_
    refine gj_abs (fun M25 e27 => ?_)
    have w26 : w_CW M0 M25 := by rw [e27]; exact w23.up (by decide) rfl
    clear e27
    refine gj_aload_n (q := 78) (gj_dk okX5_take 39 rfl) rfl rfl ?_
    refine gj_aload_n (q := 79) (gj_dk okX5_take 40 rfl) rfl rfl ?_
    refine gj_gI (q := 82) (j := 9) (gj_dk okX5_take 41 rfl) ff_X5_58 (sh3 hst) (by decide) rfl rfl ?_
    refine gj_pfI (q := 85) (j := 9) (gj_dk okX5_take 42 rfl) ff_X5_58 (sh14 hst) (by decide) rfl rfl ?_
    refine gj_abs (fun M28 e30 => ?_)
    have w29 : w_CW M0 M28 := by rw [e30]; exact w_CW.upA (by decide) w26 (by exact w26.2.2.1)
    clear e30
    refine gj_aload_n (q := 86) (gj_dk okX5_take 43 rfl) rfl rfl ?_
    refine gj_gR (q := 89) (j := 10) (gj_dk okX5_take 44 rfl) ff_X5_9 (sh3 hst) (by decide) rfl (rf3_10 hst) rfl ?_
    refine gj_aload_n (q := 90) (gj_dk okX5_take 45 rfl) rfl rfl ?_
    refine gj_gR (q := 93) (j := 10) (gj_dk okX5_take 46 rfl) ff_X5_9 (sh14 hst) (by decide) rfl (rf14_10 hst) rfl ?_
    refine gj_callS (q := 96) [jR 4, jR 15] rfl (c_X7_copy (sh4 hst) (by decide) (by decide) (sh15 hst) (by decide) (by decide) (by decide)) (gj_dk okX5_take 47 rfl) ml_X5_67 me_X7_copy (gj_nm rfl) rfl (gj_kV fun S2 M2 h31 => ?_)
    obtain ⟨eS, eM⟩ := h31; subst eS
    have w34 : w_CW M0 M2 := by rw [← eM]; exact w_CW.copy w29 (by decide) (by decide)
    clear eM
    revert w34; generalize M2 = M35; intro w34
    refine gj_aload_n (q := 97) (gj_dk okX5_take 48 rfl) rfl rfl ?_
    refine gj_gR (q := 100) (j := 11) (gj_dk okX5_take 49 rfl) ff_X5_15 (sh3 hst) (by decide) rfl (rf3_11 hst) rfl ?_
    refine gj_aload_n (q := 101) (gj_dk okX5_take 50 rfl) rfl rfl ?_
    refine gj_gR (q := 104) (j := 11) (gj_dk okX5_take 51 rfl) ff_X5_15 (sh14 hst) (by decide) rfl (rf14_11 hst) rfl ?_
    refine gj_callS (q := 107) [jR 5, jR 16] rfl (c_X7_copy (sh5 hst) (by decide) (by decide) (sh16 hst) (by decide) (by decide) (by decide)) (gj_dk okX5_take 52 rfl) ml_X5_67 me_X7_copy (gj_nm rfl) rfl (gj_kV fun S2 M2 h36 => ?_)
    obtain ⟨eS, eM⟩ := h36; subst eS
    have w39 : w_CW M0 M2 := by rw [← eM]; exact w_CW.copy w34 (by decide) (by decide)
    clear eM
    revert w39; generalize M2 = M40; intro w39
    refine gj_aload_n (q := 108) (gj_dk okX5_take 53 rfl) rfl rfl ?_
    refine gj_gR (q := 111) (j := 12) (gj_dk okX5_take 54 rfl) ff_X5_18 (sh3 hst) (by decide) rfl (rf3_12 hst) rfl ?_
    refine gj_aload_n (q := 112) (gj_dk okX5_take 55 rfl) rfl rfl ?_
    refine gj_gR (q := 115) (j := 12) (gj_dk okX5_take 56 rfl) ff_X5_18 (sh14 hst) (by decide) rfl (rf14_12 hst) rfl ?_
    refine gj_callS (q := 118) [jR 6, jR 17] rfl (c_X7_copy (sh6 hst) (by decide) (by decide) (sh17 hst) (by decide) (by decide) (by decide)) (gj_dk okX5_take 57 rfl) ml_X5_67 me_X7_copy (gj_nm rfl) rfl (gj_kV fun S2 M2 h41 => ?_)
    obtain ⟨eS, eM⟩ := h41; subst eS
    have w44 : w_CW M0 M2 := by rw [← eM]; exact w_CW.copy w39 (by decide) (by decide)
    clear eM
    revert w44; generalize M2 = M45; intro w44
    refine gj_aload_n (q := 119) (gj_dk okX5_take 58 rfl) rfl rfl ?_
    refine gj_gR (q := 122) (j := 13) (gj_dk okX5_take 59 rfl) ff_X5_21 (sh3 hst) (by decide) rfl (rf3_13 hst) rfl ?_
    refine gj_aload_n (q := 123) (gj_dk okX5_take 60 rfl) rfl rfl ?_
    refine gj_gR (q := 126) (j := 13) (gj_dk okX5_take 61 rfl) ff_X5_21 (sh14 hst) (by decide) rfl (rf14_13 hst) rfl ?_
    refine gj_callS (q := 129) [jR 7, jR 18] rfl (c_X7_copy (sh7 hst) (by decide) (by decide) (sh18 hst) (by decide) (by decide) (by decide)) (gj_dk okX5_take 62 rfl) ml_X5_67 me_X7_copy (gj_nm rfl) rfl (gj_kV fun S2 M2 h46 => ?_)
    obtain ⟨eS, eM⟩ := h46; subst eS
    have w49 : w_CW M0 M2 := by rw [← eM]; exact w_CW.copy w44 (by decide) (by decide)
    clear eM
    revert w49; generalize M2 = M50; intro w49
    refine gj_aload_n (q := 130) (gj_dk okX5_take 63 rfl) rfl rfl ?_
    refine gj_gR (q := 133) (j := 14) (gj_dk okX5_take 64 rfl) ff_X5_24 (sh3 hst) (by decide) rfl (rf3_14 hst) rfl ?_
    refine gj_aload_n (q := 134) (gj_dk okX5_take 65 rfl) rfl rfl ?_
    refine gj_gR (q := 137) (j := 14) (gj_dk okX5_take 66 rfl) ff_X5_24 (sh14 hst) (by decide) rfl (rf14_14 hst) rfl ?_
    refine gj_callS (q := 140) [jR 8, jR 19] rfl (c_X7_copy (sh8 hst) (by decide) (by decide) (sh19 hst) (by decide) (by decide) (by decide)) (gj_dk okX5_take 67 rfl) ml_X5_67 me_X7_copy (gj_nm rfl) rfl (gj_kV fun S2 M2 h51 => ?_)
    obtain ⟨eS, eM⟩ := h51; subst eS
    have w54 : w_CW M0 M2 := by rw [← eM]; exact w_CW.copy w49 (by decide) (by decide)
    clear eM
    revert w54; generalize M2 = M55; intro w54
    refine gj_aload_n (q := 141) (gj_dk okX5_take 68 rfl) rfl rfl ?_
    refine gj_callV (q := 144) (z := 14) (ci := 5) [] rfl (w_X5_reckonShown hst w54  ) (gj_dk okX5_take 69 rfl) ml_X5_71 me_X5_reckonShown (sh14 hst) rfl (gj_nm rfl) rfl (gj_kV fun S2 M2 h56 => ?_)
    obtain ⟨eS, w59⟩ := h56; subst eS
    revert w59; generalize M2 = M60; intro w59
    exact gj_vret (gj_dk okX5_take 70 rfl) rfl ⟨rfl, rfl, w59⟩
  · first | exact absurd c1 (by decide) | exact absurd rfl c1

set_option maxHeartbeats 4000000 in
set_option maxRecDepth 20000 in
theorem w_X0_spread (hst : gj_Stat S) (h : w_CW M0 M) (a1 : Int)  : gj_C G l 2 0 0 yX0_spread cX0_spread 6 (some .boolean) [jR 41, jI a1] S M (gj_qI fun x S' M' => (x = 0 ∨ x = 1) ∧ S = S' ∧ w_CW M0 M') := by
  refine gj_Cof (by decide +kernel) (Nat.le_of_ble_eq_true rfl) ?_
  change gj_W G l 2 0 0 yX0_spread cX0_spread 6 (some .boolean) (gj_qI fun x S' M' => (x = 0 ∨ x = 1) ∧ S = S' ∧ w_CW M0 M') 0 0 0 [(0, jR 41), (1, jI a1)] [] S M
  refine gj_aload_n (q := 1) (gj_dk okX0_spread 0 rfl) rfl rfl ?_
  refine gj_gR (q := 4) (j := 1) (gj_dk okX0_spread 1 rfl) ff_X0_11 (sh41 hst) (by decide) rfl (rf41_1 hst) rfl ?_
  refine gj_iconst (q := 5) (gj_dk okX0_spread 2 rfl) (by decide) rfl ?_
  refine gj_callS (q := 8) [jR 42, jI (-1)] rfl (c_X7_fill (sh42 hst) (by decide) (by decide) _) (gj_dk okX0_spread 3 rfl) ml_X0_38 me_X7_fill (gj_nm rfl) rfl (gj_kV fun S2 M2 h1 => ?_)
  obtain ⟨eS, eM⟩ := h1; subst eS
  have w4 : w_CW M0 M2 := by rw [← eM]; exact w_CW.fill h (by decide) (by decide)
  clear eM
  revert w4; generalize M2 = M5; intro w4
  refine gj_iload_n (q := 9) (gj_dk okX0_spread 4 rfl) rfl rfl ?_
  refine gj_istore_n (q := 10) (gj_dk okX0_spread 5 rfl) (by decide) rfl ?_
  refine gj_iconst (q := 11) (gj_dk okX0_spread 6 rfl) (by decide) rfl ?_
  refine gj_istore_n (q := 12) (gj_dk okX0_spread 7 rfl) (by decide) rfl ?_
  have L12 : ∀ (k8 : Nat) (x6 x7 : Int) (M9 : gj_M), (x7 ≤ 3) → (w_CW M0 M9) → (x7 + 1).toNat < k8 → gj_W G l 2 0 0 yX0_spread cX0_spread 6 (some .boolean) (gj_qI fun x S' M' => (x = 0 ∨ x = 1) ∧ S = S' ∧ w_CW M0 M') 0 0 12 [(0, jR 41), (1, jI a1), (2, jI x6), (3, jI x7)] [] S M9 := by
    intro k8
    induction k8 with
    | zero => intro x6 x7 M9 f11 w10 hk12; exact absurd hk12 (Nat.not_lt_zero _)
    | succ k8 ih12 =>
      intro x6 x7 M9 f11 w10 hk12
      refine gj_iload_n (q := 13) (gj_dk okX0_spread 8 rfl) rfl rfl ?_
      refine gj_if_lt (q := 16) (tgt := 105) (gj_dk okX0_spread 9 rfl) (by decide) rfl (fun c13 => ?_) (fun c13 => ?_)
      · -- 105
        refine gj_iconst (q := 106) (gj_dk okX0_spread 57 rfl) (by decide) rfl ?_
        exact gj_zret (gj_dk okX0_spread 58 rfl) rfl (by first | decide | assumption | omega) ⟨_, rfl, (by first | decide | assumption | omega), rfl, w10⟩
      · -- 16
        refine gj_iload_n (q := 17) (gj_dk okX0_spread 10 rfl) rfl rfl ?_
        refine gj_iconst (q := 18) (gj_dk okX0_spread 11 rfl) (by decide) rfl ?_
        refine gj_irem (q := 19) (gj_dk okX0_spread 12 rfl) (by decide) rfl ?_
        refine gj_istore (q := 21) (gj_dk okX0_spread 13 rfl) (by decide) rfl ?_
        refine gj_iload_n (q := 22) (gj_dk okX0_spread 14 rfl) rfl rfl ?_
        refine gj_iconst (q := 23) (gj_dk okX0_spread 15 rfl) (by decide) rfl ?_
        refine gj_idiv (q := 24) (gj_dk okX0_spread 16 rfl) (by decide) rfl ?_
        refine gj_istore_n (q := 25) (gj_dk okX0_spread 17 rfl) (by decide) rfl ?_
        refine gj_iload (q := 27) (gj_dk okX0_spread 18 rfl) rfl rfl ?_
        refine gj_if_ne (q := 30) (tgt := 33) (gj_dk okX0_spread 19 rfl) (by decide) rfl (fun c27 => ?_) (fun c27 => ?_)
        · -- 33
          refine gj_iconst (q := 34) (gj_dk okX0_spread 21 rfl) (by decide) rfl ?_
          refine gj_iload (q := 36) (gj_dk okX0_spread 22 rfl) rfl rfl ?_
          refine gj_iadd (q := 37) (gj_dk okX0_spread 23 rfl) rfl ?_
          refine gj_iconst (q := 38) (gj_dk okX0_spread 24 rfl) (by decide) rfl ?_
          refine gj_isub (q := 39) (gj_dk okX0_spread 25 rfl) rfl ?_
          refine gj_istore (q := 41) (gj_dk okX0_spread 26 rfl) (by decide) rfl ?_
          refine gj_aload_n (q := 42) (gj_dk okX0_spread 27 rfl) rfl rfl ?_
          refine gj_gR (q := 45) (j := 0) (gj_dk okX0_spread 28 rfl) ff_X0_18 (sh41 hst) (by decide) rfl (rf41_0 hst) rfl ?_
          refine gj_iload_n (q := 46) (gj_dk okX0_spread 29 rfl) rfl rfl ?_
          refine gj_callV (q := 49) (z := 14) (ci := 5) [jI x7] rfl (w_X5_isPerson_14 hst  _) (gj_dk okX0_spread 30 rfl) ml_X0_42 me_X5_isPerson (sh14 hst) rfl (gj_nm rfl) rfl (gj_kI fun x13 S2 M2 h12 => ?_)
          obtain ⟨bx13, eS, eM⟩ := h12; subst eS; subst eM
          refine gj_if_eq (q := 52) (tgt := 77) (gj_dk okX0_spread 31 rfl) (by decide) rfl (fun c49 => ?_) (fun c49 => ?_)
          · -- 77
            refine gj_iconst (q := 78) (gj_dk okX0_spread 43 rfl) (by decide) rfl ?_
            exact gj_zret (gj_dk okX0_spread 44 rfl) rfl (by first | decide | assumption | omega) ⟨_, rfl, (by first | decide | assumption | omega), rfl, w10⟩
          · -- 52
            refine gj_aload_n (q := 53) (gj_dk okX0_spread 32 rfl) rfl rfl ?_
            refine gj_gR (q := 56) (j := 0) (gj_dk okX0_spread 33 rfl) ff_X0_18 (sh41 hst) (by decide) rfl (rf41_0 hst) rfl ?_
            refine gj_iload (q := 58) (gj_dk okX0_spread 34 rfl) rfl rfl ?_
            refine gj_callV (q := 61) (z := 14) (ci := 5) [jI (gj_w ((gj_w (4 + (Int.tmod x6 5))) - 1))] rfl (w_X5_isPerson_14 hst  _) (gj_dk okX0_spread 35 rfl) ml_X0_42 me_X5_isPerson (sh14 hst) rfl (gj_nm rfl) rfl (gj_kI fun x17 S2 M2 h16 => ?_)
            obtain ⟨bx17, eS, eM⟩ := h16; subst eS; subst eM
            refine gj_if_eq (q := 64) (tgt := 77) (gj_dk okX0_spread 36 rfl) (by decide) rfl (fun c61 => ?_) (fun c61 => ?_)
            · -- 77
              refine gj_iconst (q := 78) (gj_dk okX0_spread 43 rfl) (by decide) rfl ?_
              exact gj_zret (gj_dk okX0_spread 44 rfl) rfl (by first | decide | assumption | omega) ⟨_, rfl, (by first | decide | assumption | omega), rfl, w10⟩
            · -- 64
              refine gj_aload_n (q := 65) (gj_dk okX0_spread 37 rfl) rfl rfl ?_
              refine gj_gR (q := 68) (j := 1) (gj_dk okX0_spread 38 rfl) ff_X0_11 (sh41 hst) (by decide) rfl (rf41_1 hst) rfl ?_
              refine gj_iload (q := 70) (gj_dk okX0_spread 39 rfl) rfl rfl ?_
              refine gj_callS (q := 73) [jR 42, jI (gj_w ((gj_w (4 + (Int.tmod x6 5))) - 1))] rfl (c_X7_at (sh42 hst) (by decide) (by decide) _) (gj_dk okX0_spread 40 rfl) ml_X0_45 me_X7_at (gj_nm rfl) rfl (gj_kI fun x21 S2 M2 h20 => ?_)
              obtain ⟨-, eS, eM⟩ := h20; subst eS; subst eM
              refine gj_iconst (q := 74) (gj_dk okX0_spread 41 rfl) (by decide) rfl ?_
              refine gj_rng (fun ho74 _ _ => ?_)
              have ha74 : -2147483648 ≤ x21 ∧ x21 < 2147483648 := gj_o1 ho74
              clear ho74
              refine gj_icmp_eq (q := 77) (tgt := 79) (gj_dk okX0_spread 42 rfl) (by decide) rfl (fun c74 => ?_) (fun c74 => ?_)
              · -- 79
                refine gj_aload_n (q := 80) (gj_dk okX0_spread 45 rfl) rfl rfl ?_
                refine gj_gR (q := 83) (j := 1) (gj_dk okX0_spread 46 rfl) ff_X0_11 (sh41 hst) (by decide) rfl (rf41_1 hst) rfl ?_
                refine gj_iload_n (q := 84) (gj_dk okX0_spread 47 rfl) rfl rfl ?_
                refine gj_iload (q := 86) (gj_dk okX0_spread 48 rfl) rfl rfl ?_
                refine gj_callS (q := 89) [jR 42, jI x7, jI (gj_w ((gj_w (4 + (Int.tmod x6 5))) - 1))] rfl (c_X7_put (sh42 hst) (by decide) (by decide) _ _) (gj_dk okX0_spread 49 rfl) ml_X0_49 me_X7_put (gj_nm rfl) rfl (gj_kV fun S2 M2 h23 => ?_)
                obtain ⟨eS, eM⟩ := h23; subst eS
                have w26 : w_CW M0 M2 := by rw [← eM]; exact w_CW.put w10 (by decide) (by decide)
                clear eM
                revert w26; generalize M2 = M27; intro w26
                refine gj_aload_n (q := 90) (gj_dk okX0_spread 50 rfl) rfl rfl ?_
                refine gj_gR (q := 93) (j := 1) (gj_dk okX0_spread 51 rfl) ff_X0_11 (sh41 hst) (by decide) rfl (rf41_1 hst) rfl ?_
                refine gj_iload (q := 95) (gj_dk okX0_spread 52 rfl) rfl rfl ?_
                refine gj_iload_n (q := 96) (gj_dk okX0_spread 53 rfl) rfl rfl ?_
                refine gj_callS (q := 99) [jR 42, jI (gj_w ((gj_w (4 + (Int.tmod x6 5))) - 1)), jI x7] rfl (c_X7_put (sh42 hst) (by decide) (by decide) _ _) (gj_dk okX0_spread 54 rfl) ml_X0_49 me_X7_put (gj_nm rfl) rfl (gj_kV fun S2 M2 h28 => ?_)
                obtain ⟨eS, eM⟩ := h28; subst eS
                have w31 : w_CW M0 M2 := by rw [← eM]; exact w_CW.put w26 (by decide) (by decide)
                clear eM
                revert w31; generalize M2 = M32; intro w31
                refine gj_iinc (q := 102) (v := x7 + (-1)) (gj_dk okX0_spread 55 rfl) rfl (by decide) (gj_wle (by omega) (by omega)) rfl ?_
                refine gj_goto (tgt := 12) (gj_dk okX0_spread 56 rfl) (by decide) ?_
                refine gj_sub [(0, jR 41), (1, jI a1), (2, jI (gj_w (Int.tdiv x6 5))), (3, jI (x7 + (-1)))] ⟨rfl, rfl, rfl, rfl, trivial⟩ ?_
                exact ih12 _ _ _ (by omega) w31 (by omega)
              · -- 77
                refine gj_iconst (q := 78) (gj_dk okX0_spread 43 rfl) (by decide) rfl ?_
                exact gj_zret (gj_dk okX0_spread 44 rfl) rfl (by first | decide | assumption | omega) ⟨_, rfl, (by first | decide | assumption | omega), rfl, w10⟩
        · -- 30
          refine gj_goto (tgt := 99) (gj_dk okX0_spread 20 rfl) (by decide) ?_
          refine gj_iinc (q := 102) (v := x7 + (-1)) (gj_dk okX0_spread 55 rfl) rfl (by decide) (gj_wle (by omega) (by omega)) rfl ?_
          refine gj_goto (tgt := 12) (gj_dk okX0_spread 56 rfl) (by decide) ?_
          refine gj_sub [(0, jR 41), (1, jI a1), (2, jI (gj_w (Int.tdiv x6 5))), (3, jI (x7 + (-1)))] ⟨rfl, rfl, rfl, rfl, trivial⟩ ?_
          exact ih12 _ _ _ (by omega) w10 (by omega)
  refine gj_sub [(0, jR 41), (1, jI a1), (2, jI a1), (3, jI 3)] ⟨rfl, rfl, rfl, rfl, trivial⟩ ?_
  exact L12 _ _ _ _ (by omega) w4 (Nat.lt_succ_self _)

set_option maxHeartbeats 4000000 in
set_option maxRecDepth 20000 in
theorem w_X5_trueYear (hst : gj_Stat S) (a1 a2 : Int)  : gj_C G l 2 0 0 yX5_trueYear cX5_trueYear 4 (some .int) [jR 14, jI a1, jI a2] S M (gj_qI fun x S' M' => S = S' ∧ M = M') := by
  refine gj_Cof (by decide +kernel) (Nat.le_of_ble_eq_true rfl) ?_
  change gj_W G l 2 0 0 yX5_trueYear cX5_trueYear 4 (some .int) (gj_qI fun x S' M' => S = S' ∧ M = M') 0 0 0 [(0, jR 14), (1, jI a1), (2, jI a2)] [] S M
  refine gj_iload_n (q := 1) (gj_dk okX5_trueYear 0 rfl) rfl rfl ?_
  refine gj_iconst (q := 2) (gj_dk okX5_trueYear 1 rfl) (by decide) rfl ?_
  refine gj_icmp_ne (q := 5) (tgt := 17) (gj_dk okX5_trueYear 2 rfl) (by decide) rfl (fun c2 => ?_) (fun c2 => ?_)
  · -- 17
    refine gj_aload_n (q := 18) (gj_dk okX5_trueYear 10 rfl) rfl rfl ?_
    refine gj_gR (q := 21) (j := 14) (gj_dk okX5_trueYear 11 rfl) ff_X5_24 (sh14 hst) (by decide) rfl (rf14_14 hst) rfl ?_
    refine gj_iload_n (q := 22) (gj_dk okX5_trueYear 12 rfl) rfl rfl ?_
    refine gj_iload_n (q := 23) (gj_dk okX5_trueYear 13 rfl) rfl rfl ?_
    refine gj_callS (q := 26) [jI a1, jI a2] rfl (c_X10_couple _ _) (gj_dk okX5_trueYear 14 rfl) ml_X5_108 me_X10_couple (gj_nm rfl) rfl (gj_kI fun x2 S2 M2 h1 => ?_)
    obtain ⟨-, eS, eM⟩ := h1; subst eS; subst eM
    refine gj_callS (q := 29) [jR 19, jI x2] rfl (c_X7_at (sh19 hst) (by decide) (by decide) _) (gj_dk okX5_trueYear 15 rfl) ml_X5_83 me_X7_at (gj_nm rfl) rfl (gj_kI fun x5 S2 M2 h4 => ?_)
    obtain ⟨-, eS, eM⟩ := h4; subst eS; subst eM
    refine gj_istore_n (q := 30) (gj_dk okX5_trueYear 16 rfl) (by decide) rfl ?_
    refine gj_iload_n (q := 31) (gj_dk okX5_trueYear 17 rfl) rfl rfl ?_
    refine gj_aload_n (q := 32) (gj_dk okX5_trueYear 18 rfl) rfl rfl ?_
    refine gj_gI (q := 35) (j := 2) (gj_dk okX5_trueYear 19 rfl) ff_X5_37 (sh14 hst) (by decide) rfl rfl ?_
    refine gj_imul (q := 36) (gj_dk okX5_trueYear 20 rfl) rfl ?_
    refine gj_bipush (q := 38) (gj_dk okX5_trueYear 21 rfl) (by decide) rfl rfl ?_
    refine gj_iload_n (q := 39) (gj_dk okX5_trueYear 22 rfl) rfl rfl ?_
    refine gj_isub (q := 40) (gj_dk okX5_trueYear 23 rfl) rfl ?_
    refine gj_aload_n (q := 41) (gj_dk okX5_trueYear 24 rfl) rfl rfl ?_
    refine gj_gI (q := 44) (j := 3) (gj_dk okX5_trueYear 25 rfl) ff_X5_40 (sh14 hst) (by decide) rfl rfl ?_
    refine gj_imul (q := 45) (gj_dk okX5_trueYear 26 rfl) rfl ?_
    refine gj_iadd (q := 46) (gj_dk okX5_trueYear 27 rfl) rfl ?_
    exact gj_iret (gj_dk okX5_trueYear 28 rfl) rfl ⟨_, rfl, rfl, rfl⟩
  · -- 5
    refine gj_bipush (q := 7) (gj_dk okX5_trueYear 3 rfl) (by decide) rfl rfl ?_
    refine gj_aload_n (q := 8) (gj_dk okX5_trueYear 4 rfl) rfl rfl ?_
    refine gj_gR (q := 11) (j := 10) (gj_dk okX5_trueYear 5 rfl) ff_X5_9 (sh14 hst) (by decide) rfl (rf14_10 hst) rfl ?_
    refine gj_iload_n (q := 12) (gj_dk okX5_trueYear 6 rfl) rfl rfl ?_
    refine gj_callS (q := 15) [jR 15, jI a1] rfl (c_X7_at (sh15 hst) (by decide) (by decide) _) (gj_dk okX5_trueYear 7 rfl) ml_X5_83 me_X7_at (gj_nm rfl) rfl (gj_kI fun x8 S2 M2 h7 => ?_)
    obtain ⟨-, eS, eM⟩ := h7; subst eS; subst eM
    refine gj_imul (q := 16) (gj_dk okX5_trueYear 8 rfl) rfl ?_
    exact gj_iret (gj_dk okX5_trueYear 9 rfl) rfl ⟨_, rfl, rfl, rfl⟩

set_option maxHeartbeats 4000000 in
set_option maxRecDepth 20000 in
theorem w_X5_yearSum (hst : gj_Stat S) {z : Int} (hz : S.2.1 z = (0, 8)) (h0 : 0 ≤ z)   : gj_C G l 3 0 0 yX5_yearSum cX5_yearSum 4 (some .int) [jR 14, jR z] S M (gj_qI fun x S' M' => S = S' ∧ M = M') := by
  refine gj_Cof (by decide +kernel) (Nat.le_of_ble_eq_true rfl) ?_
  change gj_W G l 3 0 0 yX5_yearSum cX5_yearSum 4 (some .int) (gj_qI fun x S' M' => S = S' ∧ M = M') 0 0 0 [(0, jR 14), (1, jR z)] [] S M
  refine gj_iconst (q := 1) (gj_dk okX5_yearSum 0 rfl) (by decide) rfl ?_
  refine gj_istore_n (q := 2) (gj_dk okX5_yearSum 1 rfl) (by decide) rfl ?_
  refine gj_iconst (q := 3) (gj_dk okX5_yearSum 2 rfl) (by decide) rfl ?_
  refine gj_istore_n (q := 4) (gj_dk okX5_yearSum 3 rfl) (by decide) rfl ?_
  have L4 : ∀ (k3 : Nat) (x1 x2 : Int), (2147483647 - x2).toNat < k3 → gj_W G l 3 0 0 yX5_yearSum cX5_yearSum 4 (some .int) (gj_qI fun x S' M' => S = S' ∧ M = M') 0 0 4 [(0, jR 14), (1, jR z), (2, jI x1), (3, jI x2)] [] S M := by
    intro k3
    induction k3 with
    | zero => intro x1 x2 hk4; exact absurd hk4 (Nat.not_lt_zero _)
    | succ k3 ih4 =>
      intro x1 x2 hk4
      refine gj_iload_n (q := 5) (gj_dk okX5_yearSum 4 rfl) rfl rfl ?_
      refine gj_bipush (q := 7) (gj_dk okX5_yearSum 5 rfl) (by decide) rfl rfl ?_
      refine gj_rng (fun ho7 _ _ => ?_)
      have ha7 : -2147483648 ≤ x2 ∧ x2 < 2147483648 := gj_o1 ho7
      clear ho7
      refine gj_icmp_ge (q := 10) (tgt := 37) (gj_dk okX5_yearSum 6 rfl) (by decide) rfl (fun c7 => ?_) (fun c7 => ?_)
      · -- 37
        refine gj_iload_n (q := 38) (gj_dk okX5_yearSum 22 rfl) rfl rfl ?_
        exact gj_iret (gj_dk okX5_yearSum 23 rfl) rfl ⟨_, rfl, rfl, rfl⟩
      · -- 10
        refine gj_aload_n (q := 11) (gj_dk okX5_yearSum 7 rfl) rfl rfl ?_
        refine gj_iload_n (q := 12) (gj_dk okX5_yearSum 8 rfl) rfl rfl ?_
        refine gj_callV (q := 15) (z := 14) (ci := 5) [jI x2] rfl (w_X5_isPerson_14 hst  _) (gj_dk okX5_yearSum 9 rfl) ml_X5_91 me_X5_isPerson (sh14 hst) rfl (gj_nm rfl) rfl (gj_kI fun x5 S2 M2 h4 => ?_)
        obtain ⟨bx5, eS, eM⟩ := h4; subst eS; subst eM
        refine gj_if_eq (q := 18) (tgt := 31) (gj_dk okX5_yearSum 10 rfl) (by decide) rfl (fun c15 => ?_) (fun c15 => ?_)
        · -- 31
          refine gj_iinc (q := 34) (v := x2 + 1) (gj_dk okX5_yearSum 20 rfl) rfl (by decide) (gj_wle (by omega) (by omega)) rfl ?_
          refine gj_goto (tgt := 4) (gj_dk okX5_yearSum 21 rfl) (by decide) ?_
          refine gj_sub [(0, jR 14), (1, jR z), (2, jI x1), (3, jI (x2 + 1))] ⟨rfl, rfl, rfl, rfl, trivial⟩ ?_
          exact ih4 _ _ (by omega)
        · -- 18
          refine gj_iload_n (q := 19) (gj_dk okX5_yearSum 11 rfl) rfl rfl ?_
          refine gj_aload_n (q := 20) (gj_dk okX5_yearSum 12 rfl) rfl rfl ?_
          refine gj_iload_n (q := 21) (gj_dk okX5_yearSum 13 rfl) rfl rfl ?_
          refine gj_aload_n (q := 22) (gj_dk okX5_yearSum 14 rfl) rfl rfl ?_
          refine gj_iload_n (q := 23) (gj_dk okX5_yearSum 15 rfl) rfl rfl ?_
          refine gj_callS (q := 26) [jR z, jI x2] rfl (c_X7_at hz h0 (by decide) _) (gj_dk okX5_yearSum 16 rfl) ml_X5_83 me_X7_at (gj_nm rfl) rfl (gj_kI fun x9 S2 M2 h8 => ?_)
          obtain ⟨-, eS, eM⟩ := h8; subst eS; subst eM
          refine gj_callV (q := 29) (z := 14) (ci := 5) [jI x2, jI x9] rfl (w_X5_trueYear hst  _ _) (gj_dk okX5_yearSum 17 rfl) ml_X5_95 me_X5_trueYear (sh14 hst) rfl (gj_nm rfl) rfl (gj_kI fun x12 S2 M2 h11 => ?_)
          obtain ⟨eS, eM⟩ := h11; subst eS; subst eM
          refine gj_iadd (q := 30) (gj_dk okX5_yearSum 18 rfl) rfl ?_
          refine gj_istore_n (q := 31) (gj_dk okX5_yearSum 19 rfl) (by decide) rfl ?_
          refine gj_iinc (q := 34) (v := x2 + 1) (gj_dk okX5_yearSum 20 rfl) rfl (by decide) (gj_wle (by omega) (by omega)) rfl ?_
          refine gj_goto (tgt := 4) (gj_dk okX5_yearSum 21 rfl) (by decide) ?_
          refine gj_sub [(0, jR 14), (1, jR z), (2, jI (gj_w (x1 + x12))), (3, jI (x2 + 1))] ⟨rfl, rfl, rfl, rfl, trivial⟩ ?_
          exact ih4 _ _ (by omega)
  refine gj_sub [(0, jR 14), (1, jR z), (2, jI 0), (3, jI 0)] ⟨rfl, rfl, rfl, rfl, trivial⟩ ?_
  exact L4 _ _ _ (Nat.lt_succ_self _)

set_option maxHeartbeats 4000000 in
set_option maxRecDepth 20000 in
theorem w_X0_choose (hst : gj_Stat S) (h : w_CW M0 M)   : gj_C G l 4 0 0 yX0_choose cX0_choose 4 none [jR 41] S M (gj_qV fun S' M' => S = S' ∧ w_CW M0 M') := by
  refine gj_Cof (by decide +kernel) (Nat.le_of_ble_eq_true rfl) ?_
  change gj_W G l 4 0 0 yX0_choose cX0_choose 4 none (gj_qV fun S' M' => S = S' ∧ w_CW M0 M') 0 0 0 [(0, jR 41)] [] S M
  refine gj_iconst (q := 1) (gj_dk okX0_choose 0 rfl) (by decide) rfl ?_
  refine gj_istore_n (q := 2) (gj_dk okX0_choose 1 rfl) (by decide) rfl ?_
  refine gj_iconst (q := 3) (gj_dk okX0_choose 2 rfl) (by decide) rfl ?_
  refine gj_istore_n (q := 4) (gj_dk okX0_choose 3 rfl) (by decide) rfl ?_
  have L4 : ∀ (k3 : Nat) (x1 x2 : Int) (M4 : gj_M), (w_CW M0 M4) → (2147483647 - x2).toNat < k3 → gj_W G l 4 0 0 yX0_choose cX0_choose 4 none (gj_qV fun S' M' => S = S' ∧ w_CW M0 M') 0 0 4 [(0, jR 41), (1, jI x1), (2, jI x2)] [] S M4 := by
    intro k3
    induction k3 with
    | zero => intro x1 x2 M4 w5 hk4; exact absurd hk4 (Nat.not_lt_zero _)
    | succ k3 ih4 =>
      intro x1 x2 M4 w5 hk4
      refine gj_iload_n (q := 5) (gj_dk okX0_choose 4 rfl) rfl rfl ?_
      refine gj_sipush (q := 8) (gj_dk okX0_choose 5 rfl) (by decide) rfl rfl ?_
      refine gj_rng (fun ho8 _ _ => ?_)
      have ha8 : -2147483648 ≤ x2 ∧ x2 < 2147483648 := gj_o1 ho8
      clear ho8
      refine gj_icmp_ge (q := 11) (tgt := 55) (gj_dk okX0_choose 6 rfl) (by decide) rfl (fun c8 => ?_) (fun c8 => ?_)
      · -- 55
        exact gj_vret (gj_dk okX0_choose 29 rfl) rfl ⟨rfl, rfl, w5⟩
      · -- 11
        refine gj_aload_n (q := 12) (gj_dk okX0_choose 7 rfl) rfl rfl ?_
        refine gj_iload_n (q := 13) (gj_dk okX0_choose 8 rfl) rfl rfl ?_
        refine gj_callV (q := 16) (z := 41) (ci := 0) [jI x2] rfl (w_X0_spread hst w5  _) (gj_dk okX0_choose 9 rfl) ml_X0_22 me_X0_spread (sh41 hst) rfl (gj_nm rfl) rfl (gj_kI fun x7 S2 M2 h6 => ?_)
        obtain ⟨bx7, eS, w9⟩ := h6; subst eS
        revert w9; generalize M2 = M10; intro w9
        refine gj_if_eq (q := 19) (tgt := 49) (gj_dk okX0_choose 10 rfl) (by decide) rfl (fun c16 => ?_) (fun c16 => ?_)
        · -- 49
          refine gj_iinc (q := 52) (v := x2 + 1) (gj_dk okX0_choose 27 rfl) rfl (by decide) (gj_wle (by omega) (by omega)) rfl ?_
          refine gj_goto (tgt := 4) (gj_dk okX0_choose 28 rfl) (by decide) ?_
          refine gj_sub [(0, jR 41), (1, jI x1), (2, jI (x2 + 1))] ⟨rfl, rfl, rfl, trivial⟩ ?_
          exact ih4 _ _ _ w9 (by omega)
        · -- 19
          refine gj_aload_n (q := 20) (gj_dk okX0_choose 11 rfl) rfl rfl ?_
          refine gj_gR (q := 23) (j := 0) (gj_dk okX0_choose 12 rfl) ff_X0_18 (sh41 hst) (by decide) rfl (rf41_0 hst) rfl ?_
          refine gj_aload_n (q := 24) (gj_dk okX0_choose 13 rfl) rfl rfl ?_
          refine gj_gR (q := 27) (j := 1) (gj_dk okX0_choose 14 rfl) ff_X0_11 (sh41 hst) (by decide) rfl (rf41_1 hst) rfl ?_
          refine gj_callV (q := 30) (z := 14) (ci := 5) [jR 42] rfl (w_X5_yearSum hst (sh42 hst) (by decide) ) (gj_dk okX0_choose 15 rfl) ml_X0_26 me_X5_yearSum (sh14 hst) rfl (gj_nm rfl) rfl (gj_kI fun x12 S2 M2 h11 => ?_)
          obtain ⟨eS, eM⟩ := h11; subst eS; subst eM
          refine gj_istore_n (q := 31) (gj_dk okX0_choose 16 rfl) (by decide) rfl ?_
          refine gj_iload_n (q := 32) (gj_dk okX0_choose 17 rfl) rfl rfl ?_
          refine gj_iload_n (q := 33) (gj_dk okX0_choose 18 rfl) rfl rfl ?_
          refine gj_rng (fun ho33 _ _ => ?_)
          have hb33 : -2147483648 ≤ x1 ∧ x1 < 2147483648 := gj_o0 ho33
          have ha33 : -2147483648 ≤ x12 ∧ x12 < 2147483648 := gj_o1 ho33
          clear ho33
          refine gj_icmp_le (q := 36) (tgt := 49) (gj_dk okX0_choose 19 rfl) (by decide) rfl (fun c33 => ?_) (fun c33 => ?_)
          · -- 49
            refine gj_iinc (q := 52) (v := x2 + 1) (gj_dk okX0_choose 27 rfl) rfl (by decide) (gj_wle (by omega) (by omega)) rfl ?_
            refine gj_goto (tgt := 4) (gj_dk okX0_choose 28 rfl) (by decide) ?_
            refine gj_sub [(0, jR 41), (1, jI x1), (2, jI (x2 + 1))] ⟨rfl, rfl, rfl, trivial⟩ ?_
            exact ih4 _ _ _ w9 (by omega)
          · -- 36
            refine gj_iload_n (q := 37) (gj_dk okX0_choose 20 rfl) rfl rfl ?_
            refine gj_istore_n (q := 38) (gj_dk okX0_choose 21 rfl) (by decide) rfl ?_
            refine gj_aload_n (q := 39) (gj_dk okX0_choose 22 rfl) rfl rfl ?_
            refine gj_gR (q := 42) (j := 1) (gj_dk okX0_choose 23 rfl) ff_X0_11 (sh41 hst) (by decide) rfl (rf41_1 hst) rfl ?_
            refine gj_aload_n (q := 43) (gj_dk okX0_choose 24 rfl) rfl rfl ?_
            refine gj_gR (q := 46) (j := 2) (gj_dk okX0_choose 25 rfl) ff_X0_15 (sh41 hst) (by decide) rfl (rf41_2 hst) rfl ?_
            refine gj_callS (q := 49) [jR 42, jR 43] rfl (c_X7_copy (sh42 hst) (by decide) (by decide) (sh43 hst) (by decide) (by decide) (by decide)) (gj_dk okX0_choose 26 rfl) ml_X0_32 me_X7_copy (gj_nm rfl) rfl (gj_kV fun S2 M2 h15 => ?_)
            obtain ⟨eS, eM⟩ := h15; subst eS
            have w18 : w_CW M0 M2 := by rw [← eM]; exact w_CW.copy w9 (by decide) (by decide)
            clear eM
            revert w18; generalize M2 = M19; intro w18
            refine gj_iinc (q := 52) (v := x2 + 1) (gj_dk okX0_choose 27 rfl) rfl (by decide) (gj_wle (by omega) (by omega)) rfl ?_
            refine gj_goto (tgt := 4) (gj_dk okX0_choose 28 rfl) (by decide) ?_
            refine gj_sub [(0, jR 41), (1, jI x12), (2, jI (x2 + 1))] ⟨rfl, rfl, rfl, trivial⟩ ?_
            exact ih4 _ _ _ w18 (by omega)
  refine gj_sub [(0, jR 41), (1, jI (-1)), (2, jI 0)] ⟨rfl, rfl, rfl, trivial⟩ ?_
  exact L4 _ _ _ _ h (Nat.lt_succ_self _)

set_option maxHeartbeats 4000000 in
set_option maxRecDepth 20000 in
theorem w_X1_clear (hst : gj_Stat S) (h : w_CW M0 M)   : gj_C G l 1 0 0 yX1_clear cX1_clear 1 none [jR 29] S M (gj_qV fun S' M' => S = S' ∧ w_CW M0 M') := by
  refine gj_Cof (by decide +kernel) (Nat.le_of_ble_eq_true rfl) ?_
  change gj_W G l 1 0 0 yX1_clear cX1_clear 1 none (gj_qV fun S' M' => S = S' ∧ w_CW M0 M') 0 0 0 [(0, jR 29)] [] S M
  refine gj_aload_n (q := 1) (gj_dk okX1_clear 0 rfl) rfl rfl ?_
  refine gj_iconst (q := 2) (gj_dk okX1_clear 1 rfl) (by decide) rfl ?_
  refine gj_pfI (q := 5) (j := 1) (gj_dk okX1_clear 2 rfl) ff_X1_19 (sh29 hst) (by decide) rfl rfl ?_
  refine gj_abs (fun M1 e3 => ?_)
  have w2 : w_CW M0 M1 := by rw [e3]; exact h.up (by decide) rfl
  clear e3
  refine gj_aload_n (q := 6) (gj_dk okX1_clear 3 rfl) rfl rfl ?_
  refine gj_iconst (q := 7) (gj_dk okX1_clear 4 rfl) (by decide) rfl ?_
  refine gj_pfI (q := 10) (j := 2) (gj_dk okX1_clear 5 rfl) ff_X1_15 (sh29 hst) (by decide) rfl rfl ?_
  refine gj_abs (fun M4 e6 => ?_)
  have w5 : w_CW M0 M4 := by rw [e6]; exact w2.up (by decide) rfl
  clear e6
  exact gj_vret (gj_dk okX1_clear 6 rfl) rfl ⟨rfl, rfl, w5⟩

set_option maxHeartbeats 4000000 in
set_option maxRecDepth 20000 in
theorem w_X3_begin (hst : gj_Stat S) (h : w_CW M0 M)   : gj_C G l 2 0 0 yX3_begin cX3_begin 1 none [jR 21] S M (gj_qV fun S' M' => S = S' ∧ w_CW M0 M') := by
  refine gj_Cof (by decide +kernel) (Nat.le_of_ble_eq_true rfl) ?_
  change gj_W G l 2 0 0 yX3_begin cX3_begin 1 none (gj_qV fun S' M' => S = S' ∧ w_CW M0 M') 0 0 0 [(0, jR 21)] [] S M
  refine gj_aload_n (q := 1) (gj_dk okX3_begin 0 rfl) rfl rfl ?_
  refine gj_iconst (q := 2) (gj_dk okX3_begin 1 rfl) (by decide) rfl ?_
  refine gj_pfI (q := 5) (j := 0) (gj_dk okX3_begin 2 rfl) ff_X3_46 (sh21 hst) (by decide) rfl rfl ?_
  refine gj_abs (fun M1 e3 => ?_)
  have w2 : w_CW M0 M1 := by rw [e3]; exact h.up (by decide) rfl
  clear e3
  refine gj_aload_n (q := 6) (gj_dk okX3_begin 3 rfl) rfl rfl ?_
  refine gj_iconst (q := 7) (gj_dk okX3_begin 4 rfl) (by decide) rfl ?_
  refine gj_pfI (q := 10) (j := 1) (gj_dk okX3_begin 5 rfl) ff_X3_50 (sh21 hst) (by decide) rfl rfl ?_
  refine gj_abs (fun M4 e6 => ?_)
  have w5 : w_CW M0 M4 := by rw [e6]; exact w2.up (by decide) rfl
  clear e6
  refine gj_aload_n (q := 11) (gj_dk okX3_begin 6 rfl) rfl rfl ?_
  refine gj_iconst (q := 12) (gj_dk okX3_begin 7 rfl) (by decide) rfl ?_
  refine gj_pfI (q := 15) (j := 2) (gj_dk okX3_begin 8 rfl) ff_X3_53 (sh21 hst) (by decide) rfl rfl ?_
  refine gj_abs (fun M7 e9 => ?_)
  have w8 : w_CW M0 M7 := by rw [e9]; exact w5.up (by decide) rfl
  clear e9
  refine gj_aload_n (q := 16) (gj_dk okX3_begin 9 rfl) rfl rfl ?_
  refine gj_gR (q := 19) (j := 3) (gj_dk okX3_begin 10 rfl) ff_X3_9 (sh21 hst) (by decide) rfl (rf21_3 hst) rfl ?_
  refine gj_iconst (q := 20) (gj_dk okX3_begin 11 rfl) (by decide) rfl ?_
  refine gj_callS (q := 23) [jR 22, jI (-1)] rfl (c_X7_fill (sh22 hst) (by decide) (by decide) _) (gj_dk okX3_begin 12 rfl) ml_X3_40 me_X7_fill (gj_nm rfl) rfl (gj_kV fun S2 M2 h10 => ?_)
  obtain ⟨eS, eM⟩ := h10; subst eS
  have w13 : w_CW M0 M2 := by rw [← eM]; exact w_CW.fill w8 (by decide) (by decide)
  clear eM
  revert w13; generalize M2 = M14; intro w13
  refine gj_aload_n (q := 24) (gj_dk okX3_begin 13 rfl) rfl rfl ?_
  refine gj_gR (q := 27) (j := 4) (gj_dk okX3_begin 14 rfl) ff_X3_15 (sh21 hst) (by decide) rfl (rf21_4 hst) rfl ?_
  refine gj_iconst (q := 28) (gj_dk okX3_begin 15 rfl) (by decide) rfl ?_
  refine gj_callS (q := 31) [jR 23, jI 0] rfl (c_X7_fill (sh23 hst) (by decide) (by decide) _) (gj_dk okX3_begin 16 rfl) ml_X3_40 me_X7_fill (gj_nm rfl) rfl (gj_kV fun S2 M2 h15 => ?_)
  obtain ⟨eS, eM⟩ := h15; subst eS
  have w18 : w_CW M0 M2 := by rw [← eM]; exact w_CW.fill w13 (by decide) (by decide)
  clear eM
  revert w18; generalize M2 = M19; intro w18
  refine gj_aload_n (q := 32) (gj_dk okX3_begin 17 rfl) rfl rfl ?_
  refine gj_gR (q := 35) (j := 5) (gj_dk okX3_begin 18 rfl) ff_X3_18 (sh21 hst) (by decide) rfl (rf21_5 hst) rfl ?_
  refine gj_iconst (q := 36) (gj_dk okX3_begin 19 rfl) (by decide) rfl ?_
  refine gj_callS (q := 39) [jR 24, jI 0] rfl (c_X7_fill (sh24 hst) (by decide) (by decide) _) (gj_dk okX3_begin 20 rfl) ml_X3_40 me_X7_fill (gj_nm rfl) rfl (gj_kV fun S2 M2 h20 => ?_)
  obtain ⟨eS, eM⟩ := h20; subst eS
  have w23 : w_CW M0 M2 := by rw [← eM]; exact w_CW.fill w18 (by decide) (by decide)
  clear eM
  revert w23; generalize M2 = M24; intro w23
  refine gj_aload_n (q := 40) (gj_dk okX3_begin 21 rfl) rfl rfl ?_
  refine gj_gR (q := 43) (j := 6) (gj_dk okX3_begin 22 rfl) ff_X3_21 (sh21 hst) (by decide) rfl (rf21_6 hst) rfl ?_
  refine gj_iconst (q := 44) (gj_dk okX3_begin 23 rfl) (by decide) rfl ?_
  refine gj_callS (q := 47) [jR 25, jI 0] rfl (c_X7_fill (sh25 hst) (by decide) (by decide) _) (gj_dk okX3_begin 24 rfl) ml_X3_40 me_X7_fill (gj_nm rfl) rfl (gj_kV fun S2 M2 h25 => ?_)
  obtain ⟨eS, eM⟩ := h25; subst eS
  have w28 : w_CW M0 M2 := by rw [← eM]; exact w_CW.fill w23 (by decide) (by decide)
  clear eM
  revert w28; generalize M2 = M29; intro w28
  refine gj_aload_n (q := 48) (gj_dk okX3_begin 25 rfl) rfl rfl ?_
  refine gj_gR (q := 51) (j := 7) (gj_dk okX3_begin 26 rfl) ff_X3_24 (sh21 hst) (by decide) rfl (rf21_7 hst) rfl ?_
  refine gj_iconst (q := 52) (gj_dk okX3_begin 27 rfl) (by decide) rfl ?_
  refine gj_callS (q := 55) [jR 26, jI 0] rfl (c_X7_fill (sh26 hst) (by decide) (by decide) _) (gj_dk okX3_begin 28 rfl) ml_X3_40 me_X7_fill (gj_nm rfl) rfl (gj_kV fun S2 M2 h30 => ?_)
  obtain ⟨eS, eM⟩ := h30; subst eS
  have w33 : w_CW M0 M2 := by rw [← eM]; exact w_CW.fill w28 (by decide) (by decide)
  clear eM
  revert w33; generalize M2 = M34; intro w33
  refine gj_aload_n (q := 56) (gj_dk okX3_begin 29 rfl) rfl rfl ?_
  refine gj_gR (q := 59) (j := 8) (gj_dk okX3_begin 30 rfl) ff_X3_27 (sh21 hst) (by decide) rfl (rf21_8 hst) rfl ?_
  refine gj_iconst (q := 60) (gj_dk okX3_begin 31 rfl) (by decide) rfl ?_
  refine gj_callS (q := 63) [jR 27, jI 0] rfl (c_X7_fill (sh27 hst) (by decide) (by decide) _) (gj_dk okX3_begin 32 rfl) ml_X3_40 me_X7_fill (gj_nm rfl) rfl (gj_kV fun S2 M2 h35 => ?_)
  obtain ⟨eS, eM⟩ := h35; subst eS
  have w38 : w_CW M0 M2 := by rw [← eM]; exact w_CW.fill w33 (by decide) (by decide)
  clear eM
  revert w38; generalize M2 = M39; intro w38
  refine gj_aload_n (q := 64) (gj_dk okX3_begin 33 rfl) rfl rfl ?_
  refine gj_gR (q := 67) (j := 9) (gj_dk okX3_begin 34 rfl) ff_X3_30 (sh21 hst) (by decide) rfl (rf21_9 hst) rfl ?_
  refine gj_iconst (q := 68) (gj_dk okX3_begin 35 rfl) (by decide) rfl ?_
  refine gj_callS (q := 71) [jR 28, jI 0] rfl (c_X7_fill (sh28 hst) (by decide) (by decide) _) (gj_dk okX3_begin 36 rfl) ml_X3_40 me_X7_fill (gj_nm rfl) rfl (gj_kV fun S2 M2 h40 => ?_)
  obtain ⟨eS, eM⟩ := h40; subst eS
  have w43 : w_CW M0 M2 := by rw [← eM]; exact w_CW.fill w38 (by decide) (by decide)
  clear eM
  revert w43; generalize M2 = M44; intro w43
  refine gj_aload_n (q := 72) (gj_dk okX3_begin 37 rfl) rfl rfl ?_
  refine gj_gR (q := 75) (j := 10) (gj_dk okX3_begin 38 rfl) ff_X3_36 (sh21 hst) (by decide) rfl (rf21_10 hst) rfl ?_
  refine gj_callV (q := 78) (z := 29) (ci := 1) [] rfl (w_X1_clear hst w43  ) (gj_dk okX3_begin 39 rfl) ml_X3_56 me_X1_clear (sh29 hst) rfl (gj_nm rfl) rfl (gj_kV fun S2 M2 h45 => ?_)
  obtain ⟨eS, w48⟩ := h45; subst eS
  revert w48; generalize M2 = M49; intro w48
  exact gj_vret (gj_dk okX3_begin 40 rfl) rfl ⟨rfl, rfl, w48⟩

set_option maxHeartbeats 4000000 in
set_option maxRecDepth 20000 in
theorem w_X11_village (hst : gj_Stat S) (h : w_CW M0 M)   : gj_C G l 10 0 0 yX11_village cX11_village 1 (some .int) [jR 0] S M (gj_qI fun x S' M' => S = S' ∧ w_CW M0 M') := by
  refine gj_Cof (by decide +kernel) (Nat.le_of_ble_eq_true rfl) ?_
  change gj_W G l 10 0 0 yX11_village cX11_village 1 (some .int) (gj_qI fun x S' M' => S = S' ∧ w_CW M0 M') 0 0 0 [(0, jR 0)] [] S M
  refine gj_aload_n (q := 1) (gj_dk okX11_village 0 rfl) rfl rfl ?_
  refine gj_gR (q := 4) (j := 2) (gj_dk okX11_village 1 rfl) ff_X11_28 (sh0 hst) (by decide) rfl (rf0_2 hst) rfl ?_
  refine gj_callV (q := 7) (z := 10) (ci := 6) [] rfl (w_X6_read hst h  ) (gj_dk okX11_village 2 rfl) ml_X11_106 me_X6_read (sh10 hst) rfl (gj_nm rfl) rfl (gj_kI fun x2 S2 M2 h1 => ?_)
  obtain ⟨eS, w4⟩ := h1; subst eS
  revert w4; generalize M2 = M5; intro w4
  refine gj_iconst (q := 8) (gj_dk okX11_village 3 rfl) (by decide) rfl ?_
  refine gj_icmp_eq (q := 11) (tgt := 19) (gj_dk okX11_village 4 rfl) (by decide) rfl (fun c8 => ?_) (fun c8 => ?_)
  · -- 19
    refine gj_aload_n (q := 20) (gj_dk okX11_village 11 rfl) rfl rfl ?_
    refine gj_gR (q := 23) (j := 3) (gj_dk okX11_village 12 rfl) ff_X11_32 (sh0 hst) (by decide) rfl (rf0_3 hst) rfl ?_
    refine gj_aload_n (q := 24) (gj_dk okX11_village 13 rfl) rfl rfl ?_
    refine gj_gR (q := 27) (j := 1) (gj_dk okX11_village 14 rfl) ff_X11_19 (sh0 hst) (by decide) rfl (rf0_1 hst) rfl ?_
    refine gj_callV (q := 30) (z := 14) (ci := 5) [jR 3] rfl (w_X5_take hst w4  ) (gj_dk okX11_village 15 rfl) ml_X11_109 me_X5_take (sh14 hst) rfl (gj_nm rfl) rfl (gj_kV fun S2 M2 h6 => ?_)
    obtain ⟨eS, w9⟩ := h6; subst eS
    revert w9; generalize M2 = M10; intro w9
    refine gj_aload_n (q := 31) (gj_dk okX11_village 16 rfl) rfl rfl ?_
    refine gj_gR (q := 34) (j := 7) (gj_dk okX11_village 17 rfl) ff_X11_63 (sh0 hst) (by decide) rfl (rf0_7 hst) rfl ?_
    refine gj_callV (q := 37) (z := 41) (ci := 0) [] rfl (w_X0_choose hst w9  ) (gj_dk okX11_village 18 rfl) ml_X11_112 me_X0_choose (sh41 hst) rfl (gj_nm rfl) rfl (gj_kV fun S2 M2 h11 => ?_)
    obtain ⟨eS, w14⟩ := h11; subst eS
    revert w14; generalize M2 = M15; intro w14
    refine gj_aload_n (q := 38) (gj_dk okX11_village 19 rfl) rfl rfl ?_
    refine gj_gR (q := 41) (j := 4) (gj_dk okX11_village 20 rfl) ff_X11_38 (sh0 hst) (by decide) rfl (rf0_4 hst) rfl ?_
    refine gj_callV (q := 44) (z := 21) (ci := 3) [] rfl (w_X3_begin hst w14  ) (gj_dk okX11_village 21 rfl) ml_X11_115 me_X3_begin (sh21 hst) rfl (gj_nm rfl) rfl (gj_kV fun S2 M2 h16 => ?_)
    obtain ⟨eS, w19⟩ := h16; subst eS
    revert w19; generalize M2 = M20; intro w19
    refine gj_aload_n (q := 45) (gj_dk okX11_village 22 rfl) rfl rfl ?_
    refine gj_gR (q := 48) (j := 10) (gj_dk okX11_village 23 rfl) ff_X11_80 (sh0 hst) (by decide) rfl (rf0_10 hst) rfl ?_
    refine gj_callS (q := 51) [jR 77] rfl (c_X7_unmark (sh77 hst) (by decide) (by decide)) (gj_dk okX11_village 24 rfl) ml_X11_118 me_X7_unmark (gj_nm rfl) rfl (gj_kV fun S2 M2 h21 => ?_)
    obtain ⟨eS, eM⟩ := h21; subst eS
    have w24 : w_CW M0 M2 := by rw [← eM]; exact w_CW.fill w19 (by decide) (by decide)
    clear eM
    revert w24; generalize M2 = M25; intro w24
    refine gj_aload_n (q := 52) (gj_dk okX11_village 25 rfl) rfl rfl ?_
    refine gj_gR (q := 55) (j := 0) (gj_dk okX11_village 26 rfl) ff_X11_10 (sh0 hst) (by decide) rfl (rf0_0 hst) rfl ?_
    refine gj_iconst (q := 56) (gj_dk okX11_village 27 rfl) (by decide) rfl ?_
    refine gj_callV (q := 59) (z := 1) (ci := 8) [jI 0] rfl (w_X9_cutTo hst w24  _) (gj_dk okX11_village 28 rfl) ml_X11_103 me_X9_cutTo (sh1 hst) rfl (gj_nm rfl) rfl (gj_kV fun S2 M2 h26 => ?_)
    obtain ⟨eS, w29⟩ := h26; subst eS
    revert w29; generalize M2 = M30; intro w29
    refine gj_aload_n (q := 60) (gj_dk okX11_village 29 rfl) rfl rfl ?_
    refine gj_gR (q := 63) (j := 3) (gj_dk okX11_village 30 rfl) ff_X11_32 (sh0 hst) (by decide) rfl (rf0_3 hst) rfl ?_
    refine gj_gI (q := 66) (j := 0) (gj_dk okX11_village 31 rfl) ff_X11_124 (sh14 hst) (by decide) rfl rfl ?_
    refine gj_aload_n (q := 67) (gj_dk okX11_village 32 rfl) rfl rfl ?_
    refine gj_gR (q := 70) (j := 3) (gj_dk okX11_village 33 rfl) ff_X11_32 (sh0 hst) (by decide) rfl (rf0_3 hst) rfl ?_
    refine gj_gI (q := 73) (j := 1) (gj_dk okX11_village 34 rfl) ff_X11_128 (sh14 hst) (by decide) rfl rfl ?_
    refine gj_iadd (q := 74) (gj_dk okX11_village 35 rfl) rfl ?_
    exact gj_iret (gj_dk okX11_village 36 rfl) rfl ⟨_, rfl, rfl, w29⟩
  · -- 11
    refine gj_aload_n (q := 12) (gj_dk okX11_village 5 rfl) rfl rfl ?_
    refine gj_iconst (q := 13) (gj_dk okX11_village 6 rfl) (by decide) rfl ?_
    refine gj_callV (q := 16) (z := 0) (ci := 9) [jI 2] rfl (w_X11_refuse hst w4  _) (gj_dk okX11_village 7 rfl) ml_X11_92 me_X11_refuse (sh0 hst) rfl (gj_nm rfl) rfl (gj_kI fun x32 S2 M2 h31 => ?_)
    obtain ⟨bx32, eS, w34⟩ := h31; subst eS
    revert w34; generalize M2 = M35; intro w34
    refine gj_pop (q := 17) (gj_dk okX11_village 8 rfl) rfl rfl ?_
    refine gj_iconst (q := 18) (gj_dk okX11_village 9 rfl) (by decide) rfl ?_
    exact gj_iret (gj_dk okX11_village 10 rfl) rfl ⟨_, rfl, rfl, w34⟩

set_option maxHeartbeats 4000000 in
set_option maxRecDepth 20000 in
theorem w_X5_slotOf (hst : gj_Stat S) (a1 : Int)  : gj_C G l 1 0 0 yX5_slotOf cX5_slotOf 2 (some .int) [jR 14, jI a1] S M (gj_qI fun x S' M' => S = S' ∧ M = M') := by
  refine gj_Cof (by decide +kernel) (Nat.le_of_ble_eq_true rfl) ?_
  change gj_W G l 1 0 0 yX5_slotOf cX5_slotOf 2 (some .int) (gj_qI fun x S' M' => S = S' ∧ M = M') 0 0 0 [(0, jR 14), (1, jI a1)] [] S M
  refine gj_iload_n (q := 1) (gj_dk okX5_slotOf 0 rfl) rfl rfl ?_
  refine gj_if_lt (q := 4) (tgt := 14) (gj_dk okX5_slotOf 1 rfl) (by decide) rfl (fun c1 => ?_) (fun c1 => ?_)
  · -- 14
    refine gj_iload_n (q := 15) (gj_dk okX5_slotOf 8 rfl) rfl rfl ?_
    refine gj_bipush (q := 17) (gj_dk okX5_slotOf 9 rfl) (by decide) rfl rfl ?_
    refine gj_icmp_lt (q := 20) (tgt := 38) (gj_dk okX5_slotOf 10 rfl) (by decide) rfl (fun c17 => ?_) (fun c17 => ?_)
    · -- 38
      refine gj_iconst (q := 39) (gj_dk okX5_slotOf 23 rfl) (by decide) rfl ?_
      exact gj_iret (gj_dk okX5_slotOf 24 rfl) rfl ⟨_, rfl, rfl, rfl⟩
    · -- 20
      refine gj_iload_n (q := 21) (gj_dk okX5_slotOf 11 rfl) rfl rfl ?_
      refine gj_bipush (q := 23) (gj_dk okX5_slotOf 12 rfl) (by decide) rfl rfl ?_
      refine gj_aload_n (q := 24) (gj_dk okX5_slotOf 13 rfl) rfl rfl ?_
      refine gj_gI (q := 27) (j := 1) (gj_dk okX5_slotOf 14 rfl) ff_X5_34 (sh14 hst) (by decide) rfl rfl ?_
      refine gj_iadd (q := 28) (gj_dk okX5_slotOf 15 rfl) rfl ?_
      refine gj_icmp_ge (q := 31) (tgt := 38) (gj_dk okX5_slotOf 16 rfl) (by decide) rfl (fun c28 => ?_) (fun c28 => ?_)
      · -- 38
        refine gj_iconst (q := 39) (gj_dk okX5_slotOf 23 rfl) (by decide) rfl ?_
        exact gj_iret (gj_dk okX5_slotOf 24 rfl) rfl ⟨_, rfl, rfl, rfl⟩
      · -- 31
        refine gj_iload_n (q := 32) (gj_dk okX5_slotOf 17 rfl) rfl rfl ?_
        refine gj_bipush (q := 34) (gj_dk okX5_slotOf 18 rfl) (by decide) rfl rfl ?_
        refine gj_isub (q := 35) (gj_dk okX5_slotOf 19 rfl) rfl ?_
        refine gj_iconst (q := 36) (gj_dk okX5_slotOf 20 rfl) (by decide) rfl ?_
        refine gj_iadd (q := 37) (gj_dk okX5_slotOf 21 rfl) rfl ?_
        exact gj_iret (gj_dk okX5_slotOf 22 rfl) rfl ⟨_, rfl, rfl, rfl⟩
  · -- 4
    refine gj_iload_n (q := 5) (gj_dk okX5_slotOf 2 rfl) rfl rfl ?_
    refine gj_aload_n (q := 6) (gj_dk okX5_slotOf 3 rfl) rfl rfl ?_
    refine gj_gI (q := 9) (j := 0) (gj_dk okX5_slotOf 4 rfl) ff_X5_30 (sh14 hst) (by decide) rfl rfl ?_
    refine gj_icmp_ge (q := 12) (tgt := 14) (gj_dk okX5_slotOf 5 rfl) (by decide) rfl (fun c9 => ?_) (fun c9 => ?_)
    · -- 14
      refine gj_iload_n (q := 15) (gj_dk okX5_slotOf 8 rfl) rfl rfl ?_
      refine gj_bipush (q := 17) (gj_dk okX5_slotOf 9 rfl) (by decide) rfl rfl ?_
      refine gj_icmp_lt (q := 20) (tgt := 38) (gj_dk okX5_slotOf 10 rfl) (by decide) rfl (fun c17 => ?_) (fun c17 => ?_)
      · -- 38
        refine gj_iconst (q := 39) (gj_dk okX5_slotOf 23 rfl) (by decide) rfl ?_
        exact gj_iret (gj_dk okX5_slotOf 24 rfl) rfl ⟨_, rfl, rfl, rfl⟩
      · -- 20
        refine gj_iload_n (q := 21) (gj_dk okX5_slotOf 11 rfl) rfl rfl ?_
        refine gj_bipush (q := 23) (gj_dk okX5_slotOf 12 rfl) (by decide) rfl rfl ?_
        refine gj_aload_n (q := 24) (gj_dk okX5_slotOf 13 rfl) rfl rfl ?_
        refine gj_gI (q := 27) (j := 1) (gj_dk okX5_slotOf 14 rfl) ff_X5_34 (sh14 hst) (by decide) rfl rfl ?_
        refine gj_iadd (q := 28) (gj_dk okX5_slotOf 15 rfl) rfl ?_
        refine gj_icmp_ge (q := 31) (tgt := 38) (gj_dk okX5_slotOf 16 rfl) (by decide) rfl (fun c28 => ?_) (fun c28 => ?_)
        · -- 38
          refine gj_iconst (q := 39) (gj_dk okX5_slotOf 23 rfl) (by decide) rfl ?_
          exact gj_iret (gj_dk okX5_slotOf 24 rfl) rfl ⟨_, rfl, rfl, rfl⟩
        · -- 31
          refine gj_iload_n (q := 32) (gj_dk okX5_slotOf 17 rfl) rfl rfl ?_
          refine gj_bipush (q := 34) (gj_dk okX5_slotOf 18 rfl) (by decide) rfl rfl ?_
          refine gj_isub (q := 35) (gj_dk okX5_slotOf 19 rfl) rfl ?_
          refine gj_iconst (q := 36) (gj_dk okX5_slotOf 20 rfl) (by decide) rfl ?_
          refine gj_iadd (q := 37) (gj_dk okX5_slotOf 21 rfl) rfl ?_
          exact gj_iret (gj_dk okX5_slotOf 22 rfl) rfl ⟨_, rfl, rfl, rfl⟩
    · -- 12
      refine gj_iload_n (q := 13) (gj_dk okX5_slotOf 6 rfl) rfl rfl ?_
      exact gj_iret (gj_dk okX5_slotOf 7 rfl) rfl ⟨_, rfl, rfl, rfl⟩

set_option maxHeartbeats 4000000 in
set_option maxRecDepth 20000 in
theorem w_X11_person (hst : gj_Stat S) (a1 a2 : Int)  : gj_C G l 2 0 0 yX11_person cX11_person 4 (some .int) [jR 0, jI a1, jI a2] S M (gj_qI fun x S' M' => S = S' ∧ M = M') := by
  refine gj_Cof (by decide +kernel) (Nat.le_of_ble_eq_true rfl) ?_
  change gj_W G l 2 0 0 yX11_person cX11_person 4 (some .int) (gj_qI fun x S' M' => S = S' ∧ M = M') 0 0 0 [(0, jR 0), (1, jI a1), (2, jI a2)] [] S M
  refine gj_aload_n (q := 1) (gj_dk okX11_person 0 rfl) rfl rfl ?_
  refine gj_gR (q := 4) (j := 3) (gj_dk okX11_person 1 rfl) ff_X11_32 (sh0 hst) (by decide) rfl (rf0_3 hst) rfl ?_
  refine gj_iload_n (q := 5) (gj_dk okX11_person 2 rfl) rfl rfl ?_
  refine gj_callV (q := 8) (z := 14) (ci := 5) [jI a1] rfl (w_X5_slotOf hst  _) (gj_dk okX11_person 3 rfl) ml_X11_131 me_X5_slotOf (sh14 hst) rfl (gj_nm rfl) rfl (gj_kI fun x2 S2 M2 h1 => ?_)
  obtain ⟨eS, eM⟩ := h1; subst eS; subst eM
  refine gj_istore_n (q := 9) (gj_dk okX11_person 4 rfl) (by decide) rfl ?_
  refine gj_iload_n (q := 10) (gj_dk okX11_person 5 rfl) rfl rfl ?_
  refine gj_iconst (q := 11) (gj_dk okX11_person 6 rfl) (by decide) rfl ?_
  refine gj_icmp_ne (q := 14) (tgt := 17) (gj_dk okX11_person 7 rfl) (by decide) rfl (fun c11 => ?_) (fun c11 => ?_)
  · -- 17
    refine gj_iload_n (q := 18) (gj_dk okX11_person 10 rfl) rfl rfl ?_
    by_cases c18_0 : a2 = 0
    · refine gj_tabIn (tgt := 44) (off := 26) 0 (gj_dk okX11_person 11 rfl) c18_0 ⟨by decide, by decide, rfl⟩ (by decide) ?_
      refine gj_aload_n (q := 45) (gj_dk okX11_person 12 rfl) rfl rfl ?_
      refine gj_gR (q := 48) (j := 3) (gj_dk okX11_person 13 rfl) ff_X11_32 (sh0 hst) (by decide) rfl (rf0_3 hst) rfl ?_
      refine gj_gR (q := 51) (j := 10) (gj_dk okX11_person 14 rfl) ff_X11_136 (sh14 hst) (by decide) rfl (rf14_10 hst) rfl ?_
      refine gj_iload_n (q := 52) (gj_dk okX11_person 15 rfl) rfl rfl ?_
      refine gj_callS (q := 55) [jR 15, jI x2] rfl (c_X7_at (sh15 hst) (by decide) (by decide) _) (gj_dk okX11_person 16 rfl) ml_X11_139 me_X7_at (gj_nm rfl) rfl (gj_kI fun x6 S2 M2 h5 => ?_)
      obtain ⟨-, eS, eM⟩ := h5; subst eS; subst eM
      exact gj_iret (gj_dk okX11_person 17 rfl) rfl ⟨_, rfl, rfl, rfl⟩
    by_cases c18_1 : a2 = 1
    · refine gj_tabIn (tgt := 56) (off := 38) 1 (gj_dk okX11_person 11 rfl) c18_1 ⟨by decide, by decide, rfl⟩ (by decide) ?_
      refine gj_aload_n (q := 57) (gj_dk okX11_person 18 rfl) rfl rfl ?_
      refine gj_gR (q := 60) (j := 4) (gj_dk okX11_person 19 rfl) ff_X11_38 (sh0 hst) (by decide) rfl (rf0_4 hst) rfl ?_
      refine gj_gR (q := 63) (j := 3) (gj_dk okX11_person 20 rfl) ff_X11_143 (sh21 hst) (by decide) rfl (rf21_3 hst) rfl ?_
      refine gj_iload_n (q := 64) (gj_dk okX11_person 21 rfl) rfl rfl ?_
      refine gj_callS (q := 67) [jR 22, jI x2] rfl (c_X7_at (sh22 hst) (by decide) (by decide) _) (gj_dk okX11_person 22 rfl) ml_X11_139 me_X7_at (gj_nm rfl) rfl (gj_kI fun x9 S2 M2 h8 => ?_)
      obtain ⟨-, eS, eM⟩ := h8; subst eS; subst eM
      refine gj_callS (q := 70) [jI x9] rfl (c_X10_numberOf _) (gj_dk okX11_person 23 rfl) ml_X11_146 me_X10_numberOf (gj_nm rfl) rfl (gj_kI fun x12 S2 M2 h11 => ?_)
      obtain ⟨-, eS, eM⟩ := h11; subst eS; subst eM
      exact gj_iret (gj_dk okX11_person 24 rfl) rfl ⟨_, rfl, rfl, rfl⟩
    by_cases c18_2 : a2 = 2
    · refine gj_tabIn (tgt := 71) (off := 53) 2 (gj_dk okX11_person 11 rfl) c18_2 ⟨by decide, by decide, rfl⟩ (by decide) ?_
      refine gj_aload_n (q := 72) (gj_dk okX11_person 25 rfl) rfl rfl ?_
      refine gj_gR (q := 75) (j := 4) (gj_dk okX11_person 26 rfl) ff_X11_38 (sh0 hst) (by decide) rfl (rf0_4 hst) rfl ?_
      refine gj_gR (q := 78) (j := 4) (gj_dk okX11_person 27 rfl) ff_X11_151 (sh21 hst) (by decide) rfl (rf21_4 hst) rfl ?_
      refine gj_iload_n (q := 79) (gj_dk okX11_person 28 rfl) rfl rfl ?_
      refine gj_callS (q := 82) [jR 23, jI x2] rfl (c_X7_at (sh23 hst) (by decide) (by decide) _) (gj_dk okX11_person 29 rfl) ml_X11_139 me_X7_at (gj_nm rfl) rfl (gj_kI fun x15 S2 M2 h14 => ?_)
      obtain ⟨-, eS, eM⟩ := h14; subst eS; subst eM
      exact gj_iret (gj_dk okX11_person 30 rfl) rfl ⟨_, rfl, rfl, rfl⟩
    refine gj_tabOut (tgt := 83) (gj_dk okX11_person 11 rfl) (by omega) (by decide) ?_
    refine gj_ldc (q := 85) (z := -2147483648) (gj_dk okX11_person 31 rfl) kc_X11_135 (by decide) rfl ?_
    exact gj_iret (gj_dk okX11_person 32 rfl) rfl ⟨_, rfl, rfl, rfl⟩
  · -- 14
    refine gj_ldc (q := 16) (z := -2147483648) (gj_dk okX11_person 8 rfl) kc_X11_135 (by decide) rfl ?_
    exact gj_iret (gj_dk okX11_person 9 rfl) rfl ⟨_, rfl, rfl, rfl⟩

set_option maxHeartbeats 4000000 in
set_option maxRecDepth 20000 in
theorem w_X11_earned (hst : gj_Stat S) (a1 : Int)  : gj_C G l 2 0 0 yX11_earned cX11_earned 3 (some .int) [jR 0, jI a1] S M (gj_qI fun x S' M' => S = S' ∧ M = M') := by
  refine gj_Cof (by decide +kernel) (Nat.le_of_ble_eq_true rfl) ?_
  change gj_W G l 2 0 0 yX11_earned cX11_earned 3 (some .int) (gj_qI fun x S' M' => S = S' ∧ M = M') 0 0 0 [(0, jR 0), (1, jI a1)] [] S M
  refine gj_aload_n (q := 1) (gj_dk okX11_earned 0 rfl) rfl rfl ?_
  refine gj_gR (q := 4) (j := 3) (gj_dk okX11_earned 1 rfl) ff_X11_32 (sh0 hst) (by decide) rfl (rf0_3 hst) rfl ?_
  refine gj_iload_n (q := 5) (gj_dk okX11_earned 2 rfl) rfl rfl ?_
  refine gj_callV (q := 8) (z := 14) (ci := 5) [jI a1] rfl (w_X5_slotOf hst  _) (gj_dk okX11_earned 3 rfl) ml_X11_131 me_X5_slotOf (sh14 hst) rfl (gj_nm rfl) rfl (gj_kI fun x2 S2 M2 h1 => ?_)
  obtain ⟨eS, eM⟩ := h1; subst eS; subst eM
  refine gj_istore_n (q := 9) (gj_dk okX11_earned 4 rfl) (by decide) rfl ?_
  refine gj_iload_n (q := 10) (gj_dk okX11_earned 5 rfl) rfl rfl ?_
  refine gj_iconst (q := 11) (gj_dk okX11_earned 6 rfl) (by decide) rfl ?_
  refine gj_icmp_ne (q := 14) (tgt := 19) (gj_dk okX11_earned 7 rfl) (by decide) rfl (fun c11 => ?_) (fun c11 => ?_)
  · -- 19
    refine gj_aload_n (q := 20) (gj_dk okX11_earned 10 rfl) rfl rfl ?_
    refine gj_gR (q := 23) (j := 4) (gj_dk okX11_earned 11 rfl) ff_X11_38 (sh0 hst) (by decide) rfl (rf0_4 hst) rfl ?_
    refine gj_gR (q := 26) (j := 6) (gj_dk okX11_earned 12 rfl) ff_X11_154 (sh21 hst) (by decide) rfl (rf21_6 hst) rfl ?_
    refine gj_iload_n (q := 27) (gj_dk okX11_earned 13 rfl) rfl rfl ?_
    refine gj_callS (q := 30) [jR 25, jI x2] rfl (c_X7_at (sh25 hst) (by decide) (by decide) _) (gj_dk okX11_earned 14 rfl) ml_X11_139 me_X7_at (gj_nm rfl) rfl (gj_kI fun x6 S2 M2 h5 => ?_)
    obtain ⟨-, eS, eM⟩ := h5; subst eS; subst eM
    exact gj_iret (gj_dk okX11_earned 15 rfl) rfl ⟨_, rfl, rfl, rfl⟩
  · -- 14
    refine gj_ldc (q := 16) (z := -2147483648) (gj_dk okX11_earned 8 rfl) kc_X11_135 (by decide) rfl ?_
    refine gj_goto (tgt := 30) (gj_dk okX11_earned 9 rfl) (by decide) ?_
    exact gj_iret (gj_dk okX11_earned 15 rfl) rfl ⟨_, rfl, rfl, rfl⟩

set_option maxHeartbeats 4000000 in
set_option maxRecDepth 20000 in
theorem w_X3_arePair (hst : gj_Stat S) (a1 a2 : Int)  : gj_C G l 2 0 0 yX3_arePair cX3_arePair 3 (some .boolean) [jR 21, jI a1, jI a2] S M (gj_qI fun x S' M' => (x = 0 ∨ x = 1) ∧ S = S' ∧ M = M') := by
  refine gj_Cof (by decide +kernel) (Nat.le_of_ble_eq_true rfl) ?_
  change gj_W G l 2 0 0 yX3_arePair cX3_arePair 3 (some .boolean) (gj_qI fun x S' M' => (x = 0 ∨ x = 1) ∧ S = S' ∧ M = M') 0 0 0 [(0, jR 21), (1, jI a1), (2, jI a2)] [] S M
  refine gj_iload_n (q := 1) (gj_dk okX3_arePair 0 rfl) rfl rfl ?_
  refine gj_iconst (q := 2) (gj_dk okX3_arePair 1 rfl) (by decide) rfl ?_
  refine gj_icmp_eq (q := 5) (tgt := 26) (gj_dk okX3_arePair 2 rfl) (by decide) rfl (fun c2 => ?_) (fun c2 => ?_)
  · -- 26
    refine gj_iconst (q := 27) (gj_dk okX3_arePair 14 rfl) (by decide) rfl ?_
    exact gj_zret (gj_dk okX3_arePair 15 rfl) rfl (by first | decide | assumption | omega) ⟨_, rfl, (by first | decide | assumption | omega), rfl, rfl⟩
  · -- 5
    refine gj_iload_n (q := 6) (gj_dk okX3_arePair 3 rfl) rfl rfl ?_
    refine gj_iconst (q := 7) (gj_dk okX3_arePair 4 rfl) (by decide) rfl ?_
    refine gj_icmp_eq (q := 10) (tgt := 26) (gj_dk okX3_arePair 5 rfl) (by decide) rfl (fun c7 => ?_) (fun c7 => ?_)
    · -- 26
      refine gj_iconst (q := 27) (gj_dk okX3_arePair 14 rfl) (by decide) rfl ?_
      exact gj_zret (gj_dk okX3_arePair 15 rfl) rfl (by first | decide | assumption | omega) ⟨_, rfl, (by first | decide | assumption | omega), rfl, rfl⟩
    · -- 10
      refine gj_aload_n (q := 11) (gj_dk okX3_arePair 6 rfl) rfl rfl ?_
      refine gj_gR (q := 14) (j := 3) (gj_dk okX3_arePair 7 rfl) ff_X3_9 (sh21 hst) (by decide) rfl (rf21_3 hst) rfl ?_
      refine gj_iload_n (q := 15) (gj_dk okX3_arePair 8 rfl) rfl rfl ?_
      refine gj_callS (q := 18) [jR 22, jI a1] rfl (c_X7_at (sh22 hst) (by decide) (by decide) _) (gj_dk okX3_arePair 9 rfl) ml_X3_75 me_X7_at (gj_nm rfl) rfl (gj_kI fun x2 S2 M2 h1 => ?_)
      obtain ⟨-, eS, eM⟩ := h1; subst eS; subst eM
      refine gj_iload_n (q := 19) (gj_dk okX3_arePair 10 rfl) rfl rfl ?_
      refine gj_icmp_ne (q := 22) (tgt := 26) (gj_dk okX3_arePair 11 rfl) (by decide) rfl (fun c19 => ?_) (fun c19 => ?_)
      · -- 26
        refine gj_iconst (q := 27) (gj_dk okX3_arePair 14 rfl) (by decide) rfl ?_
        exact gj_zret (gj_dk okX3_arePair 15 rfl) rfl (by first | decide | assumption | omega) ⟨_, rfl, (by first | decide | assumption | omega), rfl, rfl⟩
      · -- 22
        refine gj_iconst (q := 23) (gj_dk okX3_arePair 12 rfl) (by decide) rfl ?_
        refine gj_goto (tgt := 27) (gj_dk okX3_arePair 13 rfl) (by decide) ?_
        exact gj_zret (gj_dk okX3_arePair 15 rfl) rfl (by first | decide | assumption | omega) ⟨_, rfl, (by first | decide | assumption | omega), rfl, rfl⟩

set_option maxHeartbeats 4000000 in
set_option maxRecDepth 20000 in
theorem w_X11_two (hst : gj_Stat S) (a1 a2 a3 : Int)  : gj_C G l 3 0 0 yX11_two cX11_two 7 (some .int) [jR 0, jI a1, jI a2, jI a3] S M (gj_qI fun x S' M' => S = S' ∧ M = M') := by
  refine gj_Cof (by decide +kernel) (Nat.le_of_ble_eq_true rfl) ?_
  change gj_W G l 3 0 0 yX11_two cX11_two 7 (some .int) (gj_qI fun x S' M' => S = S' ∧ M = M') 0 0 0 [(0, jR 0), (1, jI a1), (2, jI a2), (3, jI a3)] [] S M
  refine gj_aload_n (q := 1) (gj_dk okX11_two 0 rfl) rfl rfl ?_
  refine gj_gR (q := 4) (j := 3) (gj_dk okX11_two 1 rfl) ff_X11_32 (sh0 hst) (by decide) rfl (rf0_3 hst) rfl ?_
  refine gj_iload_n (q := 5) (gj_dk okX11_two 2 rfl) rfl rfl ?_
  refine gj_callV (q := 8) (z := 14) (ci := 5) [jI a1] rfl (w_X5_slotOf hst  _) (gj_dk okX11_two 3 rfl) ml_X11_131 me_X5_slotOf (sh14 hst) rfl (gj_nm rfl) rfl (gj_kI fun x2 S2 M2 h1 => ?_)
  obtain ⟨eS, eM⟩ := h1; subst eS; subst eM
  refine gj_istore (q := 10) (gj_dk okX11_two 4 rfl) (by decide) rfl ?_
  refine gj_aload_n (q := 11) (gj_dk okX11_two 5 rfl) rfl rfl ?_
  refine gj_gR (q := 14) (j := 3) (gj_dk okX11_two 6 rfl) ff_X11_32 (sh0 hst) (by decide) rfl (rf0_3 hst) rfl ?_
  refine gj_iload_n (q := 15) (gj_dk okX11_two 7 rfl) rfl rfl ?_
  refine gj_callV (q := 18) (z := 14) (ci := 5) [jI a2] rfl (w_X5_slotOf hst  _) (gj_dk okX11_two 8 rfl) ml_X11_131 me_X5_slotOf (sh14 hst) rfl (gj_nm rfl) rfl (gj_kI fun x6 S2 M2 h5 => ?_)
  obtain ⟨eS, eM⟩ := h5; subst eS; subst eM
  refine gj_istore (q := 20) (gj_dk okX11_two 9 rfl) (by decide) rfl ?_
  refine gj_iload (q := 22) (gj_dk okX11_two 10 rfl) rfl rfl ?_
  refine gj_iload (q := 24) (gj_dk okX11_two 11 rfl) rfl rfl ?_
  refine gj_callS (q := 27) [jI x2, jI x6] rfl (c_X10_unlike _ _) (gj_dk okX11_two 12 rfl) ml_X11_157 me_X10_unlike (gj_nm rfl) rfl (gj_kI fun x10 S2 M2 h9 => ?_)
  have bx10 : x10 = 0 ∨ x10 = 1 := by rw [← h9.1]; exact f_unl_01 _ _
  obtain ⟨-, eS, eM⟩ := h9; subst eS; subst eM
  refine gj_if_ne (q := 30) (tgt := 32) (gj_dk okX11_two 13 rfl) (by decide) rfl (fun c27 => ?_) (fun c27 => ?_)
  · -- 32
    refine gj_iload (q := 34) (gj_dk okX11_two 16 rfl) rfl rfl ?_
    refine gj_iload (q := 36) (gj_dk okX11_two 17 rfl) rfl rfl ?_
    refine gj_callS (q := 39) [jI x2, jI x6] rfl (c_X10_couple _ _) (gj_dk okX11_two 18 rfl) ml_X11_161 me_X10_couple (gj_nm rfl) rfl (gj_kI fun x13 S2 M2 h12 => ?_)
    obtain ⟨-, eS, eM⟩ := h12; subst eS; subst eM
    refine gj_istore (q := 41) (gj_dk okX11_two 19 rfl) (by decide) rfl ?_
    refine gj_iload_n (q := 42) (gj_dk okX11_two 20 rfl) rfl rfl ?_
    by_cases c42_0 : a3 = 0
    · refine gj_tabIn (tgt := 76) (off := 34) 0 (gj_dk okX11_two 21 rfl) c42_0 ⟨by decide, by decide, rfl⟩ (by decide) ?_
      refine gj_aload_n (q := 77) (gj_dk okX11_two 22 rfl) rfl rfl ?_
      refine gj_gR (q := 80) (j := 4) (gj_dk okX11_two 23 rfl) ff_X11_38 (sh0 hst) (by decide) rfl (rf0_4 hst) rfl ?_
      refine gj_gR (q := 83) (j := 7) (gj_dk okX11_two 24 rfl) ff_X11_165 (sh21 hst) (by decide) rfl (rf21_7 hst) rfl ?_
      refine gj_iload (q := 85) (gj_dk okX11_two 25 rfl) rfl rfl ?_
      refine gj_callS (q := 88) [jR 26, jI x13] rfl (c_X7_at (sh26 hst) (by decide) (by decide) _) (gj_dk okX11_two 26 rfl) ml_X11_139 me_X7_at (gj_nm rfl) rfl (gj_kI fun x16 S2 M2 h15 => ?_)
      obtain ⟨-, eS, eM⟩ := h15; subst eS; subst eM
      exact gj_iret (gj_dk okX11_two 27 rfl) rfl ⟨_, rfl, rfl, rfl⟩
    by_cases c42_1 : a3 = 1
    · refine gj_tabIn (tgt := 89) (off := 47) 1 (gj_dk okX11_two 21 rfl) c42_1 ⟨by decide, by decide, rfl⟩ (by decide) ?_
      refine gj_aload_n (q := 90) (gj_dk okX11_two 28 rfl) rfl rfl ?_
      refine gj_gR (q := 93) (j := 4) (gj_dk okX11_two 29 rfl) ff_X11_38 (sh0 hst) (by decide) rfl (rf0_4 hst) rfl ?_
      refine gj_gR (q := 96) (j := 8) (gj_dk okX11_two 30 rfl) ff_X11_168 (sh21 hst) (by decide) rfl (rf21_8 hst) rfl ?_
      refine gj_iload (q := 98) (gj_dk okX11_two 31 rfl) rfl rfl ?_
      refine gj_callS (q := 101) [jR 27, jI x13] rfl (c_X7_at (sh27 hst) (by decide) (by decide) _) (gj_dk okX11_two 32 rfl) ml_X11_139 me_X7_at (gj_nm rfl) rfl (gj_kI fun x19 S2 M2 h18 => ?_)
      obtain ⟨-, eS, eM⟩ := h18; subst eS; subst eM
      exact gj_iret (gj_dk okX11_two 33 rfl) rfl ⟨_, rfl, rfl, rfl⟩
    by_cases c42_2 : a3 = 2
    · refine gj_tabIn (tgt := 102) (off := 60) 2 (gj_dk okX11_two 21 rfl) c42_2 ⟨by decide, by decide, rfl⟩ (by decide) ?_
      refine gj_aload_n (q := 103) (gj_dk okX11_two 34 rfl) rfl rfl ?_
      refine gj_gR (q := 106) (j := 4) (gj_dk okX11_two 35 rfl) ff_X11_38 (sh0 hst) (by decide) rfl (rf0_4 hst) rfl ?_
      refine gj_gR (q := 109) (j := 9) (gj_dk okX11_two 36 rfl) ff_X11_171 (sh21 hst) (by decide) rfl (rf21_9 hst) rfl ?_
      refine gj_iload (q := 111) (gj_dk okX11_two 37 rfl) rfl rfl ?_
      refine gj_callS (q := 114) [jR 28, jI x13] rfl (c_X7_at (sh28 hst) (by decide) (by decide) _) (gj_dk okX11_two 38 rfl) ml_X11_139 me_X7_at (gj_nm rfl) rfl (gj_kI fun x22 S2 M2 h21 => ?_)
      obtain ⟨-, eS, eM⟩ := h21; subst eS; subst eM
      exact gj_iret (gj_dk okX11_two 39 rfl) rfl ⟨_, rfl, rfl, rfl⟩
    by_cases c42_3 : a3 = 3
    · refine gj_tabIn (tgt := 115) (off := 73) 3 (gj_dk okX11_two 21 rfl) c42_3 ⟨by decide, by decide, rfl⟩ (by decide) ?_
      refine gj_aload_n (q := 116) (gj_dk okX11_two 40 rfl) rfl rfl ?_
      refine gj_gR (q := 119) (j := 3) (gj_dk okX11_two 41 rfl) ff_X11_32 (sh0 hst) (by decide) rfl (rf0_3 hst) rfl ?_
      refine gj_gR (q := 122) (j := 14) (gj_dk okX11_two 42 rfl) ff_X11_174 (sh14 hst) (by decide) rfl (rf14_14 hst) rfl ?_
      refine gj_iload (q := 124) (gj_dk okX11_two 43 rfl) rfl rfl ?_
      refine gj_callS (q := 127) [jR 19, jI x13] rfl (c_X7_at (sh19 hst) (by decide) (by decide) _) (gj_dk okX11_two 44 rfl) ml_X11_139 me_X7_at (gj_nm rfl) rfl (gj_kI fun x25 S2 M2 h24 => ?_)
      obtain ⟨-, eS, eM⟩ := h24; subst eS; subst eM
      exact gj_iret (gj_dk okX11_two 45 rfl) rfl ⟨_, rfl, rfl, rfl⟩
    by_cases c42_4 : a3 = 4
    · refine gj_tabIn (tgt := 128) (off := 86) 4 (gj_dk okX11_two 21 rfl) c42_4 ⟨by decide, by decide, rfl⟩ (by decide) ?_
      refine gj_aload_n (q := 129) (gj_dk okX11_two 46 rfl) rfl rfl ?_
      refine gj_gR (q := 132) (j := 4) (gj_dk okX11_two 47 rfl) ff_X11_38 (sh0 hst) (by decide) rfl (rf0_4 hst) rfl ?_
      refine gj_iload (q := 134) (gj_dk okX11_two 48 rfl) rfl rfl ?_
      refine gj_iload (q := 136) (gj_dk okX11_two 49 rfl) rfl rfl ?_
      refine gj_callV (q := 139) (z := 21) (ci := 3) [jI x2, jI x6] rfl (w_X3_arePair hst  _ _) (gj_dk okX11_two 50 rfl) ml_X11_177 me_X3_arePair (sh21 hst) rfl (gj_nm rfl) rfl (gj_kI fun x28 S2 M2 h27 => ?_)
      obtain ⟨bx28, eS, eM⟩ := h27; subst eS; subst eM
      refine gj_if_eq (q := 142) (tgt := 157) (gj_dk okX11_two 51 rfl) (by decide) rfl (fun c139 => ?_) (fun c139 => ?_)
      · -- 157
        refine gj_iconst (q := 158) (gj_dk okX11_two 58 rfl) (by decide) rfl ?_
        exact gj_iret (gj_dk okX11_two 59 rfl) rfl ⟨_, rfl, rfl, rfl⟩
      · -- 142
        refine gj_aload_n (q := 143) (gj_dk okX11_two 52 rfl) rfl rfl ?_
        refine gj_gR (q := 146) (j := 4) (gj_dk okX11_two 53 rfl) ff_X11_38 (sh0 hst) (by decide) rfl (rf0_4 hst) rfl ?_
        refine gj_gR (q := 149) (j := 5) (gj_dk okX11_two 54 rfl) ff_X11_180 (sh21 hst) (by decide) rfl (rf21_5 hst) rfl ?_
        refine gj_iload (q := 151) (gj_dk okX11_two 55 rfl) rfl rfl ?_
        refine gj_callS (q := 154) [jR 24, jI x2] rfl (c_X7_at (sh24 hst) (by decide) (by decide) _) (gj_dk okX11_two 56 rfl) ml_X11_139 me_X7_at (gj_nm rfl) rfl (gj_kI fun x32 S2 M2 h31 => ?_)
        obtain ⟨-, eS, eM⟩ := h31; subst eS; subst eM
        refine gj_goto (tgt := 158) (gj_dk okX11_two 57 rfl) (by decide) ?_
        exact gj_iret (gj_dk okX11_two 59 rfl) rfl ⟨_, rfl, rfl, rfl⟩
    refine gj_tabOut (tgt := 159) (gj_dk okX11_two 21 rfl) (by omega) (by decide) ?_
    refine gj_iconst (q := 160) (gj_dk okX11_two 60 rfl) (by decide) rfl ?_
    exact gj_iret (gj_dk okX11_two 61 rfl) rfl ⟨_, rfl, rfl, rfl⟩
  · -- 30
    refine gj_iconst (q := 31) (gj_dk okX11_two 14 rfl) (by decide) rfl ?_
    exact gj_iret (gj_dk okX11_two 15 rfl) rfl ⟨_, rfl, rfl, rfl⟩

set_option maxHeartbeats 4000000 in
set_option maxRecDepth 20000 in
theorem w_X11_think (hst : gj_Stat S) (a1 a2 a3 : Int)  : gj_C G l 2 0 0 yX11_think cX11_think 7 (some .int) [jR 0, jI a1, jI a2, jI a3] S M (gj_qI fun x S' M' => S = S' ∧ M = M') := by
  refine gj_Cof (by decide +kernel) (Nat.le_of_ble_eq_true rfl) ?_
  change gj_W G l 2 0 0 yX11_think cX11_think 7 (some .int) (gj_qI fun x S' M' => S = S' ∧ M = M') 0 0 0 [(0, jR 0), (1, jI a1), (2, jI a2), (3, jI a3)] [] S M
  refine gj_aload_n (q := 1) (gj_dk okX11_think 0 rfl) rfl rfl ?_
  refine gj_gR (q := 4) (j := 3) (gj_dk okX11_think 1 rfl) ff_X11_32 (sh0 hst) (by decide) rfl (rf0_3 hst) rfl ?_
  refine gj_iload_n (q := 5) (gj_dk okX11_think 2 rfl) rfl rfl ?_
  refine gj_callV (q := 8) (z := 14) (ci := 5) [jI a1] rfl (w_X5_slotOf hst  _) (gj_dk okX11_think 3 rfl) ml_X11_131 me_X5_slotOf (sh14 hst) rfl (gj_nm rfl) rfl (gj_kI fun x2 S2 M2 h1 => ?_)
  obtain ⟨eS, eM⟩ := h1; subst eS; subst eM
  refine gj_istore (q := 10) (gj_dk okX11_think 4 rfl) (by decide) rfl ?_
  refine gj_aload_n (q := 11) (gj_dk okX11_think 5 rfl) rfl rfl ?_
  refine gj_gR (q := 14) (j := 3) (gj_dk okX11_think 6 rfl) ff_X11_32 (sh0 hst) (by decide) rfl (rf0_3 hst) rfl ?_
  refine gj_iload_n (q := 15) (gj_dk okX11_think 7 rfl) rfl rfl ?_
  refine gj_callV (q := 18) (z := 14) (ci := 5) [jI a2] rfl (w_X5_slotOf hst  _) (gj_dk okX11_think 8 rfl) ml_X11_131 me_X5_slotOf (sh14 hst) rfl (gj_nm rfl) rfl (gj_kI fun x6 S2 M2 h5 => ?_)
  obtain ⟨eS, eM⟩ := h5; subst eS; subst eM
  refine gj_istore (q := 20) (gj_dk okX11_think 9 rfl) (by decide) rfl ?_
  refine gj_iload (q := 22) (gj_dk okX11_think 10 rfl) rfl rfl ?_
  refine gj_iload (q := 24) (gj_dk okX11_think 11 rfl) rfl rfl ?_
  refine gj_callS (q := 27) [jI x2, jI x6] rfl (c_X10_unlike _ _) (gj_dk okX11_think 12 rfl) ml_X11_157 me_X10_unlike (gj_nm rfl) rfl (gj_kI fun x10 S2 M2 h9 => ?_)
  have bx10 : x10 = 0 ∨ x10 = 1 := by rw [← h9.1]; exact f_unl_01 _ _
  obtain ⟨-, eS, eM⟩ := h9; subst eS; subst eM
  refine gj_if_ne (q := 30) (tgt := 32) (gj_dk okX11_think 13 rfl) (by decide) rfl (fun c27 => ?_) (fun c27 => ?_)
  · -- 32
    refine gj_iload (q := 34) (gj_dk okX11_think 16 rfl) rfl rfl ?_
    refine gj_iload (q := 36) (gj_dk okX11_think 17 rfl) rfl rfl ?_
    refine gj_callS (q := 39) [jI x2, jI x6] rfl (c_X10_view _ _) (gj_dk okX11_think 18 rfl) ml_X11_183 me_X10_view (gj_nm rfl) rfl (gj_kI fun x13 S2 M2 h12 => ?_)
    obtain ⟨-, eS, eM⟩ := h12; subst eS; subst eM
    refine gj_istore (q := 41) (gj_dk okX11_think 19 rfl) (by decide) rfl ?_
    refine gj_iload_n (q := 42) (gj_dk okX11_think 20 rfl) rfl rfl ?_
    by_cases c42_0 : a3 = 0
    · refine gj_tabIn (tgt := 68) (off := 26) 0 (gj_dk okX11_think 21 rfl) c42_0 ⟨by decide, by decide, rfl⟩ (by decide) ?_
      refine gj_aload_n (q := 69) (gj_dk okX11_think 22 rfl) rfl rfl ?_
      refine gj_gR (q := 72) (j := 3) (gj_dk okX11_think 23 rfl) ff_X11_32 (sh0 hst) (by decide) rfl (rf0_3 hst) rfl ?_
      refine gj_gR (q := 75) (j := 11) (gj_dk okX11_think 24 rfl) ff_X11_186 (sh14 hst) (by decide) rfl (rf14_11 hst) rfl ?_
      refine gj_iload (q := 77) (gj_dk okX11_think 25 rfl) rfl rfl ?_
      refine gj_callS (q := 80) [jR 16, jI x13] rfl (c_X7_at (sh16 hst) (by decide) (by decide) _) (gj_dk okX11_think 26 rfl) ml_X11_139 me_X7_at (gj_nm rfl) rfl (gj_kI fun x16 S2 M2 h15 => ?_)
      obtain ⟨-, eS, eM⟩ := h15; subst eS; subst eM
      exact gj_iret (gj_dk okX11_think 27 rfl) rfl ⟨_, rfl, rfl, rfl⟩
    by_cases c42_1 : a3 = 1
    · refine gj_tabIn (tgt := 81) (off := 39) 1 (gj_dk okX11_think 21 rfl) c42_1 ⟨by decide, by decide, rfl⟩ (by decide) ?_
      refine gj_aload_n (q := 82) (gj_dk okX11_think 28 rfl) rfl rfl ?_
      refine gj_gR (q := 85) (j := 3) (gj_dk okX11_think 29 rfl) ff_X11_32 (sh0 hst) (by decide) rfl (rf0_3 hst) rfl ?_
      refine gj_gR (q := 88) (j := 12) (gj_dk okX11_think 30 rfl) ff_X11_189 (sh14 hst) (by decide) rfl (rf14_12 hst) rfl ?_
      refine gj_iload (q := 90) (gj_dk okX11_think 31 rfl) rfl rfl ?_
      refine gj_callS (q := 93) [jR 17, jI x13] rfl (c_X7_at (sh17 hst) (by decide) (by decide) _) (gj_dk okX11_think 32 rfl) ml_X11_139 me_X7_at (gj_nm rfl) rfl (gj_kI fun x19 S2 M2 h18 => ?_)
      obtain ⟨-, eS, eM⟩ := h18; subst eS; subst eM
      exact gj_iret (gj_dk okX11_think 33 rfl) rfl ⟨_, rfl, rfl, rfl⟩
    by_cases c42_2 : a3 = 2
    · refine gj_tabIn (tgt := 94) (off := 52) 2 (gj_dk okX11_think 21 rfl) c42_2 ⟨by decide, by decide, rfl⟩ (by decide) ?_
      refine gj_aload_n (q := 95) (gj_dk okX11_think 34 rfl) rfl rfl ?_
      refine gj_gR (q := 98) (j := 3) (gj_dk okX11_think 35 rfl) ff_X11_32 (sh0 hst) (by decide) rfl (rf0_3 hst) rfl ?_
      refine gj_gR (q := 101) (j := 13) (gj_dk okX11_think 36 rfl) ff_X11_192 (sh14 hst) (by decide) rfl (rf14_13 hst) rfl ?_
      refine gj_iload (q := 103) (gj_dk okX11_think 37 rfl) rfl rfl ?_
      refine gj_callS (q := 106) [jR 18, jI x13] rfl (c_X7_at (sh18 hst) (by decide) (by decide) _) (gj_dk okX11_think 38 rfl) ml_X11_139 me_X7_at (gj_nm rfl) rfl (gj_kI fun x22 S2 M2 h21 => ?_)
      obtain ⟨-, eS, eM⟩ := h21; subst eS; subst eM
      exact gj_iret (gj_dk okX11_think 39 rfl) rfl ⟨_, rfl, rfl, rfl⟩
    refine gj_tabOut (tgt := 107) (gj_dk okX11_think 21 rfl) (by omega) (by decide) ?_
    refine gj_iconst (q := 108) (gj_dk okX11_think 40 rfl) (by decide) rfl ?_
    exact gj_iret (gj_dk okX11_think 41 rfl) rfl ⟨_, rfl, rfl, rfl⟩
  · -- 30
    refine gj_iconst (q := 31) (gj_dk okX11_think 14 rfl) (by decide) rfl ?_
    exact gj_iret (gj_dk okX11_think 15 rfl) rfl ⟨_, rfl, rfl, rfl⟩

set_option maxHeartbeats 4000000 in
set_option maxRecDepth 20000 in
theorem w_X5_shownRight (hst : gj_Stat S) (a1 a2 a3 : Int)  : gj_C G l 3 0 0 yX5_shownRight cX5_shownRight 8 (some .int) [jR 14, jI a1, jI a2, jI a3] S M (gj_qI fun x S' M' => S = S' ∧ M = M') := by
  refine gj_Cof (by decide +kernel) (Nat.le_of_ble_eq_true rfl) ?_
  change gj_W G l 3 0 0 yX5_shownRight cX5_shownRight 8 (some .int) (gj_qI fun x S' M' => S = S' ∧ M = M') 0 0 0 [(0, jR 14), (1, jI a1), (2, jI a2), (3, jI a3)] [] S M
  refine gj_aload_n (q := 1) (gj_dk okX5_shownRight 0 rfl) rfl rfl ?_
  refine gj_iload_n (q := 2) (gj_dk okX5_shownRight 1 rfl) rfl rfl ?_
  refine gj_iload_n (q := 3) (gj_dk okX5_shownRight 2 rfl) rfl rfl ?_
  refine gj_iload_n (q := 4) (gj_dk okX5_shownRight 3 rfl) rfl rfl ?_
  refine gj_callV (q := 7) (z := 14) (ci := 5) [jI a1, jI a2, jI a3] rfl (w_X5_rightAfter hst  _ _ _) (gj_dk okX5_shownRight 4 rfl) ml_X5_74 me_X5_rightAfter (sh14 hst) rfl (gj_nm rfl) rfl (gj_kL fun x2 S2 M2 h1 => ?_)
  obtain ⟨eS, eM⟩ := h1; subst eS; subst eM
  refine gj_lstore (q := 9) (gj_dk okX5_shownRight 5 rfl) (by decide) rfl ?_
  refine gj_lload (q := 11) (gj_dk okX5_shownRight 6 rfl) rfl rfl ?_
  refine gj_aload_n (q := 12) (gj_dk okX5_shownRight 7 rfl) rfl rfl ?_
  refine gj_iload_n (q := 13) (gj_dk okX5_shownRight 8 rfl) rfl rfl ?_
  refine gj_iload_n (q := 14) (gj_dk okX5_shownRight 9 rfl) rfl rfl ?_
  refine gj_iload_n (q := 15) (gj_dk okX5_shownRight 10 rfl) rfl rfl ?_
  refine gj_callV (q := 18) (z := 14) (ci := 5) [jI a1, jI a2, jI a3] rfl (w_X5_otherAfter hst  _ _ _) (gj_dk okX5_shownRight 11 rfl) ml_X5_78 me_X5_otherAfter (sh14 hst) rfl (gj_nm rfl) rfl (gj_kL fun x6 S2 M2 h5 => ?_)
  obtain ⟨eS, eM⟩ := h5; subst eS; subst eM
  refine gj_ladd (q := 19) (gj_dk okX5_shownRight 12 rfl) rfl ?_
  refine gj_lstore (q := 21) (gj_dk okX5_shownRight 13 rfl) (by decide) rfl ?_
  refine gj_lload (q := 23) (gj_dk okX5_shownRight 14 rfl) rfl rfl ?_
  refine gj_lconst (q := 24) (z := 0) (gj_dk okX5_shownRight 15 rfl) rfl (by decide) rfl ?_
  refine gj_lcmp (q := 25) (gj_dk okX5_shownRight 16 rfl) rfl ?_
  refine gj_if_gt (q := 28) (tgt := 32) (gj_dk okX5_shownRight 17 rfl) (by decide) rfl (fun c25 => ?_) (fun c25 => ?_)
  · -- 32
    refine gj_ldc2 (q := 35) (z := 1000) (gj_dk okX5_shownRight 20 rfl) kl_X5_81 (by decide) rfl ?_
    refine gj_lload (q := 37) (gj_dk okX5_shownRight 21 rfl) rfl rfl ?_
    refine gj_lmul (q := 38) (gj_dk okX5_shownRight 22 rfl) rfl ?_
    refine gj_lload (q := 40) (gj_dk okX5_shownRight 23 rfl) rfl rfl ?_
    refine gj_ldiv (q := 41) (gj_dk okX5_shownRight 24 rfl) (by have hh := gj_cmp_gt c25; omega) rfl ?_
    refine gj_l2i (q := 42) (gj_dk okX5_shownRight 25 rfl) rfl ?_
    exact gj_iret (gj_dk okX5_shownRight 26 rfl) rfl ⟨_, rfl, rfl, rfl⟩
  · -- 28
    refine gj_iconst (q := 29) (gj_dk okX5_shownRight 18 rfl) (by decide) rfl ?_
    refine gj_goto (tgt := 42) (gj_dk okX5_shownRight 19 rfl) (by decide) ?_
    exact gj_iret (gj_dk okX5_shownRight 26 rfl) rfl ⟨_, rfl, rfl, rfl⟩

set_option maxHeartbeats 4000000 in
set_option maxRecDepth 20000 in
theorem w_X5_shownGood (hst : gj_Stat S) (a1 a2 a3 : Int)  : gj_C G l 2 0 0 yX5_shownGood cX5_shownGood 4 (some .int) [jR 14, jI a1, jI a2, jI a3] S M (gj_qI fun x S' M' => S = S' ∧ M = M') := by
  refine gj_Cof (by decide +kernel) (Nat.le_of_ble_eq_true rfl) ?_
  change gj_W G l 2 0 0 yX5_shownGood cX5_shownGood 4 (some .int) (gj_qI fun x S' M' => S = S' ∧ M = M') 0 0 0 [(0, jR 14), (1, jI a1), (2, jI a2), (3, jI a3)] [] S M
  refine gj_aload_n (q := 1) (gj_dk okX5_shownGood 0 rfl) rfl rfl ?_
  refine gj_gR (q := 4) (j := 15) (gj_dk okX5_shownGood 1 rfl) ff_X5_27 (sh14 hst) (by decide) rfl (rf14_15 hst) rfl ?_
  refine gj_iload_n (q := 5) (gj_dk okX5_shownGood 2 rfl) rfl rfl ?_
  refine gj_iconst (q := 6) (gj_dk okX5_shownGood 3 rfl) (by decide) rfl ?_
  refine gj_imul (q := 7) (gj_dk okX5_shownGood 4 rfl) rfl ?_
  refine gj_iload_n (q := 8) (gj_dk okX5_shownGood 5 rfl) rfl rfl ?_
  refine gj_iadd (q := 9) (gj_dk okX5_shownGood 6 rfl) rfl ?_
  refine gj_iconst (q := 10) (gj_dk okX5_shownGood 7 rfl) (by decide) rfl ?_
  refine gj_imul (q := 11) (gj_dk okX5_shownGood 8 rfl) rfl ?_
  refine gj_iload_n (q := 12) (gj_dk okX5_shownGood 9 rfl) rfl rfl ?_
  refine gj_iadd (q := 13) (gj_dk okX5_shownGood 10 rfl) rfl ?_
  refine gj_callS (q := 16) [jR 20, jI (gj_w ((gj_w ((gj_w ((gj_w (a1 * 5)) + a2)) * 5)) + a3))] rfl (c_X7_at (sh20 hst) (by decide) (by decide) _) (gj_dk okX5_shownGood 11 rfl) ml_X5_83 me_X7_at (gj_nm rfl) rfl (gj_kI fun x2 S2 M2 h1 => ?_)
  obtain ⟨-, eS, eM⟩ := h1; subst eS; subst eM
  exact gj_iret (gj_dk okX5_shownGood 12 rfl) rfl ⟨_, rfl, rfl, rfl⟩

set_option maxHeartbeats 4000000 in
set_option maxRecDepth 20000 in
theorem w_X11_shown (hst : gj_Stat S) (a1 a2 a3 : Int)  : gj_C G l 4 0 0 yX11_shown cX11_shown 10 (some .int) [jR 0, jI a1, jI a2, jI a3] S M (gj_qI fun x S' M' => S = S' ∧ M = M') := by
  refine gj_Cof (by decide +kernel) (Nat.le_of_ble_eq_true rfl) ?_
  change gj_W G l 4 0 0 yX11_shown cX11_shown 10 (some .int) (gj_qI fun x S' M' => S = S' ∧ M = M') 0 0 0 [(0, jR 0), (1, jI a1), (2, jI a2), (3, jI a3)] [] S M
  refine gj_aload_n (q := 1) (gj_dk okX11_shown 0 rfl) rfl rfl ?_
  refine gj_gR (q := 4) (j := 3) (gj_dk okX11_shown 1 rfl) ff_X11_32 (sh0 hst) (by decide) rfl (rf0_3 hst) rfl ?_
  refine gj_iload_n (q := 5) (gj_dk okX11_shown 2 rfl) rfl rfl ?_
  refine gj_callV (q := 8) (z := 14) (ci := 5) [jI a1] rfl (w_X5_slotOf hst  _) (gj_dk okX11_shown 3 rfl) ml_X11_131 me_X5_slotOf (sh14 hst) rfl (gj_nm rfl) rfl (gj_kI fun x2 S2 M2 h1 => ?_)
  obtain ⟨eS, eM⟩ := h1; subst eS; subst eM
  refine gj_istore (q := 10) (gj_dk okX11_shown 4 rfl) (by decide) rfl ?_
  refine gj_aload_n (q := 11) (gj_dk okX11_shown 5 rfl) rfl rfl ?_
  refine gj_gR (q := 14) (j := 3) (gj_dk okX11_shown 6 rfl) ff_X11_32 (sh0 hst) (by decide) rfl (rf0_3 hst) rfl ?_
  refine gj_iload_n (q := 15) (gj_dk okX11_shown 7 rfl) rfl rfl ?_
  refine gj_callV (q := 18) (z := 14) (ci := 5) [jI a2] rfl (w_X5_slotOf hst  _) (gj_dk okX11_shown 8 rfl) ml_X11_131 me_X5_slotOf (sh14 hst) rfl (gj_nm rfl) rfl (gj_kI fun x6 S2 M2 h5 => ?_)
  obtain ⟨eS, eM⟩ := h5; subst eS; subst eM
  refine gj_istore (q := 20) (gj_dk okX11_shown 9 rfl) (by decide) rfl ?_
  refine gj_iload (q := 22) (gj_dk okX11_shown 10 rfl) rfl rfl ?_
  refine gj_iload (q := 24) (gj_dk okX11_shown 11 rfl) rfl rfl ?_
  refine gj_callS (q := 27) [jI x2, jI x6] rfl (c_X10_unlike _ _) (gj_dk okX11_shown 12 rfl) ml_X11_157 me_X10_unlike (gj_nm rfl) rfl (gj_kI fun x10 S2 M2 h9 => ?_)
  have bx10 : x10 = 0 ∨ x10 = 1 := by rw [← h9.1]; exact f_unl_01 _ _
  obtain ⟨-, eS, eM⟩ := h9; subst eS; subst eM
  refine gj_if_ne (q := 30) (tgt := 32) (gj_dk okX11_shown 13 rfl) (by decide) rfl (fun c27 => ?_) (fun c27 => ?_)
  · -- 32
    refine gj_iload (q := 34) (gj_dk okX11_shown 16 rfl) rfl rfl ?_
    refine gj_iload (q := 36) (gj_dk okX11_shown 17 rfl) rfl rfl ?_
    refine gj_callS (q := 39) [jI x2, jI x6] rfl (c_X10_view _ _) (gj_dk okX11_shown 18 rfl) ml_X11_183 me_X10_view (gj_nm rfl) rfl (gj_kI fun x13 S2 M2 h12 => ?_)
    obtain ⟨-, eS, eM⟩ := h12; subst eS; subst eM
    refine gj_istore (q := 41) (gj_dk okX11_shown 19 rfl) (by decide) rfl ?_
    refine gj_iload (q := 43) (gj_dk okX11_shown 20 rfl) rfl rfl ?_
    refine gj_iload (q := 45) (gj_dk okX11_shown 21 rfl) rfl rfl ?_
    refine gj_callS (q := 48) [jI x2, jI x6] rfl (c_X10_couple _ _) (gj_dk okX11_shown 22 rfl) ml_X11_161 me_X10_couple (gj_nm rfl) rfl (gj_kI fun x16 S2 M2 h15 => ?_)
    obtain ⟨-, eS, eM⟩ := h15; subst eS; subst eM
    refine gj_istore (q := 50) (gj_dk okX11_shown 23 rfl) (by decide) rfl ?_
    refine gj_aload_n (q := 51) (gj_dk okX11_shown 24 rfl) rfl rfl ?_
    refine gj_gR (q := 54) (j := 4) (gj_dk okX11_shown 25 rfl) ff_X11_38 (sh0 hst) (by decide) rfl (rf0_4 hst) rfl ?_
    refine gj_gR (q := 57) (j := 7) (gj_dk okX11_shown 26 rfl) ff_X11_165 (sh21 hst) (by decide) rfl (rf21_7 hst) rfl ?_
    refine gj_iload (q := 59) (gj_dk okX11_shown 27 rfl) rfl rfl ?_
    refine gj_callS (q := 62) [jR 26, jI x16] rfl (c_X7_at (sh26 hst) (by decide) (by decide) _) (gj_dk okX11_shown 28 rfl) ml_X11_139 me_X7_at (gj_nm rfl) rfl (gj_kI fun x19 S2 M2 h18 => ?_)
    obtain ⟨-, eS, eM⟩ := h18; subst eS; subst eM
    refine gj_istore (q := 64) (gj_dk okX11_shown 29 rfl) (by decide) rfl ?_
    refine gj_aload_n (q := 65) (gj_dk okX11_shown 30 rfl) rfl rfl ?_
    refine gj_gR (q := 68) (j := 4) (gj_dk okX11_shown 31 rfl) ff_X11_38 (sh0 hst) (by decide) rfl (rf0_4 hst) rfl ?_
    refine gj_gR (q := 71) (j := 8) (gj_dk okX11_shown 32 rfl) ff_X11_168 (sh21 hst) (by decide) rfl (rf21_8 hst) rfl ?_
    refine gj_iload (q := 73) (gj_dk okX11_shown 33 rfl) rfl rfl ?_
    refine gj_callS (q := 76) [jR 27, jI x16] rfl (c_X7_at (sh27 hst) (by decide) (by decide) _) (gj_dk okX11_shown 34 rfl) ml_X11_139 me_X7_at (gj_nm rfl) rfl (gj_kI fun x22 S2 M2 h21 => ?_)
    obtain ⟨-, eS, eM⟩ := h21; subst eS; subst eM
    refine gj_istore (q := 78) (gj_dk okX11_shown 35 rfl) (by decide) rfl ?_
    refine gj_iload_n (q := 79) (gj_dk okX11_shown 36 rfl) rfl rfl ?_
    by_cases c79_0 : a3 = 0
    · refine gj_lookup (tgt := 104) (off := 25) (gj_dk okX11_shown 37 rfl) (by decide) (by rw [c79_0]; rfl) (by decide) ?_
      refine gj_aload_n (q := 105) (gj_dk okX11_shown 38 rfl) rfl rfl ?_
      refine gj_gR (q := 108) (j := 3) (gj_dk okX11_shown 39 rfl) ff_X11_32 (sh0 hst) (by decide) rfl (rf0_3 hst) rfl ?_
      refine gj_iload (q := 110) (gj_dk okX11_shown 40 rfl) rfl rfl ?_
      refine gj_iload (q := 112) (gj_dk okX11_shown 41 rfl) rfl rfl ?_
      refine gj_iload (q := 114) (gj_dk okX11_shown 42 rfl) rfl rfl ?_
      refine gj_callV (q := 117) (z := 14) (ci := 5) [jI x13, jI x19, jI x22] rfl (w_X5_shownRight hst  _ _ _) (gj_dk okX11_shown 43 rfl) ml_X11_195 me_X5_shownRight (sh14 hst) rfl (gj_nm rfl) rfl (gj_kI fun x25 S2 M2 h24 => ?_)
      obtain ⟨eS, eM⟩ := h24; subst eS; subst eM
      exact gj_iret (gj_dk okX11_shown 44 rfl) rfl ⟨_, rfl, rfl, rfl⟩
    by_cases c79_1 : a3 = 1
    · refine gj_lookup (tgt := 118) (off := 39) (gj_dk okX11_shown 37 rfl) (by decide) (by rw [c79_1]; rfl) (by decide) ?_
      refine gj_aload_n (q := 119) (gj_dk okX11_shown 45 rfl) rfl rfl ?_
      refine gj_gR (q := 122) (j := 3) (gj_dk okX11_shown 46 rfl) ff_X11_32 (sh0 hst) (by decide) rfl (rf0_3 hst) rfl ?_
      refine gj_iload (q := 124) (gj_dk okX11_shown 47 rfl) rfl rfl ?_
      refine gj_iload (q := 126) (gj_dk okX11_shown 48 rfl) rfl rfl ?_
      refine gj_iload (q := 128) (gj_dk okX11_shown 49 rfl) rfl rfl ?_
      refine gj_callV (q := 131) (z := 14) (ci := 5) [jI x13, jI x19, jI x22] rfl (w_X5_shownGood hst  _ _ _) (gj_dk okX11_shown 50 rfl) ml_X11_199 me_X5_shownGood (sh14 hst) rfl (gj_nm rfl) rfl (gj_kI fun x29 S2 M2 h28 => ?_)
      obtain ⟨eS, eM⟩ := h28; subst eS; subst eM
      exact gj_iret (gj_dk okX11_shown 51 rfl) rfl ⟨_, rfl, rfl, rfl⟩
    refine gj_lookup (tgt := 132) (off := 53) (gj_dk okX11_shown 37 rfl) (by decide) (by simp [Op.lookupswitch.offset, c79_0, Ne.symm c79_0, c79_1, Ne.symm c79_1]) (by decide) ?_
    refine gj_iconst (q := 133) (gj_dk okX11_shown 52 rfl) (by decide) rfl ?_
    exact gj_iret (gj_dk okX11_shown 53 rfl) rfl ⟨_, rfl, rfl, rfl⟩
  · -- 30
    refine gj_iconst (q := 31) (gj_dk okX11_shown 14 rfl) (by decide) rfl ?_
    exact gj_iret (gj_dk okX11_shown 15 rfl) rfl ⟨_, rfl, rfl, rfl⟩

set_option maxHeartbeats 4000000 in
set_option maxRecDepth 20000 in
theorem w_X5_gain (hst : gj_Stat S) (a1 a2 a3 : Int)  : gj_C G l 3 0 0 yX5_gain cX5_gain 5 (some .int) [jR 14, jI a1, jI a2, jI a3] S M (gj_qI fun x S' M' => S = S' ∧ M = M') := by
  refine gj_Cof (by decide +kernel) (Nat.le_of_ble_eq_true rfl) ?_
  change gj_W G l 3 0 0 yX5_gain cX5_gain 5 (some .int) (gj_qI fun x S' M' => S = S' ∧ M = M') 0 0 0 [(0, jR 14), (1, jI a1), (2, jI a2), (3, jI a3)] [] S M
  refine gj_aload_n (q := 1) (gj_dk okX5_gain 0 rfl) rfl rfl ?_
  refine gj_iload_n (q := 2) (gj_dk okX5_gain 1 rfl) rfl rfl ?_
  refine gj_iload_n (q := 3) (gj_dk okX5_gain 2 rfl) rfl rfl ?_
  refine gj_iload_n (q := 4) (gj_dk okX5_gain 3 rfl) rfl rfl ?_
  refine gj_callV (q := 7) (z := 14) (ci := 5) [jI a1, jI a2, jI a3] rfl (w_X5_shownGood hst  _ _ _) (gj_dk okX5_gain 4 rfl) ml_X5_87 me_X5_shownGood (sh14 hst) rfl (gj_nm rfl) rfl (gj_kI fun x2 S2 M2 h1 => ?_)
  obtain ⟨eS, eM⟩ := h1; subst eS; subst eM
  refine gj_istore (q := 9) (gj_dk okX5_gain 5 rfl) (by decide) rfl ?_
  refine gj_iload (q := 11) (gj_dk okX5_gain 6 rfl) rfl rfl ?_
  refine gj_aload_n (q := 12) (gj_dk okX5_gain 7 rfl) rfl rfl ?_
  refine gj_gI (q := 15) (j := 2) (gj_dk okX5_gain 8 rfl) ff_X5_37 (sh14 hst) (by decide) rfl rfl ?_
  refine gj_imul (q := 16) (gj_dk okX5_gain 9 rfl) rfl ?_
  refine gj_sipush (q := 19) (gj_dk okX5_gain 10 rfl) (by decide) rfl rfl ?_
  refine gj_iload (q := 21) (gj_dk okX5_gain 11 rfl) rfl rfl ?_
  refine gj_isub (q := 22) (gj_dk okX5_gain 12 rfl) rfl ?_
  refine gj_aload_n (q := 23) (gj_dk okX5_gain 13 rfl) rfl rfl ?_
  refine gj_gI (q := 26) (j := 3) (gj_dk okX5_gain 14 rfl) ff_X5_40 (sh14 hst) (by decide) rfl rfl ?_
  refine gj_imul (q := 27) (gj_dk okX5_gain 15 rfl) rfl ?_
  refine gj_iadd (q := 28) (gj_dk okX5_gain 16 rfl) rfl ?_
  exact gj_iret (gj_dk okX5_gain 17 rfl) rfl ⟨_, rfl, rfl, rfl⟩

set_option maxHeartbeats 4000000 in
set_option maxRecDepth 20000 in
theorem w_X2_likingOf (hst : gj_Stat S) (a1 a2 a3 : Int)  : gj_C G l 4 0 0 yX2_likingOf cX2_likingOf 8 (some .int) [jR 35, jI a1, jI a2, jI a3] S M (gj_qI fun x S' M' => S = S' ∧ M = M') := by
  refine gj_Cof (by decide +kernel) (Nat.le_of_ble_eq_true rfl) ?_
  change gj_W G l 4 0 0 yX2_likingOf cX2_likingOf 8 (some .int) (gj_qI fun x S' M' => S = S' ∧ M = M') 0 0 0 [(0, jR 35), (1, jI a1), (2, jI a2), (3, jI a3)] [] S M
  refine gj_iload_n (q := 1) (gj_dk okX2_likingOf 0 rfl) rfl rfl ?_
  refine gj_iload_n (q := 2) (gj_dk okX2_likingOf 1 rfl) rfl rfl ?_
  refine gj_callS (q := 5) [jI a1, jI a2] rfl (c_X10_couple _ _) (gj_dk okX2_likingOf 2 rfl) ml_X2_69 me_X10_couple (gj_nm rfl) rfl (gj_kI fun x2 S2 M2 h1 => ?_)
  obtain ⟨-, eS, eM⟩ := h1; subst eS; subst eM
  refine gj_istore (q := 7) (gj_dk okX2_likingOf 3 rfl) (by decide) rfl ?_
  refine gj_iload_n (q := 8) (gj_dk okX2_likingOf 4 rfl) rfl rfl ?_
  have J27 : ∀ (x4 : Int), gj_W G l 4 0 0 yX2_likingOf cX2_likingOf 8 (some .int) (gj_qI fun x S' M' => S = S' ∧ M = M') 0 0 27 [(0, jR 35), (1, jI a1), (2, jI a2), (3, jI a3), (4, jI x2)] [jI x4] S M := by
    intro x4
    refine gj_istore (q := 29) (gj_dk okX2_likingOf 13 rfl) (by decide) rfl ?_
    refine gj_iload_n (q := 30) (gj_dk okX2_likingOf 14 rfl) rfl rfl ?_
    have J49 : ∀ (x5 : Int), gj_W G l 4 0 0 yX2_likingOf cX2_likingOf 8 (some .int) (gj_qI fun x S' M' => S = S' ∧ M = M') 0 0 49 [(0, jR 35), (1, jI a1), (2, jI a2), (4, jI x2), (5, jI x4)] [jI x5] S M := by
      intro x5
      refine gj_istore (q := 51) (gj_dk okX2_likingOf 23 rfl) (by decide) rfl ?_
      refine gj_aload_n (q := 52) (gj_dk okX2_likingOf 24 rfl) rfl rfl ?_
      refine gj_gR (q := 55) (j := 0) (gj_dk okX2_likingOf 25 rfl) ff_X2_28 (sh35 hst) (by decide) rfl (rf35_0 hst) rfl ?_
      refine gj_iload_n (q := 56) (gj_dk okX2_likingOf 26 rfl) rfl rfl ?_
      refine gj_iload_n (q := 57) (gj_dk okX2_likingOf 27 rfl) rfl rfl ?_
      refine gj_callS (q := 60) [jI a1, jI a2] rfl (c_X10_view _ _) (gj_dk okX2_likingOf 28 rfl) ml_X2_55 me_X10_view (gj_nm rfl) rfl (gj_kI fun x7 S2 M2 h6 => ?_)
      obtain ⟨-, eS, eM⟩ := h6; subst eS; subst eM
      refine gj_iload (q := 62) (gj_dk okX2_likingOf 29 rfl) rfl rfl ?_
      refine gj_iload (q := 64) (gj_dk okX2_likingOf 30 rfl) rfl rfl ?_
      refine gj_callV (q := 67) (z := 14) (ci := 5) [jI x7, jI x4, jI x5] rfl (w_X5_gain hst  _ _ _) (gj_dk okX2_likingOf 31 rfl) ml_X2_117 me_X5_gain (sh14 hst) rfl (gj_nm rfl) rfl (gj_kI fun x10 S2 M2 h9 => ?_)
      obtain ⟨eS, eM⟩ := h9; subst eS; subst eM
      refine gj_istore (q := 69) (gj_dk okX2_likingOf 32 rfl) (by decide) rfl ?_
      refine gj_iload (q := 71) (gj_dk okX2_likingOf 33 rfl) rfl rfl ?_
      refine gj_sipush (q := 74) (gj_dk okX2_likingOf 34 rfl) (by decide) rfl rfl ?_
      refine gj_aload_n (q := 75) (gj_dk okX2_likingOf 35 rfl) rfl rfl ?_
      refine gj_gR (q := 78) (j := 0) (gj_dk okX2_likingOf 36 rfl) ff_X2_28 (sh35 hst) (by decide) rfl (rf35_0 hst) rfl ?_
      refine gj_gI (q := 81) (j := 7) (gj_dk okX2_likingOf 37 rfl) ff_X2_121 (sh14 hst) (by decide) rfl rfl ?_
      refine gj_imul (q := 82) (gj_dk okX2_likingOf 38 rfl) rfl ?_
      refine gj_aload_n (q := 83) (gj_dk okX2_likingOf 39 rfl) rfl rfl ?_
      refine gj_gR (q := 86) (j := 1) (gj_dk okX2_likingOf 40 rfl) ff_X2_32 (sh35 hst) (by decide) rfl (rf35_1 hst) rfl ?_
      refine gj_gR (q := 89) (j := 9) (gj_dk okX2_likingOf 41 rfl) ff_X2_125 (sh21 hst) (by decide) rfl (rf21_9 hst) rfl ?_
      refine gj_iload (q := 91) (gj_dk okX2_likingOf 42 rfl) rfl rfl ?_
      refine gj_callS (q := 94) [jR 28, jI x2] rfl (c_X7_at (sh28 hst) (by decide) (by decide) _) (gj_dk okX2_likingOf 43 rfl) ml_X2_39 me_X7_at (gj_nm rfl) rfl (gj_kI fun x14 S2 M2 h13 => ?_)
      obtain ⟨-, eS, eM⟩ := h13; subst eS; subst eM
      refine gj_imul (q := 95) (gj_dk okX2_likingOf 44 rfl) rfl ?_
      refine gj_iadd (q := 96) (gj_dk okX2_likingOf 45 rfl) rfl ?_
      exact gj_iret (gj_dk okX2_likingOf 46 rfl) rfl ⟨_, rfl, rfl, rfl⟩
    refine gj_if_eq (q := 33) (tgt := 48) (gj_dk okX2_likingOf 15 rfl) (by decide) rfl (fun c30 => ?_) (fun c30 => ?_)
    · -- 48
      refine gj_iconst (q := 49) (gj_dk okX2_likingOf 22 rfl) (by decide) rfl ?_
      refine gj_sub [(0, jR 35), (1, jI a1), (2, jI a2), (4, jI x2), (5, jI x4)] ⟨rfl, rfl, rfl, rfl, rfl, trivial⟩ ?_
      exact J49 _
    · -- 33
      refine gj_aload_n (q := 34) (gj_dk okX2_likingOf 16 rfl) rfl rfl ?_
      refine gj_gR (q := 37) (j := 1) (gj_dk okX2_likingOf 17 rfl) ff_X2_32 (sh35 hst) (by decide) rfl (rf35_1 hst) rfl ?_
      refine gj_gR (q := 40) (j := 8) (gj_dk okX2_likingOf 18 rfl) ff_X2_114 (sh21 hst) (by decide) rfl (rf21_8 hst) rfl ?_
      refine gj_iload (q := 42) (gj_dk okX2_likingOf 19 rfl) rfl rfl ?_
      refine gj_callS (q := 45) [jR 27, jI x2] rfl (c_X7_at (sh27 hst) (by decide) (by decide) _) (gj_dk okX2_likingOf 20 rfl) ml_X2_39 me_X7_at (gj_nm rfl) rfl (gj_kI fun x17 S2 M2 h16 => ?_)
      obtain ⟨-, eS, eM⟩ := h16; subst eS; subst eM
      refine gj_goto (tgt := 49) (gj_dk okX2_likingOf 21 rfl) (by decide) ?_
      refine gj_sub [(0, jR 35), (1, jI a1), (2, jI a2), (4, jI x2), (5, jI x4)] ⟨rfl, rfl, rfl, rfl, rfl, trivial⟩ ?_
      exact J49 _
  refine gj_if_eq (q := 11) (tgt := 26) (gj_dk okX2_likingOf 5 rfl) (by decide) rfl (fun c8 => ?_) (fun c8 => ?_)
  · -- 26
    refine gj_iconst (q := 27) (gj_dk okX2_likingOf 12 rfl) (by decide) rfl ?_
    refine gj_sub [(0, jR 35), (1, jI a1), (2, jI a2), (3, jI a3), (4, jI x2)] ⟨rfl, rfl, rfl, rfl, rfl, trivial⟩ ?_
    exact J27 _
  · -- 11
    refine gj_aload_n (q := 12) (gj_dk okX2_likingOf 6 rfl) rfl rfl ?_
    refine gj_gR (q := 15) (j := 1) (gj_dk okX2_likingOf 7 rfl) ff_X2_32 (sh35 hst) (by decide) rfl (rf35_1 hst) rfl ?_
    refine gj_gR (q := 18) (j := 7) (gj_dk okX2_likingOf 8 rfl) ff_X2_111 (sh21 hst) (by decide) rfl (rf21_7 hst) rfl ?_
    refine gj_iload (q := 20) (gj_dk okX2_likingOf 9 rfl) rfl rfl ?_
    refine gj_callS (q := 23) [jR 26, jI x2] rfl (c_X7_at (sh26 hst) (by decide) (by decide) _) (gj_dk okX2_likingOf 10 rfl) ml_X2_39 me_X7_at (gj_nm rfl) rfl (gj_kI fun x20 S2 M2 h19 => ?_)
    obtain ⟨-, eS, eM⟩ := h19; subst eS; subst eM
    refine gj_goto (tgt := 27) (gj_dk okX2_likingOf 11 rfl) (by decide) ?_
    refine gj_sub [(0, jR 35), (1, jI a1), (2, jI a2), (3, jI a3), (4, jI x2)] ⟨rfl, rfl, rfl, rfl, rfl, trivial⟩ ?_
    exact J27 _

set_option maxHeartbeats 4000000 in
set_option maxRecDepth 20000 in
theorem w_X11_liking (hst : gj_Stat S) (a1 a2 : Int)  : gj_C G l 5 0 0 yX11_liking cX11_liking 5 (some .int) [jR 0, jI a1, jI a2] S M (gj_qI fun x S' M' => S = S' ∧ M = M') := by
  refine gj_Cof (by decide +kernel) (Nat.le_of_ble_eq_true rfl) ?_
  change gj_W G l 5 0 0 yX11_liking cX11_liking 5 (some .int) (gj_qI fun x S' M' => S = S' ∧ M = M') 0 0 0 [(0, jR 0), (1, jI a1), (2, jI a2)] [] S M
  refine gj_aload_n (q := 1) (gj_dk okX11_liking 0 rfl) rfl rfl ?_
  refine gj_gR (q := 4) (j := 3) (gj_dk okX11_liking 1 rfl) ff_X11_32 (sh0 hst) (by decide) rfl (rf0_3 hst) rfl ?_
  refine gj_iload_n (q := 5) (gj_dk okX11_liking 2 rfl) rfl rfl ?_
  refine gj_callV (q := 8) (z := 14) (ci := 5) [jI a1] rfl (w_X5_slotOf hst  _) (gj_dk okX11_liking 3 rfl) ml_X11_131 me_X5_slotOf (sh14 hst) rfl (gj_nm rfl) rfl (gj_kI fun x2 S2 M2 h1 => ?_)
  obtain ⟨eS, eM⟩ := h1; subst eS; subst eM
  refine gj_istore_n (q := 9) (gj_dk okX11_liking 4 rfl) (by decide) rfl ?_
  refine gj_aload_n (q := 10) (gj_dk okX11_liking 5 rfl) rfl rfl ?_
  refine gj_gR (q := 13) (j := 3) (gj_dk okX11_liking 6 rfl) ff_X11_32 (sh0 hst) (by decide) rfl (rf0_3 hst) rfl ?_
  refine gj_iload_n (q := 14) (gj_dk okX11_liking 7 rfl) rfl rfl ?_
  refine gj_callV (q := 17) (z := 14) (ci := 5) [jI a2] rfl (w_X5_slotOf hst  _) (gj_dk okX11_liking 8 rfl) ml_X11_131 me_X5_slotOf (sh14 hst) rfl (gj_nm rfl) rfl (gj_kI fun x6 S2 M2 h5 => ?_)
  obtain ⟨eS, eM⟩ := h5; subst eS; subst eM
  refine gj_istore (q := 19) (gj_dk okX11_liking 9 rfl) (by decide) rfl ?_
  refine gj_iload_n (q := 20) (gj_dk okX11_liking 10 rfl) rfl rfl ?_
  refine gj_iload (q := 22) (gj_dk okX11_liking 11 rfl) rfl rfl ?_
  refine gj_callS (q := 25) [jI x2, jI x6] rfl (c_X10_unlike _ _) (gj_dk okX11_liking 12 rfl) ml_X11_157 me_X10_unlike (gj_nm rfl) rfl (gj_kI fun x10 S2 M2 h9 => ?_)
  have bx10 : x10 = 0 ∨ x10 = 1 := by rw [← h9.1]; exact f_unl_01 _ _
  obtain ⟨-, eS, eM⟩ := h9; subst eS; subst eM
  refine gj_if_eq (q := 28) (tgt := 42) (gj_dk okX11_liking 13 rfl) (by decide) rfl (fun c25 => ?_) (fun c25 => ?_)
  · -- 42
    refine gj_iconst (q := 43) (gj_dk okX11_liking 21 rfl) (by decide) rfl ?_
    exact gj_iret (gj_dk okX11_liking 22 rfl) rfl ⟨_, rfl, rfl, rfl⟩
  · -- 28
    refine gj_aload_n (q := 29) (gj_dk okX11_liking 14 rfl) rfl rfl ?_
    refine gj_gR (q := 32) (j := 6) (gj_dk okX11_liking 15 rfl) ff_X11_54 (sh0 hst) (by decide) rfl (rf0_6 hst) rfl ?_
    refine gj_iload_n (q := 33) (gj_dk okX11_liking 16 rfl) rfl rfl ?_
    refine gj_iload (q := 35) (gj_dk okX11_liking 17 rfl) rfl rfl ?_
    refine gj_iconst (q := 36) (gj_dk okX11_liking 18 rfl) (by decide) rfl ?_
    refine gj_callV (q := 39) (z := 35) (ci := 2) [jI x2, jI x6, jI 1] rfl (w_X2_likingOf hst  _ _ _) (gj_dk okX11_liking 19 rfl) ml_X11_202 me_X2_likingOf (sh35 hst) rfl (gj_nm rfl) rfl (gj_kI fun x13 S2 M2 h12 => ?_)
    obtain ⟨eS, eM⟩ := h12; subst eS; subst eM
    refine gj_goto (tgt := 43) (gj_dk okX11_liking 20 rfl) (by decide) ?_
    exact gj_iret (gj_dk okX11_liking 22 rfl) rfl ⟨_, rfl, rfl, rfl⟩

set_option maxHeartbeats 4000000 in
set_option maxRecDepth 20000 in
theorem w_X2_likes (hst : gj_Stat S) (a1 a2 : Int)  : gj_C G l 2 0 0 yX2_likes cX2_likes 3 (some .int) [jR 35, jI a1, jI a2] S M (gj_qI fun x S' M' => S = S' ∧ M = M') := by
  refine gj_Cof (by decide +kernel) (Nat.le_of_ble_eq_true rfl) ?_
  change gj_W G l 2 0 0 yX2_likes cX2_likes 3 (some .int) (gj_qI fun x S' M' => S = S' ∧ M = M') 0 0 0 [(0, jR 35), (1, jI a1), (2, jI a2)] [] S M
  refine gj_aload_n (q := 1) (gj_dk okX2_likes 0 rfl) rfl rfl ?_
  refine gj_gR (q := 4) (j := 2) (gj_dk okX2_likes 1 rfl) ff_X2_9 (sh35 hst) (by decide) rfl (rf35_2 hst) rfl ?_
  refine gj_iload_n (q := 5) (gj_dk okX2_likes 2 rfl) rfl rfl ?_
  refine gj_iload_n (q := 6) (gj_dk okX2_likes 3 rfl) rfl rfl ?_
  refine gj_callS (q := 9) [jI a1, jI a2] rfl (c_X10_view _ _) (gj_dk okX2_likes 4 rfl) ml_X2_55 me_X10_view (gj_nm rfl) rfl (gj_kI fun x2 S2 M2 h1 => ?_)
  obtain ⟨-, eS, eM⟩ := h1; subst eS; subst eM
  refine gj_callS (q := 12) [jR 36, jI x2] rfl (c_X7_at (sh36 hst) (by decide) (by decide) _) (gj_dk okX2_likes 5 rfl) ml_X2_39 me_X7_at (gj_nm rfl) rfl (gj_kI fun x5 S2 M2 h4 => ?_)
  obtain ⟨-, eS, eM⟩ := h4; subst eS; subst eM
  exact gj_iret (gj_dk okX2_likes 6 rfl) rfl ⟨_, rfl, rfl, rfl⟩

set_option maxHeartbeats 4000000 in
set_option maxRecDepth 20000 in
theorem w_X2_would (hst : gj_Stat S) (a1 a2 : Int)  : gj_C G l 3 0 0 yX2_would cX2_would 3 (some .boolean) [jR 35, jI a1, jI a2] S M (gj_qI fun x S' M' => (x = 0 ∨ x = 1) ∧ S = S' ∧ M = M') := by
  refine gj_Cof (by decide +kernel) (Nat.le_of_ble_eq_true rfl) ?_
  change gj_W G l 3 0 0 yX2_would cX2_would 3 (some .boolean) (gj_qI fun x S' M' => (x = 0 ∨ x = 1) ∧ S = S' ∧ M = M') 0 0 0 [(0, jR 35), (1, jI a1), (2, jI a2)] [] S M
  refine gj_aload_n (q := 1) (gj_dk okX2_would 0 rfl) rfl rfl ?_
  refine gj_iload_n (q := 2) (gj_dk okX2_would 1 rfl) rfl rfl ?_
  refine gj_iload_n (q := 3) (gj_dk okX2_would 2 rfl) rfl rfl ?_
  refine gj_callV (q := 6) (z := 35) (ci := 2) [jI a1, jI a2] rfl (w_X2_likes hst  _ _) (gj_dk okX2_would 3 rfl) ml_X2_94 me_X2_likes (sh35 hst) rfl (gj_nm rfl) rfl (gj_kI fun x2 S2 M2 h1 => ?_)
  obtain ⟨eS, eM⟩ := h1; subst eS; subst eM
  refine gj_sipush (q := 9) (gj_dk okX2_would 4 rfl) (by decide) rfl rfl ?_
  refine gj_aload_n (q := 10) (gj_dk okX2_would 5 rfl) rfl rfl ?_
  refine gj_gR (q := 13) (j := 0) (gj_dk okX2_would 6 rfl) ff_X2_28 (sh35 hst) (by decide) rfl (rf35_0 hst) rfl ?_
  refine gj_gR (q := 16) (j := 10) (gj_dk okX2_would 7 rfl) ff_X2_128 (sh14 hst) (by decide) rfl (rf14_10 hst) rfl ?_
  refine gj_iload_n (q := 17) (gj_dk okX2_would 8 rfl) rfl rfl ?_
  refine gj_callS (q := 20) [jR 15, jI a1] rfl (c_X7_at (sh15 hst) (by decide) (by decide) _) (gj_dk okX2_would 9 rfl) ml_X2_39 me_X7_at (gj_nm rfl) rfl (gj_kI fun x6 S2 M2 h5 => ?_)
  obtain ⟨-, eS, eM⟩ := h5; subst eS; subst eM
  refine gj_imul (q := 21) (gj_dk okX2_would 10 rfl) rfl ?_
  refine gj_icmp_le (q := 24) (tgt := 28) (gj_dk okX2_would 11 rfl) (by decide) rfl (fun c21 => ?_) (fun c21 => ?_)
  · -- 28
    refine gj_iconst (q := 29) (gj_dk okX2_would 14 rfl) (by decide) rfl ?_
    exact gj_zret (gj_dk okX2_would 15 rfl) rfl (by first | decide | assumption | omega) ⟨_, rfl, (by first | decide | assumption | omega), rfl, rfl⟩
  · -- 24
    refine gj_iconst (q := 25) (gj_dk okX2_would 12 rfl) (by decide) rfl ?_
    refine gj_goto (tgt := 29) (gj_dk okX2_would 13 rfl) (by decide) ?_
    exact gj_zret (gj_dk okX2_would 15 rfl) rfl (by first | decide | assumption | omega) ⟨_, rfl, (by first | decide | assumption | omega), rfl, rfl⟩

set_option maxHeartbeats 4000000 in
set_option maxRecDepth 20000 in
theorem w_X2_look (hst : gj_Stat S) (h : w_CW M0 M) (a1 : Int)  : gj_C G l 5 0 0 yX2_look cX2_look 4 none [jR 35, jI a1] S M (gj_qV fun S' M' => S = S' ∧ w_CW M0 M') := by
  refine gj_Cof (by decide +kernel) (Nat.le_of_ble_eq_true rfl) ?_
  change gj_W G l 5 0 0 yX2_look cX2_look 4 none (gj_qV fun S' M' => S = S' ∧ w_CW M0 M') 0 0 0 [(0, jR 35), (1, jI a1)] [] S M
  refine gj_iconst (q := 1) (gj_dk okX2_look 0 rfl) (by decide) rfl ?_
  refine gj_istore_n (q := 2) (gj_dk okX2_look 1 rfl) (by decide) rfl ?_
  have L2 : ∀ (k2 : Nat) (x1 : Int) (M3 : gj_M), (w_CW M0 M3) → (2147483647 - x1).toNat < k2 → gj_W G l 5 0 0 yX2_look cX2_look 4 none (gj_qV fun S' M' => S = S' ∧ w_CW M0 M') 0 0 2 [(0, jR 35), (1, jI a1), (2, jI x1)] [] S M3 := by
    intro k2
    induction k2 with
    | zero => intro x1 M3 w4 hk2; exact absurd hk2 (Nat.not_lt_zero _)
    | succ k2 ih2 =>
      intro x1 M3 w4 hk2
      refine gj_iload_n (q := 3) (gj_dk okX2_look 2 rfl) rfl rfl ?_
      refine gj_iconst (q := 4) (gj_dk okX2_look 3 rfl) (by decide) rfl ?_
      refine gj_rng (fun ho4 _ _ => ?_)
      have ha4 : -2147483648 ≤ x1 ∧ x1 < 2147483648 := gj_o1 ho4
      clear ho4
      refine gj_icmp_ge (q := 7) (tgt := 100) (gj_dk okX2_look 4 rfl) (by decide) rfl (fun c4 => ?_) (fun c4 => ?_)
      · -- 100
        exact gj_vret (gj_dk okX2_look 55 rfl) rfl ⟨rfl, rfl, w4⟩
      · -- 7
        refine gj_iconst (q := 8) (gj_dk okX2_look 5 rfl) (by decide) rfl ?_
        refine gj_istore_n (q := 9) (gj_dk okX2_look 6 rfl) (by decide) rfl ?_
        have L9 : ∀ (k6 : Nat) (x5 : Int) (M7 : gj_M), (w_CW M0 M7) → (2147483647 - x5).toNat < k6 → gj_W G l 5 0 0 yX2_look cX2_look 4 none (gj_qV fun S' M' => S = S' ∧ w_CW M0 M') 0 0 9 [(0, jR 35), (1, jI a1), (2, jI x1), (3, jI x5)] [] S M7 := by
          intro k6
          induction k6 with
          | zero => intro x5 M7 w8 hk9; exact absurd hk9 (Nat.not_lt_zero _)
          | succ k6 ih9 =>
            intro x5 M7 w8 hk9
            refine gj_iload_n (q := 10) (gj_dk okX2_look 7 rfl) rfl rfl ?_
            refine gj_bipush (q := 12) (gj_dk okX2_look 8 rfl) (by decide) rfl rfl ?_
            refine gj_rng (fun ho12 _ _ => ?_)
            have ha12 : -2147483648 ≤ x5 ∧ x5 < 2147483648 := gj_o1 ho12
            clear ho12
            refine gj_icmp_ge (q := 15) (tgt := 94) (gj_dk okX2_look 9 rfl) (by decide) rfl (fun c12 => ?_) (fun c12 => ?_)
            · -- 94
              refine gj_iinc (q := 97) (v := x1 + 1) (gj_dk okX2_look 53 rfl) rfl (by decide) (gj_wle (by omega) (by omega)) rfl ?_
              refine gj_goto (tgt := 2) (gj_dk okX2_look 54 rfl) (by decide) ?_
              refine gj_sub [(0, jR 35), (1, jI a1), (2, jI (x1 + 1))] ⟨rfl, rfl, rfl, trivial⟩ ?_
              exact ih2 _ _ w8 (by omega)
            · -- 15
              refine gj_aload_n (q := 16) (gj_dk okX2_look 10 rfl) rfl rfl ?_
              refine gj_gR (q := 19) (j := 2) (gj_dk okX2_look 11 rfl) ff_X2_9 (sh35 hst) (by decide) rfl (rf35_2 hst) rfl ?_
              refine gj_iload_n (q := 20) (gj_dk okX2_look 12 rfl) rfl rfl ?_
              refine gj_iload_n (q := 21) (gj_dk okX2_look 13 rfl) rfl rfl ?_
              refine gj_callS (q := 24) [jI x1, jI x5] rfl (c_X10_view _ _) (gj_dk okX2_look 14 rfl) ml_X2_55 me_X10_view (gj_nm rfl) rfl (gj_kI fun x10 S2 M2 h9 => ?_)
              obtain ⟨-, eS, eM⟩ := h9; subst eS; subst eM
              refine gj_aload_n (q := 25) (gj_dk okX2_look 15 rfl) rfl rfl ?_
              refine gj_iload_n (q := 26) (gj_dk okX2_look 16 rfl) rfl rfl ?_
              refine gj_iload_n (q := 27) (gj_dk okX2_look 17 rfl) rfl rfl ?_
              refine gj_iload_n (q := 28) (gj_dk okX2_look 18 rfl) rfl rfl ?_
              refine gj_callV (q := 31) (z := 35) (ci := 2) [jI x1, jI x5, jI a1] rfl (w_X2_likingOf hst  _ _ _) (gj_dk okX2_look 19 rfl) ml_X2_61 me_X2_likingOf (sh35 hst) rfl (gj_nm rfl) rfl (gj_kI fun x13 S2 M2 h12 => ?_)
              obtain ⟨eS, eM⟩ := h12; subst eS; subst eM
              refine gj_callS (q := 34) [jR 36, jI x10, jI x13] rfl (c_X7_put (sh36 hst) (by decide) (by decide) _ _) (gj_dk okX2_look 20 rfl) ml_X2_65 me_X7_put (gj_nm rfl) rfl (gj_kV fun S2 M2 h16 => ?_)
              obtain ⟨eS, eM⟩ := h16; subst eS
              have w19 : w_CW M0 M2 := by rw [← eM]; exact w_CW.put w8 (by decide) (by decide)
              clear eM
              revert w19; generalize M2 = M20; intro w19
              refine gj_aload_n (q := 35) (gj_dk okX2_look 21 rfl) rfl rfl ?_
              refine gj_gR (q := 38) (j := 2) (gj_dk okX2_look 22 rfl) ff_X2_9 (sh35 hst) (by decide) rfl (rf35_2 hst) rfl ?_
              refine gj_iload_n (q := 39) (gj_dk okX2_look 23 rfl) rfl rfl ?_
              refine gj_iload_n (q := 40) (gj_dk okX2_look 24 rfl) rfl rfl ?_
              refine gj_callS (q := 43) [jI x5, jI x1] rfl (c_X10_view _ _) (gj_dk okX2_look 25 rfl) ml_X2_55 me_X10_view (gj_nm rfl) rfl (gj_kI fun x22 S2 M2 h21 => ?_)
              obtain ⟨-, eS, eM⟩ := h21; subst eS; subst eM
              refine gj_aload_n (q := 44) (gj_dk okX2_look 26 rfl) rfl rfl ?_
              refine gj_iload_n (q := 45) (gj_dk okX2_look 27 rfl) rfl rfl ?_
              refine gj_iload_n (q := 46) (gj_dk okX2_look 28 rfl) rfl rfl ?_
              refine gj_iload_n (q := 47) (gj_dk okX2_look 29 rfl) rfl rfl ?_
              refine gj_callV (q := 50) (z := 35) (ci := 2) [jI x5, jI x1, jI a1] rfl (w_X2_likingOf hst  _ _ _) (gj_dk okX2_look 30 rfl) ml_X2_61 me_X2_likingOf (sh35 hst) rfl (gj_nm rfl) rfl (gj_kI fun x25 S2 M2 h24 => ?_)
              obtain ⟨eS, eM⟩ := h24; subst eS; subst eM
              refine gj_callS (q := 53) [jR 36, jI x22, jI x25] rfl (c_X7_put (sh36 hst) (by decide) (by decide) _ _) (gj_dk okX2_look 31 rfl) ml_X2_65 me_X7_put (gj_nm rfl) rfl (gj_kV fun S2 M2 h28 => ?_)
              obtain ⟨eS, eM⟩ := h28; subst eS
              have w31 : w_CW M0 M2 := by rw [← eM]; exact w_CW.put w19 (by decide) (by decide)
              clear eM
              revert w31; generalize M2 = M32; intro w31
              refine gj_aload_n (q := 54) (gj_dk okX2_look 32 rfl) rfl rfl ?_
              refine gj_gR (q := 57) (j := 3) (gj_dk okX2_look 33 rfl) ff_X2_15 (sh35 hst) (by decide) rfl (rf35_3 hst) rfl ?_
              refine gj_iload_n (q := 58) (gj_dk okX2_look 34 rfl) rfl rfl ?_
              refine gj_iload_n (q := 59) (gj_dk okX2_look 35 rfl) rfl rfl ?_
              refine gj_callS (q := 62) [jI x1, jI x5] rfl (c_X10_couple _ _) (gj_dk okX2_look 36 rfl) ml_X2_69 me_X10_couple (gj_nm rfl) rfl (gj_kI fun x34 S2 M2 h33 => ?_)
              obtain ⟨-, eS, eM⟩ := h33; subst eS; subst eM
              refine gj_aload_n (q := 63) (gj_dk okX2_look 37 rfl) rfl rfl ?_
              refine gj_iload_n (q := 64) (gj_dk okX2_look 38 rfl) rfl rfl ?_
              refine gj_iload_n (q := 65) (gj_dk okX2_look 39 rfl) rfl rfl ?_
              refine gj_callV (q := 68) (z := 35) (ci := 2) [jI x1, jI x5] rfl (w_X2_would hst  _ _) (gj_dk okX2_look 40 rfl) ml_X2_72 me_X2_would (sh35 hst) rfl (gj_nm rfl) rfl (gj_kI fun x37 S2 M2 h36 => ?_)
              obtain ⟨bx37, eS, eM⟩ := h36; subst eS; subst eM
              refine gj_if_eq (q := 71) (tgt := 84) (gj_dk okX2_look 41 rfl) (by decide) rfl (fun c68 => ?_) (fun c68 => ?_)
              · -- 84
                refine gj_iconst (q := 85) (gj_dk okX2_look 49 rfl) (by decide) rfl ?_
                refine gj_callS (q := 88) [jR 37, jI x34, jI 0] rfl (c_X7_mark (sh37 hst) (by decide) (by decide) _ _ (by first | decide | assumption | omega)) (gj_dk okX2_look 50 rfl) ml_X2_51 me_X7_mark (gj_nm rfl) rfl (gj_kV fun S2 M2 h40 => ?_)
                obtain ⟨eS, eM⟩ := h40; subst eS
                have w43 : w_CW M0 M2 := by rw [← eM]; exact w_CW.put w31 (by decide) (by decide)
                clear eM
                revert w43; generalize M2 = M44; intro w43
                refine gj_iinc (q := 91) (v := x5 + 1) (gj_dk okX2_look 51 rfl) rfl (by decide) (gj_wle (by omega) (by omega)) rfl ?_
                refine gj_goto (tgt := 9) (gj_dk okX2_look 52 rfl) (by decide) ?_
                refine gj_sub [(0, jR 35), (1, jI a1), (2, jI x1), (3, jI (x5 + 1))] ⟨rfl, rfl, rfl, rfl, trivial⟩ ?_
                exact ih9 _ _ w43 (by omega)
              · -- 71
                refine gj_aload_n (q := 72) (gj_dk okX2_look 42 rfl) rfl rfl ?_
                refine gj_iload_n (q := 73) (gj_dk okX2_look 43 rfl) rfl rfl ?_
                refine gj_iload_n (q := 74) (gj_dk okX2_look 44 rfl) rfl rfl ?_
                refine gj_callV (q := 77) (z := 35) (ci := 2) [jI x5, jI x1] rfl (w_X2_would hst  _ _) (gj_dk okX2_look 45 rfl) ml_X2_72 me_X2_would (sh35 hst) rfl (gj_nm rfl) rfl (gj_kI fun x46 S2 M2 h45 => ?_)
                obtain ⟨bx46, eS, eM⟩ := h45; subst eS; subst eM
                refine gj_if_eq (q := 80) (tgt := 84) (gj_dk okX2_look 46 rfl) (by decide) rfl (fun c77 => ?_) (fun c77 => ?_)
                · -- 84
                  refine gj_iconst (q := 85) (gj_dk okX2_look 49 rfl) (by decide) rfl ?_
                  refine gj_callS (q := 88) [jR 37, jI x34, jI 0] rfl (c_X7_mark (sh37 hst) (by decide) (by decide) _ _ (by first | decide | assumption | omega)) (gj_dk okX2_look 50 rfl) ml_X2_51 me_X7_mark (gj_nm rfl) rfl (gj_kV fun S2 M2 h49 => ?_)
                  obtain ⟨eS, eM⟩ := h49; subst eS
                  have w52 : w_CW M0 M2 := by rw [← eM]; exact w_CW.put w31 (by decide) (by decide)
                  clear eM
                  revert w52; generalize M2 = M53; intro w52
                  refine gj_iinc (q := 91) (v := x5 + 1) (gj_dk okX2_look 51 rfl) rfl (by decide) (gj_wle (by omega) (by omega)) rfl ?_
                  refine gj_goto (tgt := 9) (gj_dk okX2_look 52 rfl) (by decide) ?_
                  refine gj_sub [(0, jR 35), (1, jI a1), (2, jI x1), (3, jI (x5 + 1))] ⟨rfl, rfl, rfl, rfl, trivial⟩ ?_
                  exact ih9 _ _ w52 (by omega)
                · -- 80
                  refine gj_iconst (q := 81) (gj_dk okX2_look 47 rfl) (by decide) rfl ?_
                  refine gj_goto (tgt := 85) (gj_dk okX2_look 48 rfl) (by decide) ?_
                  refine gj_callS (q := 88) [jR 37, jI x34, jI 1] rfl (c_X7_mark (sh37 hst) (by decide) (by decide) _ _ (by first | decide | assumption | omega)) (gj_dk okX2_look 50 rfl) ml_X2_51 me_X7_mark (gj_nm rfl) rfl (gj_kV fun S2 M2 h54 => ?_)
                  obtain ⟨eS, eM⟩ := h54; subst eS
                  have w57 : w_CW M0 M2 := by rw [← eM]; exact w_CW.put w31 (by decide) (by decide)
                  clear eM
                  revert w57; generalize M2 = M58; intro w57
                  refine gj_iinc (q := 91) (v := x5 + 1) (gj_dk okX2_look 51 rfl) rfl (by decide) (gj_wle (by omega) (by omega)) rfl ?_
                  refine gj_goto (tgt := 9) (gj_dk okX2_look 52 rfl) (by decide) ?_
                  refine gj_sub [(0, jR 35), (1, jI a1), (2, jI x1), (3, jI (x5 + 1))] ⟨rfl, rfl, rfl, rfl, trivial⟩ ?_
                  exact ih9 _ _ w57 (by omega)
        refine gj_sub [(0, jR 35), (1, jI a1), (2, jI x1), (3, jI 4)] ⟨rfl, rfl, rfl, rfl, trivial⟩ ?_
        exact L9 _ _ _ w4 (Nat.lt_succ_self _)
  refine gj_sub [(0, jR 35), (1, jI a1), (2, jI 0)] ⟨rfl, rfl, rfl, trivial⟩ ?_
  exact L2 _ _ _ h (Nat.lt_succ_self _)

set_option maxHeartbeats 4000000 in
set_option maxRecDepth 20000 in
theorem w_X2_soonerOf (hst : gj_Stat S) (a1 a2 a3 : Int)  : gj_C G l 3 0 0 yX2_soonerOf cX2_soonerOf 6 (some .boolean) [jR 35, jI a1, jI a2, jI a3] S M (gj_qI fun x S' M' => (x = 0 ∨ x = 1) ∧ S = S' ∧ M = M') := by
  refine gj_Cof (by decide +kernel) (Nat.le_of_ble_eq_true rfl) ?_
  change gj_W G l 3 0 0 yX2_soonerOf cX2_soonerOf 6 (some .boolean) (gj_qI fun x S' M' => (x = 0 ∨ x = 1) ∧ S = S' ∧ M = M') 0 0 0 [(0, jR 35), (1, jI a1), (2, jI a2), (3, jI a3)] [] S M
  refine gj_aload_n (q := 1) (gj_dk okX2_soonerOf 0 rfl) rfl rfl ?_
  refine gj_iload_n (q := 2) (gj_dk okX2_soonerOf 1 rfl) rfl rfl ?_
  refine gj_iload_n (q := 3) (gj_dk okX2_soonerOf 2 rfl) rfl rfl ?_
  refine gj_callV (q := 6) (z := 35) (ci := 2) [jI a1, jI a2] rfl (w_X2_likes hst  _ _) (gj_dk okX2_soonerOf 3 rfl) ml_X2_94 me_X2_likes (sh35 hst) rfl (gj_nm rfl) rfl (gj_kI fun x2 S2 M2 h1 => ?_)
  obtain ⟨eS, eM⟩ := h1; subst eS; subst eM
  refine gj_istore (q := 8) (gj_dk okX2_soonerOf 4 rfl) (by decide) rfl ?_
  refine gj_aload_n (q := 9) (gj_dk okX2_soonerOf 5 rfl) rfl rfl ?_
  refine gj_iload_n (q := 10) (gj_dk okX2_soonerOf 6 rfl) rfl rfl ?_
  refine gj_iload_n (q := 11) (gj_dk okX2_soonerOf 7 rfl) rfl rfl ?_
  refine gj_callV (q := 14) (z := 35) (ci := 2) [jI a1, jI a3] rfl (w_X2_likes hst  _ _) (gj_dk okX2_soonerOf 8 rfl) ml_X2_94 me_X2_likes (sh35 hst) rfl (gj_nm rfl) rfl (gj_kI fun x6 S2 M2 h5 => ?_)
  obtain ⟨eS, eM⟩ := h5; subst eS; subst eM
  refine gj_istore (q := 16) (gj_dk okX2_soonerOf 9 rfl) (by decide) rfl ?_
  refine gj_iload (q := 18) (gj_dk okX2_soonerOf 10 rfl) rfl rfl ?_
  refine gj_iload (q := 20) (gj_dk okX2_soonerOf 11 rfl) rfl rfl ?_
  refine gj_icmp_gt (q := 23) (tgt := 35) (gj_dk okX2_soonerOf 12 rfl) (by decide) rfl (fun c20 => ?_) (fun c20 => ?_)
  · -- 35
    refine gj_iconst (q := 36) (gj_dk okX2_soonerOf 19 rfl) (by decide) rfl ?_
    refine gj_goto (tgt := 40) (gj_dk okX2_soonerOf 20 rfl) (by decide) ?_
    exact gj_zret (gj_dk okX2_soonerOf 22 rfl) rfl (by first | decide | assumption | omega) ⟨_, rfl, (by first | decide | assumption | omega), rfl, rfl⟩
  · -- 23
    refine gj_iload (q := 25) (gj_dk okX2_soonerOf 13 rfl) rfl rfl ?_
    refine gj_iload (q := 27) (gj_dk okX2_soonerOf 14 rfl) rfl rfl ?_
    refine gj_icmp_ne (q := 30) (tgt := 39) (gj_dk okX2_soonerOf 15 rfl) (by decide) rfl (fun c27 => ?_) (fun c27 => ?_)
    · -- 39
      refine gj_iconst (q := 40) (gj_dk okX2_soonerOf 21 rfl) (by decide) rfl ?_
      exact gj_zret (gj_dk okX2_soonerOf 22 rfl) rfl (by first | decide | assumption | omega) ⟨_, rfl, (by first | decide | assumption | omega), rfl, rfl⟩
    · -- 30
      refine gj_iload_n (q := 31) (gj_dk okX2_soonerOf 16 rfl) rfl rfl ?_
      refine gj_iload_n (q := 32) (gj_dk okX2_soonerOf 17 rfl) rfl rfl ?_
      refine gj_icmp_ge (q := 35) (tgt := 39) (gj_dk okX2_soonerOf 18 rfl) (by decide) rfl (fun c32 => ?_) (fun c32 => ?_)
      · -- 39
        refine gj_iconst (q := 40) (gj_dk okX2_soonerOf 21 rfl) (by decide) rfl ?_
        exact gj_zret (gj_dk okX2_soonerOf 22 rfl) rfl (by first | decide | assumption | omega) ⟨_, rfl, (by first | decide | assumption | omega), rfl, rfl⟩
      · -- 35
        refine gj_iconst (q := 36) (gj_dk okX2_soonerOf 19 rfl) (by decide) rfl ?_
        refine gj_goto (tgt := 40) (gj_dk okX2_soonerOf 20 rfl) (by decide) ?_
        exact gj_zret (gj_dk okX2_soonerOf 22 rfl) rfl (by first | decide | assumption | omega) ⟨_, rfl, (by first | decide | assumption | omega), rfl, rfl⟩

set_option maxHeartbeats 4000000 in
set_option maxRecDepth 20000 in
theorem w_X11_sooner (hst : gj_Stat S) (h : w_CW M0 M) (a1 a2 a3 : Int)  : gj_C G l 6 0 0 yX11_sooner cX11_sooner 7 (some .int) [jR 0, jI a1, jI a2, jI a3] S M (gj_qI fun x S' M' => S = S' ∧ w_CW M0 M') := by
  refine gj_Cof (by decide +kernel) (Nat.le_of_ble_eq_true rfl) ?_
  change gj_W G l 6 0 0 yX11_sooner cX11_sooner 7 (some .int) (gj_qI fun x S' M' => S = S' ∧ w_CW M0 M') 0 0 0 [(0, jR 0), (1, jI a1), (2, jI a2), (3, jI a3)] [] S M
  refine gj_aload_n (q := 1) (gj_dk okX11_sooner 0 rfl) rfl rfl ?_
  refine gj_gR (q := 4) (j := 3) (gj_dk okX11_sooner 1 rfl) ff_X11_32 (sh0 hst) (by decide) rfl (rf0_3 hst) rfl ?_
  refine gj_iload_n (q := 5) (gj_dk okX11_sooner 2 rfl) rfl rfl ?_
  refine gj_callV (q := 8) (z := 14) (ci := 5) [jI a1] rfl (w_X5_slotOf hst  _) (gj_dk okX11_sooner 3 rfl) ml_X11_131 me_X5_slotOf (sh14 hst) rfl (gj_nm rfl) rfl (gj_kI fun x2 S2 M2 h1 => ?_)
  obtain ⟨eS, eM⟩ := h1; subst eS; subst eM
  refine gj_istore (q := 10) (gj_dk okX11_sooner 4 rfl) (by decide) rfl ?_
  refine gj_aload_n (q := 11) (gj_dk okX11_sooner 5 rfl) rfl rfl ?_
  refine gj_gR (q := 14) (j := 3) (gj_dk okX11_sooner 6 rfl) ff_X11_32 (sh0 hst) (by decide) rfl (rf0_3 hst) rfl ?_
  refine gj_iload_n (q := 15) (gj_dk okX11_sooner 7 rfl) rfl rfl ?_
  refine gj_callV (q := 18) (z := 14) (ci := 5) [jI a2] rfl (w_X5_slotOf hst  _) (gj_dk okX11_sooner 8 rfl) ml_X11_131 me_X5_slotOf (sh14 hst) rfl (gj_nm rfl) rfl (gj_kI fun x6 S2 M2 h5 => ?_)
  obtain ⟨eS, eM⟩ := h5; subst eS; subst eM
  refine gj_istore (q := 20) (gj_dk okX11_sooner 9 rfl) (by decide) rfl ?_
  refine gj_aload_n (q := 21) (gj_dk okX11_sooner 10 rfl) rfl rfl ?_
  refine gj_gR (q := 24) (j := 3) (gj_dk okX11_sooner 11 rfl) ff_X11_32 (sh0 hst) (by decide) rfl (rf0_3 hst) rfl ?_
  refine gj_iload_n (q := 25) (gj_dk okX11_sooner 12 rfl) rfl rfl ?_
  refine gj_callV (q := 28) (z := 14) (ci := 5) [jI a3] rfl (w_X5_slotOf hst  _) (gj_dk okX11_sooner 13 rfl) ml_X11_131 me_X5_slotOf (sh14 hst) rfl (gj_nm rfl) rfl (gj_kI fun x10 S2 M2 h9 => ?_)
  obtain ⟨eS, eM⟩ := h9; subst eS; subst eM
  refine gj_istore (q := 30) (gj_dk okX11_sooner 14 rfl) (by decide) rfl ?_
  refine gj_iload (q := 32) (gj_dk okX11_sooner 15 rfl) rfl rfl ?_
  refine gj_iload (q := 34) (gj_dk okX11_sooner 16 rfl) rfl rfl ?_
  refine gj_callS (q := 37) [jI x2, jI x6] rfl (c_X10_unlike _ _) (gj_dk okX11_sooner 17 rfl) ml_X11_157 me_X10_unlike (gj_nm rfl) rfl (gj_kI fun x14 S2 M2 h13 => ?_)
  have bx14 : x14 = 0 ∨ x14 = 1 := by rw [← h13.1]; exact f_unl_01 _ _
  obtain ⟨-, eS, eM⟩ := h13; subst eS; subst eM
  refine gj_if_eq (q := 40) (tgt := 50) (gj_dk okX11_sooner 18 rfl) (by decide) rfl (fun c37 => ?_) (fun c37 => ?_)
  · -- 50
    refine gj_iconst (q := 51) (gj_dk okX11_sooner 23 rfl) (by decide) rfl ?_
    exact gj_iret (gj_dk okX11_sooner 24 rfl) rfl ⟨_, rfl, rfl, h⟩
  · -- 40
    refine gj_iload (q := 42) (gj_dk okX11_sooner 19 rfl) rfl rfl ?_
    refine gj_iload (q := 44) (gj_dk okX11_sooner 20 rfl) rfl rfl ?_
    refine gj_callS (q := 47) [jI x2, jI x10] rfl (c_X10_unlike _ _) (gj_dk okX11_sooner 21 rfl) ml_X11_157 me_X10_unlike (gj_nm rfl) rfl (gj_kI fun x17 S2 M2 h16 => ?_)
    have bx17 : x17 = 0 ∨ x17 = 1 := by rw [← h16.1]; exact f_unl_01 _ _
    obtain ⟨-, eS, eM⟩ := h16; subst eS; subst eM
    refine gj_if_ne (q := 50) (tgt := 52) (gj_dk okX11_sooner 22 rfl) (by decide) rfl (fun c47 => ?_) (fun c47 => ?_)
    · -- 52
      refine gj_aload_n (q := 53) (gj_dk okX11_sooner 25 rfl) rfl rfl ?_
      refine gj_gR (q := 56) (j := 6) (gj_dk okX11_sooner 26 rfl) ff_X11_54 (sh0 hst) (by decide) rfl (rf0_6 hst) rfl ?_
      refine gj_iconst (q := 57) (gj_dk okX11_sooner 27 rfl) (by decide) rfl ?_
      refine gj_callV (q := 60) (z := 35) (ci := 2) [jI 1] rfl (w_X2_look hst h  _) (gj_dk okX11_sooner 28 rfl) ml_X11_206 me_X2_look (sh35 hst) rfl (gj_nm rfl) rfl (gj_kV fun S2 M2 h19 => ?_)
      obtain ⟨eS, w22⟩ := h19; subst eS
      revert w22; generalize M2 = M23; intro w22
      refine gj_aload_n (q := 61) (gj_dk okX11_sooner 29 rfl) rfl rfl ?_
      refine gj_gR (q := 64) (j := 6) (gj_dk okX11_sooner 30 rfl) ff_X11_54 (sh0 hst) (by decide) rfl (rf0_6 hst) rfl ?_
      refine gj_iload (q := 66) (gj_dk okX11_sooner 31 rfl) rfl rfl ?_
      refine gj_iload (q := 68) (gj_dk okX11_sooner 32 rfl) rfl rfl ?_
      refine gj_iload (q := 70) (gj_dk okX11_sooner 33 rfl) rfl rfl ?_
      refine gj_callV (q := 73) (z := 35) (ci := 2) [jI x2, jI x6, jI x10] rfl (w_X2_soonerOf hst  _ _ _) (gj_dk okX11_sooner 34 rfl) ml_X11_210 me_X2_soonerOf (sh35 hst) rfl (gj_nm rfl) rfl (gj_kI fun x25 S2 M2 h24 => ?_)
      obtain ⟨bx25, eS, eM⟩ := h24; subst eS; subst eM
      refine gj_if_eq (q := 76) (tgt := 80) (gj_dk okX11_sooner 35 rfl) (by decide) rfl (fun c73 => ?_) (fun c73 => ?_)
      · -- 80
        refine gj_iconst (q := 81) (gj_dk okX11_sooner 38 rfl) (by decide) rfl ?_
        exact gj_iret (gj_dk okX11_sooner 39 rfl) rfl ⟨_, rfl, rfl, w22⟩
      · -- 76
        refine gj_iconst (q := 77) (gj_dk okX11_sooner 36 rfl) (by decide) rfl ?_
        refine gj_goto (tgt := 81) (gj_dk okX11_sooner 37 rfl) (by decide) ?_
        exact gj_iret (gj_dk okX11_sooner 39 rfl) rfl ⟨_, rfl, rfl, w22⟩
    · -- 50
      refine gj_iconst (q := 51) (gj_dk okX11_sooner 23 rfl) (by decide) rfl ?_
      exact gj_iret (gj_dk okX11_sooner 24 rfl) rfl ⟨_, rfl, rfl, h⟩

set_option maxHeartbeats 4000000 in
set_option maxRecDepth 20000 in
theorem w_X11_canReckon (hst : gj_Stat S) (a1 : Int)  : gj_C G l 1 0 0 yX11_canReckon cX11_canReckon 1 (some .boolean) [jI a1] S M (gj_qI fun x S' M' => (x = 0 ∨ x = 1) ∧ (x = 1 → 1 ≤ a1 ∧ a1 ≤ 4) ∧ S = S' ∧ M = M') := by
  refine gj_Cof (by decide +kernel) (Nat.le_of_ble_eq_true rfl) ?_
  change gj_W G l 1 0 0 yX11_canReckon cX11_canReckon 1 (some .boolean) (gj_qI fun x S' M' => (x = 0 ∨ x = 1) ∧ (x = 1 → 1 ≤ a1 ∧ a1 ≤ 4) ∧ S = S' ∧ M = M') 0 0 0 [(0, jI a1)] [] S M
  refine gj_iload_n (q := 1) (gj_dk okX11_canReckon 0 rfl) rfl rfl ?_
  refine gj_iconst (q := 2) (gj_dk okX11_canReckon 1 rfl) (by decide) rfl ?_
  refine gj_icmp_lt (q := 5) (tgt := 14) (gj_dk okX11_canReckon 2 rfl) (by decide) rfl (fun c2 => ?_) (fun c2 => ?_)
  · -- 14
    refine gj_iconst (q := 15) (gj_dk okX11_canReckon 8 rfl) (by decide) rfl ?_
    exact gj_zret (gj_dk okX11_canReckon 9 rfl) rfl (by first | decide | assumption | omega) ⟨_, rfl, (by first | decide | assumption | omega), (by intro hh; omega), rfl, rfl⟩
  · -- 5
    refine gj_iload_n (q := 6) (gj_dk okX11_canReckon 3 rfl) rfl rfl ?_
    refine gj_iconst (q := 7) (gj_dk okX11_canReckon 4 rfl) (by decide) rfl ?_
    refine gj_icmp_gt (q := 10) (tgt := 14) (gj_dk okX11_canReckon 5 rfl) (by decide) rfl (fun c7 => ?_) (fun c7 => ?_)
    · -- 14
      refine gj_iconst (q := 15) (gj_dk okX11_canReckon 8 rfl) (by decide) rfl ?_
      exact gj_zret (gj_dk okX11_canReckon 9 rfl) rfl (by first | decide | assumption | omega) ⟨_, rfl, (by first | decide | assumption | omega), (by intro hh; omega), rfl, rfl⟩
    · -- 10
      refine gj_iconst (q := 11) (gj_dk okX11_canReckon 6 rfl) (by decide) rfl ?_
      refine gj_goto (tgt := 15) (gj_dk okX11_canReckon 7 rfl) (by decide) ?_
      exact gj_zret (gj_dk okX11_canReckon 9 rfl) rfl (by first | decide | assumption | omega) ⟨_, rfl, (by first | decide | assumption | omega), (by intro hh; omega), rfl, rfl⟩

set_option maxHeartbeats 4000000 in
set_option maxRecDepth 20000 in
theorem w_X4_enter (hst : gj_Stat S) (h : w_CW M0 M) (a1 : Int)  : gj_C G l 2 0 0 yX4_enter cX4_enter 4 none [jR 31, jI a1] S M (gj_qV fun S' M' => S = S' ∧ w_CW M0 M') := by
  refine gj_Cof (by decide +kernel) (Nat.le_of_ble_eq_true rfl) ?_
  change gj_W G l 2 0 0 yX4_enter cX4_enter 4 none (gj_qV fun S' M' => S = S' ∧ w_CW M0 M') 0 0 0 [(0, jR 31), (1, jI a1)] [] S M
  refine gj_aload_n (q := 1) (gj_dk okX4_enter 0 rfl) rfl rfl ?_
  refine gj_iload_n (q := 2) (gj_dk okX4_enter 1 rfl) rfl rfl ?_
  refine gj_pfI (q := 5) (j := 5) (gj_dk okX4_enter 2 rfl) ff_X4_29 (sh31 hst) (by decide) rfl rfl ?_
  refine gj_abs (fun M1 e3 => ?_)
  have w2 : w_CW M0 M1 := by rw [e3]; exact h.up (by decide) rfl
  clear e3
  refine gj_aload_n (q := 6) (gj_dk okX4_enter 3 rfl) rfl rfl ?_
  refine gj_iload_n (q := 7) (gj_dk okX4_enter 4 rfl) rfl rfl ?_
  refine gj_iconst (q := 8) (gj_dk okX4_enter 5 rfl) (by decide) rfl ?_
  have J28 : ∀ (x4 : Int), gj_W G l 2 0 0 yX4_enter cX4_enter 4 none (gj_qV fun S' M' => S = S' ∧ w_CW M0 M') 0 0 28 [(0, jR 31), (1, jI a1)] [jI x4, jR 31] S M1 := by
    intro x4
    refine gj_pfI (q := 31) (j := 6) (gj_dk okX4_enter 14 rfl) ff_X4_41 (sh31 hst) (by decide) rfl rfl ?_
    refine gj_abs (fun M5 e7 => ?_)
    have w6 : w_CW M0 M5 := by rw [e7]; exact w2.up (by decide) rfl
    clear e7
    refine gj_iconst (q := 32) (gj_dk okX4_enter 15 rfl) (by decide) rfl ?_
    refine gj_istore_n (q := 33) (gj_dk okX4_enter 16 rfl) (by decide) rfl ?_
    have L33 : ∀ (k9 : Nat) (x8 : Int) (M10 : gj_M), (w_CW M0 M10) → (2147483647 - x8).toNat < k9 → gj_W G l 2 0 0 yX4_enter cX4_enter 4 none (gj_qV fun S' M' => S = S' ∧ w_CW M0 M') 0 0 33 [(0, jR 31), (1, jI a1), (2, jI x8)] [] S M10 := by
      intro k9
      induction k9 with
      | zero => intro x8 M10 w11 hk33; exact absurd hk33 (Nat.not_lt_zero _)
      | succ k9 ih33 =>
        intro x8 M10 w11 hk33
        refine gj_iload_n (q := 34) (gj_dk okX4_enter 17 rfl) rfl rfl ?_
        refine gj_iconst (q := 35) (gj_dk okX4_enter 18 rfl) (by decide) rfl ?_
        refine gj_rng (fun ho35 _ _ => ?_)
        have ha35 : -2147483648 ≤ x8 ∧ x8 < 2147483648 := gj_o1 ho35
        clear ho35
        have J123 : ∀ (M12 : gj_M), (w_CW M0 M12) → gj_W G l 2 0 0 yX4_enter cX4_enter 4 none (gj_qV fun S' M' => S = S' ∧ w_CW M0 M') 0 0 123 [(0, jR 31), (1, jI a1)] [] S M12 := by
          intro M12 w13
          refine gj_aload_n (q := 124) (gj_dk okX4_enter 61 rfl) rfl rfl ?_
          refine gj_aload_n (q := 125) (gj_dk okX4_enter 62 rfl) rfl rfl ?_
          refine gj_gR (q := 128) (j := 1) (gj_dk okX4_enter 63 rfl) ff_X4_25 (sh31 hst) (by decide) rfl (rf31_1 hst) rfl ?_
          refine gj_gR (q := 131) (j := 3) (gj_dk okX4_enter 64 rfl) ff_X4_73 (sh21 hst) (by decide) rfl (rf21_3 hst) rfl ?_
          refine gj_iload_n (q := 132) (gj_dk okX4_enter 65 rfl) rfl rfl ?_
          refine gj_callS (q := 135) [jR 22, jI a1] rfl (c_X7_at (sh22 hst) (by decide) (by decide) _) (gj_dk okX4_enter 66 rfl) ml_X4_56 me_X7_at (gj_nm rfl) rfl (gj_kI fun x15 S2 M2 h14 => ?_)
          obtain ⟨-, eS, eM⟩ := h14; subst eS; subst eM
          refine gj_callS (q := 138) [jI x15] rfl (c_X10_placeOf _) (gj_dk okX4_enter 67 rfl) ml_X4_76 me_X10_placeOf (gj_nm rfl) rfl (gj_kI fun x18 S2 M2 h17 => ?_)
          obtain ⟨-, eS, eM⟩ := h17; subst eS; subst eM
          refine gj_pfI (q := 141) (j := 7) (gj_dk okX4_enter 68 rfl) ff_X4_80 (sh31 hst) (by decide) rfl rfl ?_
          refine gj_abs (fun M20 e22 => ?_)
          have w21 : w_CW M0 M20 := by rw [e22]; exact w13.up (by decide) rfl
          clear e22
          refine gj_aload_n (q := 142) (gj_dk okX4_enter 69 rfl) rfl rfl ?_
          refine gj_aload_n (q := 143) (gj_dk okX4_enter 70 rfl) rfl rfl ?_
          refine gj_gR (q := 146) (j := 1) (gj_dk okX4_enter 71 rfl) ff_X4_25 (sh31 hst) (by decide) rfl (rf31_1 hst) rfl ?_
          refine gj_gR (q := 149) (j := 4) (gj_dk okX4_enter 72 rfl) ff_X4_83 (sh21 hst) (by decide) rfl (rf21_4 hst) rfl ?_
          refine gj_iload_n (q := 150) (gj_dk okX4_enter 73 rfl) rfl rfl ?_
          refine gj_callS (q := 153) [jR 23, jI a1] rfl (c_X7_at (sh23 hst) (by decide) (by decide) _) (gj_dk okX4_enter 74 rfl) ml_X4_56 me_X7_at (gj_nm rfl) rfl (gj_kI fun x24 S2 M2 h23 => ?_)
          obtain ⟨-, eS, eM⟩ := h23; subst eS; subst eM
          refine gj_pfI (q := 156) (j := 8) (gj_dk okX4_enter 75 rfl) ff_X4_86 (sh31 hst) (by decide) rfl rfl ?_
          refine gj_abs (fun M26 e28 => ?_)
          have w27 : w_CW M0 M26 := by rw [e28]; exact w21.up (by decide) rfl
          clear e28
          refine gj_aload_n (q := 157) (gj_dk okX4_enter 76 rfl) rfl rfl ?_
          refine gj_aload_n (q := 158) (gj_dk okX4_enter 77 rfl) rfl rfl ?_
          refine gj_gR (q := 161) (j := 0) (gj_dk okX4_enter 78 rfl) ff_X4_21 (sh31 hst) (by decide) rfl (rf31_0 hst) rfl ?_
          refine gj_gI (q := 164) (j := 8) (gj_dk okX4_enter 79 rfl) ff_X4_89 (sh14 hst) (by decide) rfl rfl ?_
          refine gj_pfI (q := 167) (j := 9) (gj_dk okX4_enter 80 rfl) ff_X4_92 (sh31 hst) (by decide) rfl rfl ?_
          refine gj_abs (fun M29 e31 => ?_)
          have w30 : w_CW M0 M29 := by rw [e31]; exact w27.up (by decide) rfl
          clear e31
          refine gj_aload_n (q := 168) (gj_dk okX4_enter 81 rfl) rfl rfl ?_
          refine gj_iconst (q := 169) (gj_dk okX4_enter 82 rfl) (by decide) rfl ?_
          refine gj_pfI (q := 172) (j := 10) (gj_dk okX4_enter 83 rfl) ff_X4_93 (sh31 hst) (by decide) rfl rfl ?_
          refine gj_abs (fun M32 e34 => ?_)
          have w33 : w_CW M0 M32 := by rw [e34]; exact w30.up (by decide) rfl
          clear e34
          exact gj_vret (gj_dk okX4_enter 84 rfl) rfl ⟨rfl, rfl, w33⟩
        refine gj_icmp_ge (q := 38) (tgt := 123) (gj_dk okX4_enter 19 rfl) (by decide) rfl (fun c35 => ?_) (fun c35 => ?_)
        · -- 123
          refine gj_sub [(0, jR 31), (1, jI a1)] ⟨rfl, rfl, trivial⟩ ?_
          exact J123 _ w11
        · -- 38
          refine gj_iload_n (q := 39) (gj_dk okX4_enter 20 rfl) rfl rfl ?_
          refine gj_iload_n (q := 40) (gj_dk okX4_enter 21 rfl) rfl rfl ?_
          refine gj_iload_n (q := 41) (gj_dk okX4_enter 22 rfl) rfl rfl ?_
          refine gj_callS (q := 44) [jI a1, jI x8] rfl (c_X10_facing _ _) (gj_dk okX4_enter 23 rfl) ml_X4_44 me_X10_facing (gj_nm rfl) rfl (gj_kI fun x36 S2 M2 h35 => ?_)
          obtain ⟨-, eS, eM⟩ := h35; subst eS; subst eM
          refine gj_callS (q := 47) [jI a1, jI x36] rfl (c_X10_couple _ _) (gj_dk okX4_enter 24 rfl) ml_X4_50 me_X10_couple (gj_nm rfl) rfl (gj_kI fun x39 S2 M2 h38 => ?_)
          obtain ⟨-, eS, eM⟩ := h38; subst eS; subst eM
          refine gj_istore_n (q := 48) (gj_dk okX4_enter 25 rfl) (by decide) rfl ?_
          refine gj_aload_n (q := 49) (gj_dk okX4_enter 26 rfl) rfl rfl ?_
          refine gj_gR (q := 52) (j := 2) (gj_dk okX4_enter 27 rfl) ff_X4_9 (sh31 hst) (by decide) rfl (rf31_2 hst) rfl ?_
          refine gj_iload_n (q := 53) (gj_dk okX4_enter 28 rfl) rfl rfl ?_
          refine gj_aload_n (q := 54) (gj_dk okX4_enter 29 rfl) rfl rfl ?_
          refine gj_gR (q := 57) (j := 1) (gj_dk okX4_enter 30 rfl) ff_X4_25 (sh31 hst) (by decide) rfl (rf31_1 hst) rfl ?_
          refine gj_gR (q := 60) (j := 7) (gj_dk okX4_enter 31 rfl) ff_X4_53 (sh21 hst) (by decide) rfl (rf21_7 hst) rfl ?_
          refine gj_iload_n (q := 61) (gj_dk okX4_enter 32 rfl) rfl rfl ?_
          refine gj_callS (q := 64) [jR 26, jI x39] rfl (c_X7_at (sh26 hst) (by decide) (by decide) _) (gj_dk okX4_enter 33 rfl) ml_X4_56 me_X7_at (gj_nm rfl) rfl (gj_kI fun x42 S2 M2 h41 => ?_)
          obtain ⟨-, eS, eM⟩ := h41; subst eS; subst eM
          refine gj_callS (q := 67) [jR 32, jI x8, jI x42] rfl (c_X7_put (sh32 hst) (by decide) (by decide) _ _) (gj_dk okX4_enter 34 rfl) ml_X4_62 me_X7_put (gj_nm rfl) rfl (gj_kV fun S2 M2 h44 => ?_)
          obtain ⟨eS, eM⟩ := h44; subst eS
          have w47 : w_CW M0 M2 := by rw [← eM]; exact w_CW.put w11 (by decide) (by decide)
          clear eM
          revert w47; generalize M2 = M48; intro w47
          refine gj_aload_n (q := 68) (gj_dk okX4_enter 35 rfl) rfl rfl ?_
          refine gj_gR (q := 71) (j := 3) (gj_dk okX4_enter 36 rfl) ff_X4_15 (sh31 hst) (by decide) rfl (rf31_3 hst) rfl ?_
          refine gj_iload_n (q := 72) (gj_dk okX4_enter 37 rfl) rfl rfl ?_
          refine gj_aload_n (q := 73) (gj_dk okX4_enter 38 rfl) rfl rfl ?_
          refine gj_gR (q := 76) (j := 1) (gj_dk okX4_enter 39 rfl) ff_X4_25 (sh31 hst) (by decide) rfl (rf31_1 hst) rfl ?_
          refine gj_gR (q := 79) (j := 8) (gj_dk okX4_enter 40 rfl) ff_X4_66 (sh21 hst) (by decide) rfl (rf21_8 hst) rfl ?_
          refine gj_iload_n (q := 80) (gj_dk okX4_enter 41 rfl) rfl rfl ?_
          refine gj_callS (q := 83) [jR 27, jI x39] rfl (c_X7_at (sh27 hst) (by decide) (by decide) _) (gj_dk okX4_enter 42 rfl) ml_X4_56 me_X7_at (gj_nm rfl) rfl (gj_kI fun x50 S2 M2 h49 => ?_)
          obtain ⟨-, eS, eM⟩ := h49; subst eS; subst eM
          refine gj_callS (q := 86) [jR 33, jI x8, jI x50] rfl (c_X7_put (sh33 hst) (by decide) (by decide) _ _) (gj_dk okX4_enter 43 rfl) ml_X4_62 me_X7_put (gj_nm rfl) rfl (gj_kV fun S2 M2 h52 => ?_)
          obtain ⟨eS, eM⟩ := h52; subst eS
          have w55 : w_CW M0 M2 := by rw [← eM]; exact w_CW.put w47 (by decide) (by decide)
          clear eM
          revert w55; generalize M2 = M56; intro w55
          refine gj_aload_n (q := 87) (gj_dk okX4_enter 44 rfl) rfl rfl ?_
          refine gj_gR (q := 90) (j := 4) (gj_dk okX4_enter 45 rfl) ff_X4_18 (sh31 hst) (by decide) rfl (rf31_4 hst) rfl ?_
          refine gj_iload_n (q := 91) (gj_dk okX4_enter 46 rfl) rfl rfl ?_
          refine gj_sipush (q := 94) (gj_dk okX4_enter 47 rfl) (by decide) rfl rfl ?_
          refine gj_aload_n (q := 95) (gj_dk okX4_enter 48 rfl) rfl rfl ?_
          refine gj_gR (q := 98) (j := 0) (gj_dk okX4_enter 49 rfl) ff_X4_21 (sh31 hst) (by decide) rfl (rf31_0 hst) rfl ?_
          refine gj_gI (q := 101) (j := 7) (gj_dk okX4_enter 50 rfl) ff_X4_67 (sh14 hst) (by decide) rfl rfl ?_
          refine gj_imul (q := 102) (gj_dk okX4_enter 51 rfl) rfl ?_
          refine gj_aload_n (q := 103) (gj_dk okX4_enter 52 rfl) rfl rfl ?_
          refine gj_gR (q := 106) (j := 1) (gj_dk okX4_enter 53 rfl) ff_X4_25 (sh31 hst) (by decide) rfl (rf31_1 hst) rfl ?_
          refine gj_gR (q := 109) (j := 9) (gj_dk okX4_enter 54 rfl) ff_X4_70 (sh21 hst) (by decide) rfl (rf21_9 hst) rfl ?_
          refine gj_iload_n (q := 110) (gj_dk okX4_enter 55 rfl) rfl rfl ?_
          refine gj_callS (q := 113) [jR 28, jI x39] rfl (c_X7_at (sh28 hst) (by decide) (by decide) _) (gj_dk okX4_enter 56 rfl) ml_X4_56 me_X7_at (gj_nm rfl) rfl (gj_kI fun x58 S2 M2 h57 => ?_)
          obtain ⟨-, eS, eM⟩ := h57; subst eS; subst eM
          refine gj_imul (q := 114) (gj_dk okX4_enter 57 rfl) rfl ?_
          refine gj_callS (q := 117) [jR 34, jI x8, jI (gj_w ((gj_w (1000 * (M56 14 7))) * x58))] rfl (c_X7_put (sh34 hst) (by decide) (by decide) _ _) (gj_dk okX4_enter 58 rfl) ml_X4_62 me_X7_put (gj_nm rfl) rfl (gj_kV fun S2 M2 h60 => ?_)
          obtain ⟨eS, eM⟩ := h60; subst eS
          have w63 : w_CW M0 M2 := by rw [← eM]; exact w_CW.put w55 (by decide) (by decide)
          clear eM
          revert w63; generalize M2 = M64; intro w63
          refine gj_iinc (q := 120) (v := x8 + 1) (gj_dk okX4_enter 59 rfl) rfl (by decide) (gj_wle (by omega) (by omega)) rfl ?_
          refine gj_goto (tgt := 33) (gj_dk okX4_enter 60 rfl) (by decide) ?_
          refine gj_sub [(0, jR 31), (1, jI a1), (2, jI (x8 + 1))] ⟨rfl, rfl, rfl, trivial⟩ ?_
          exact ih33 _ _ w63 (by omega)
    refine gj_sub [(0, jR 31), (1, jI a1), (2, jI 0)] ⟨rfl, rfl, rfl, trivial⟩ ?_
    exact L33 _ _ _ w6 (Nat.lt_succ_self _)
  refine gj_icmp_ge (q := 11) (tgt := 21) (gj_dk okX4_enter 6 rfl) (by decide) rfl (fun c8 => ?_) (fun c8 => ?_)
  · -- 21
    refine gj_aload_n (q := 22) (gj_dk okX4_enter 11 rfl) rfl rfl ?_
    refine gj_gR (q := 25) (j := 0) (gj_dk okX4_enter 12 rfl) ff_X4_21 (sh31 hst) (by decide) rfl (rf31_0 hst) rfl ?_
    refine gj_gI (q := 28) (j := 0) (gj_dk okX4_enter 13 rfl) ff_X4_38 (sh14 hst) (by decide) rfl rfl ?_
    refine gj_sub [(0, jR 31), (1, jI a1)] ⟨rfl, rfl, trivial⟩ ?_
    exact J28 _
  · -- 11
    refine gj_aload_n (q := 12) (gj_dk okX4_enter 7 rfl) rfl rfl ?_
    refine gj_gR (q := 15) (j := 0) (gj_dk okX4_enter 8 rfl) ff_X4_21 (sh31 hst) (by decide) rfl (rf31_0 hst) rfl ?_
    refine gj_gI (q := 18) (j := 1) (gj_dk okX4_enter 9 rfl) ff_X4_33 (sh14 hst) (by decide) rfl rfl ?_
    refine gj_goto (tgt := 28) (gj_dk okX4_enter 10 rfl) (by decide) ?_
    refine gj_sub [(0, jR 31), (1, jI a1)] ⟨rfl, rfl, trivial⟩ ?_
    exact J28 _

set_option maxHeartbeats 4000000 in
set_option maxRecDepth 20000 in
theorem w_X4_isShut (hst : gj_Stat S) (a1 : Int)  : gj_C G l 1 0 0 yX4_isShut cX4_isShut 2 (some .boolean) [jR 31, jI a1] S M (gj_qI fun x S' M' => (x = 0 ∨ x = 1) ∧ S = S' ∧ M = M') := by
  refine gj_Cof (by decide +kernel) (Nat.le_of_ble_eq_true rfl) ?_
  change gj_W G l 1 0 0 yX4_isShut cX4_isShut 2 (some .boolean) (gj_qI fun x S' M' => (x = 0 ∨ x = 1) ∧ S = S' ∧ M = M') 0 0 0 [(0, jR 31), (1, jI a1)] [] S M
  refine gj_iload_n (q := 1) (gj_dk okX4_isShut 0 rfl) rfl rfl ?_
  refine gj_iconst (q := 2) (gj_dk okX4_isShut 1 rfl) (by decide) rfl ?_
  refine gj_icmp_eq (q := 5) (tgt := 17) (gj_dk okX4_isShut 2 rfl) (by decide) rfl (fun c2 => ?_) (fun c2 => ?_)
  · -- 17
    refine gj_iconst (q := 18) (gj_dk okX4_isShut 9 rfl) (by decide) rfl ?_
    exact gj_zret (gj_dk okX4_isShut 10 rfl) rfl (by first | decide | assumption | omega) ⟨_, rfl, (by first | decide | assumption | omega), rfl, rfl⟩
  · -- 5
    refine gj_iload_n (q := 6) (gj_dk okX4_isShut 3 rfl) rfl rfl ?_
    refine gj_aload_n (q := 7) (gj_dk okX4_isShut 4 rfl) rfl rfl ?_
    refine gj_gI (q := 10) (j := 10) (gj_dk okX4_isShut 5 rfl) ff_X4_93 (sh31 hst) (by decide) rfl rfl ?_
    refine gj_icmp_ne (q := 13) (tgt := 17) (gj_dk okX4_isShut 6 rfl) (by decide) rfl (fun c10 => ?_) (fun c10 => ?_)
    · -- 17
      refine gj_iconst (q := 18) (gj_dk okX4_isShut 9 rfl) (by decide) rfl ?_
      exact gj_zret (gj_dk okX4_isShut 10 rfl) rfl (by first | decide | assumption | omega) ⟨_, rfl, (by first | decide | assumption | omega), rfl, rfl⟩
    · -- 13
      refine gj_iconst (q := 14) (gj_dk okX4_isShut 7 rfl) (by decide) rfl ?_
      refine gj_goto (tgt := 18) (gj_dk okX4_isShut 8 rfl) (by decide) ?_
      exact gj_zret (gj_dk okX4_isShut 10 rfl) rfl (by first | decide | assumption | omega) ⟨_, rfl, (by first | decide | assumption | omega), rfl, rfl⟩

set_option maxHeartbeats 4000000 in
set_option maxRecDepth 20000 in
theorem w_X4_doing_n (hst : gj_Stat S) (n : Nat) (ih : ∀ (M0 M : gj_M) (h : w_CW M0 M) (a1 a2 a3 : Int), -1 ≤ a1 ∧ a1 ≤ n ∧ a1 ≤ 4 → gj_C G l (2 * n + 2) 0 0 yX4_worthOf cX4_worthOf 7 (some .long) [jR 31, jI a1, jI a2, jI a3] S M (gj_qL fun x S' M' => S = S' ∧ w_CW M0 M')) : ∀ (M0 M : gj_M) (h : w_CW M0 M) (a1 a2 a3 a4 : Int), 0 ≤ a2 ∧ a2 ≤ (n + 1 : Nat) ∧ a2 ≤ 4 → gj_C G l (2 * n + 3) 0 0 yX4_doing cX4_doing 18 (some .long) [jR 31, jI a1, jI a2, jI a3, jI a4] S M (gj_qL fun x S' M' => S = S' ∧ w_CW M0 M') := by
  intro M0 M h a1 a2 a3 a4 hm
  refine gj_Cof (by decide +kernel) (Nat.le_of_ble_eq_true rfl) ?_
  change gj_W G l (2 * n + 3) 0 0 yX4_doing cX4_doing 18 (some .long) (gj_qL fun x S' M' => S = S' ∧ w_CW M0 M') 0 0 0 [(0, jR 31), (1, jI a1), (2, jI a2), (3, jI a3), (4, jI a4)] [] S M
  refine gj_iload_n (q := 1) (gj_dk okX4_doing_0 0 rfl) rfl rfl ?_
  refine gj_iconst (q := 2) (gj_dk okX4_doing_0 1 rfl) (by decide) rfl ?_
  have J23 : ∀ (x1 : Int), gj_W G l (2 * n + 3) 0 0 yX4_doing cX4_doing 18 (some .long) (gj_qL fun x S' M' => S = S' ∧ w_CW M0 M') 0 0 23 [(0, jR 31), (1, jI a1), (2, jI a2), (3, jI a3), (4, jI a4)] [jL x1] S M := by
    intro x1
    refine gj_lstore (q := 25) (gj_dk okX4_doing_0 13 rfl) (by decide) rfl ?_
    refine gj_iload_n (q := 26) (gj_dk okX4_doing_0 14 rfl) rfl rfl ?_
    refine gj_iconst (q := 27) (gj_dk okX4_doing_0 15 rfl) (by decide) rfl ?_
    refine gj_icmp_ne (q := 30) (tgt := 63) (gj_dk okX4_doing_0 16 rfl) (by decide) rfl (fun c27 => ?_) (fun c27 => ?_)
    · -- 63
      refine gj_aload_n (q := 64) (gj_dk okX4_doing_0 37 rfl) rfl rfl ?_
      refine gj_gR (q := 67) (j := 2) (gj_dk okX4_doing_0 38 rfl) ff_X4_9 (sh31 hst) (by decide) rfl (rf31_2 hst) rfl ?_
      refine gj_iload_n (q := 68) (gj_dk okX4_doing_0 39 rfl) rfl rfl ?_
      refine gj_callS (q := 71) [jR 32, jI a1] rfl (c_X7_at (sh32 hst) (by decide) (by decide) _) (gj_dk okX4_doing_0 40 rfl) ml_X4_56 me_X7_at ⟨by omega, Nat.le_of_ble_eq_true rfl, rfl, Nat.le_of_ble_eq_true rfl, Nat.le_of_ble_eq_true rfl, Nat.le_of_ble_eq_true rfl⟩ rfl (gj_kI fun x3 S2 M2 h2 => ?_)
      obtain ⟨-, eS, eM⟩ := h2; subst eS; subst eM
      refine gj_istore (q := 73) (gj_dk okX4_doing_0 41 rfl) (by decide) rfl ?_
      refine gj_aload_n (q := 74) (gj_dk okX4_doing_0 42 rfl) rfl rfl ?_
      refine gj_gR (q := 77) (j := 3) (gj_dk okX4_doing_0 43 rfl) ff_X4_15 (sh31 hst) (by decide) rfl (rf31_3 hst) rfl ?_
      refine gj_iload_n (q := 78) (gj_dk okX4_doing_0 44 rfl) rfl rfl ?_
      refine gj_callS (q := 81) [jR 33, jI a1] rfl (c_X7_at (sh33 hst) (by decide) (by decide) _) (gj_dk okX4_doing_0 45 rfl) ml_X4_56 me_X7_at ⟨by omega, Nat.le_of_ble_eq_true rfl, rfl, Nat.le_of_ble_eq_true rfl, Nat.le_of_ble_eq_true rfl, Nat.le_of_ble_eq_true rfl⟩ rfl (gj_kI fun x6 S2 M2 h5 => ?_)
      obtain ⟨-, eS, eM⟩ := h5; subst eS; subst eM
      refine gj_istore (q := 83) (gj_dk okX4_doing_0 46 rfl) (by decide) rfl ?_
      refine gj_iload_n (q := 84) (gj_dk okX4_doing_0 47 rfl) rfl rfl ?_
      refine gj_iload_n (q := 85) (gj_dk okX4_doing_0 48 rfl) rfl rfl ?_
      have J94 : ∀ (x8 : Int), gj_W G l (2 * n + 3) 0 0 yX4_doing cX4_doing 18 (some .long) (gj_qL fun x S' M' => S = S' ∧ w_CW M0 M') 0 0 94 [(0, jR 31), (1, jI a1), (2, jI a2), (5, jL x1), (7, jI x3), (8, jI x6)] [jI x8] S M := by
        intro x8
        refine gj_istore (q := 96) (gj_dk okX4_doing_0 53 rfl) (by decide) rfl ?_
        refine gj_aload_n (q := 97) (gj_dk okX4_doing_0 54 rfl) rfl rfl ?_
        refine gj_gR (q := 100) (j := 0) (gj_dk okX4_doing_0 55 rfl) ff_X4_21 (sh31 hst) (by decide) rfl (rf31_0 hst) rfl ?_
        refine gj_aload_n (q := 101) (gj_dk okX4_doing_0 56 rfl) rfl rfl ?_
        refine gj_gI (q := 104) (j := 5) (gj_dk okX4_doing_0 57 rfl) ff_X4_29 (sh31 hst) (by decide) rfl rfl ?_
        refine gj_iconst (q := 105) (gj_dk okX4_doing_0 58 rfl) (by decide) rfl ?_
        refine gj_imul (q := 106) (gj_dk okX4_doing_0 59 rfl) rfl ?_
        refine gj_iload_n (q := 107) (gj_dk okX4_doing_1 0 rfl) rfl rfl ?_
        refine gj_iadd (q := 108) (gj_dk okX4_doing_1 1 rfl) rfl ?_
        refine gj_iload (q := 110) (gj_dk okX4_doing_1 2 rfl) rfl rfl ?_
        refine gj_iload (q := 112) (gj_dk okX4_doing_1 3 rfl) rfl rfl ?_
        refine gj_callV (q := 115) (z := 14) (ci := 5) [jI (gj_w ((gj_w ((M 31 5) * 4)) + a1)), jI x3, jI x6] rfl (w_X5_shownGood hst  _ _ _) (gj_dk okX4_doing_1 4 rfl) ml_X4_132 me_X5_shownGood (sh14 hst) rfl ⟨by omega, Nat.le_of_ble_eq_true rfl, rfl, Nat.le_of_ble_eq_true rfl, Nat.le_of_ble_eq_true rfl, Nat.le_of_ble_eq_true rfl⟩ rfl (gj_kI fun x10 S2 M2 h9 => ?_)
        obtain ⟨eS, eM⟩ := h9; subst eS; subst eM
        refine gj_i2l (q := 116) (gj_dk okX4_doing_1 5 rfl) rfl ?_
        refine gj_lstore (q := 118) (gj_dk okX4_doing_1 6 rfl) (by decide) rfl ?_
        refine gj_lload (q := 120) (gj_dk okX4_doing_1 7 rfl) rfl rfl ?_
        refine gj_aload_n (q := 121) (gj_dk okX4_doing_1 8 rfl) rfl rfl ?_
        refine gj_gR (q := 124) (j := 0) (gj_dk okX4_doing_1 9 rfl) ff_X4_21 (sh31 hst) (by decide) rfl (rf31_0 hst) rfl ?_
        refine gj_gI (q := 127) (j := 2) (gj_dk okX4_doing_1 10 rfl) ff_X4_136 (sh14 hst) (by decide) rfl rfl ?_
        refine gj_i2l (q := 128) (gj_dk okX4_doing_1 11 rfl) rfl ?_
        refine gj_lmul (q := 129) (gj_dk okX4_doing_1 12 rfl) rfl ?_
        refine gj_ldc2 (q := 132) (z := 1000) (gj_dk okX4_doing_1 13 rfl) kl_X4_122 (by decide) rfl ?_
        refine gj_lload (q := 134) (gj_dk okX4_doing_1 14 rfl) rfl rfl ?_
        refine gj_lsub (q := 135) (gj_dk okX4_doing_1 15 rfl) rfl ?_
        refine gj_aload_n (q := 136) (gj_dk okX4_doing_1 16 rfl) rfl rfl ?_
        refine gj_gR (q := 139) (j := 0) (gj_dk okX4_doing_1 17 rfl) ff_X4_21 (sh31 hst) (by decide) rfl (rf31_0 hst) rfl ?_
        refine gj_gI (q := 142) (j := 3) (gj_dk okX4_doing_1 18 rfl) ff_X4_139 (sh14 hst) (by decide) rfl rfl ?_
        refine gj_i2l (q := 143) (gj_dk okX4_doing_1 19 rfl) rfl ?_
        refine gj_lmul (q := 144) (gj_dk okX4_doing_1 20 rfl) rfl ?_
        refine gj_ladd (q := 145) (gj_dk okX4_doing_1 21 rfl) rfl ?_
        refine gj_aload_n (q := 146) (gj_dk okX4_doing_1 22 rfl) rfl rfl ?_
        refine gj_gR (q := 149) (j := 4) (gj_dk okX4_doing_1 23 rfl) ff_X4_18 (sh31 hst) (by decide) rfl (rf31_4 hst) rfl ?_
        refine gj_iload_n (q := 150) (gj_dk okX4_doing_1 24 rfl) rfl rfl ?_
        refine gj_callS (q := 153) [jR 34, jI a1] rfl (c_X7_at (sh34 hst) (by decide) (by decide) _) (gj_dk okX4_doing_1 25 rfl) ml_X4_56 me_X7_at ⟨by omega, Nat.le_of_ble_eq_true rfl, rfl, Nat.le_of_ble_eq_true rfl, Nat.le_of_ble_eq_true rfl, Nat.le_of_ble_eq_true rfl⟩ rfl (gj_kI fun x14 S2 M2 h13 => ?_)
        obtain ⟨-, eS, eM⟩ := h13; subst eS; subst eM
        refine gj_i2l (q := 154) (gj_dk okX4_doing_1 26 rfl) rfl ?_
        refine gj_ladd (q := 155) (gj_dk okX4_doing_1 27 rfl) rfl ?_
        refine gj_lstore (q := 157) (gj_dk okX4_doing_1 28 rfl) (by decide) rfl ?_
        refine gj_iload (q := 159) (gj_dk okX4_doing_1 29 rfl) rfl rfl ?_
        refine gj_aload_n (q := 160) (gj_dk okX4_doing_1 30 rfl) rfl rfl ?_
        refine gj_gR (q := 163) (j := 0) (gj_dk okX4_doing_1 31 rfl) ff_X4_21 (sh31 hst) (by decide) rfl (rf31_0 hst) rfl ?_
        refine gj_gI (q := 166) (j := 4) (gj_dk okX4_doing_1 32 rfl) ff_X4_142 (sh14 hst) (by decide) rfl rfl ?_
        have J186 : ∀ (x16 : Int), gj_W G l (2 * n + 3) 0 0 yX4_doing cX4_doing 18 (some .long) (gj_qL fun x S' M' => S = S' ∧ w_CW M0 M') 0 0 186 [(0, jR 31), (1, jI a1), (2, jI a2), (5, jL x1), (7, jI x3), (8, jI x6), (9, jI x8), (10, jL x10), (12, jL x16)] [] S M := by
          intro x16
          refine gj_iload_n (q := 187) (gj_dk okX4_doing_1 43 rfl) rfl rfl ?_
          refine gj_iconst (q := 188) (gj_dk okX4_doing_1 44 rfl) (by decide) rfl ?_
          refine gj_icmp_gt (q := 191) (tgt := 197) (gj_dk okX4_doing_1 45 rfl) (by decide) rfl (fun c188 => ?_) (fun c188 => ?_)
          · -- 197
            refine gj_aload_n (q := 198) (gj_dk okX4_doing_1 50 rfl) rfl rfl ?_
            refine gj_gR (q := 201) (j := 2) (gj_dk okX4_doing_1 51 rfl) ff_X4_9 (sh31 hst) (by decide) rfl (rf31_2 hst) rfl ?_
            refine gj_iload_n (q := 202) (gj_dk okX4_doing_1 52 rfl) rfl rfl ?_
            refine gj_iconst (q := 203) (gj_dk okX4_doing_1 53 rfl) (by decide) rfl ?_
            refine gj_iload (q := 205) (gj_dk okX4_doing_1 54 rfl) rfl rfl ?_
            refine gj_iconst (q := 206) (gj_dk okX4_doing_1 55 rfl) (by decide) rfl ?_
            refine gj_iadd (q := 207) (gj_dk okX4_doing_1 56 rfl) rfl ?_
            refine gj_mmin (q := 210) (gj_dk okX4_doing_1 57 rfl) ml_X4_111 ⟨by omega, Nat.le_of_ble_eq_true rfl⟩ rfl ?_
            refine gj_callS (q := 213) [jR 32, jI a1, jI (f_min 4 (gj_w (x3 + 1)))] rfl (c_X7_put (sh32 hst) (by decide) (by decide) _ _) (gj_dk okX4_doing_1 58 rfl) ml_X4_62 me_X7_put ⟨by omega, Nat.le_of_ble_eq_true rfl, rfl, Nat.le_of_ble_eq_true rfl, Nat.le_of_ble_eq_true rfl, Nat.le_of_ble_eq_true rfl⟩ rfl (gj_kV fun S2 M2 h17 => ?_)
            obtain ⟨eS, eM⟩ := h17; subst eS
            have w20 : w_CW M0 M2 := by rw [← eM]; exact w_CW.put h (by decide) (by decide)
            clear eM
            revert w20; generalize M2 = M21; intro w20
            refine gj_aload_n (q := 214) (gj_dk okX4_doing_1 59 rfl) rfl rfl ?_
            refine gj_iload_n (q := 215) (gj_dk okX4_doing_2 0 rfl) rfl rfl ?_
            refine gj_iconst (q := 216) (gj_dk okX4_doing_2 1 rfl) (by decide) rfl ?_
            refine gj_isubX (q := 217) (gj_dk okX4_doing_2 2 rfl) (by omega) rfl ?_
            refine gj_iload_n (q := 218) (gj_dk okX4_doing_2 3 rfl) rfl rfl ?_
            refine gj_iload (q := 220) (gj_dk okX4_doing_2 4 rfl) rfl rfl ?_
            refine gj_iconst (q := 221) (gj_dk okX4_doing_2 5 rfl) (by decide) rfl ?_
            refine gj_iadd (q := 222) (gj_dk okX4_doing_2 6 rfl) rfl ?_
            refine gj_callV (q := 225) (z := 31) (ci := 4) [jI (a2 - 1), jI a1, jI (gj_w (x8 + 1))] rfl (ih M0 _ w20 _ _ _ (by omega)) (gj_dk okX4_doing_2 7 rfl) ml_X4_96 me_X4_worthOf (sh31 hst) rfl ⟨by omega, Nat.le_of_ble_eq_true rfl, rfl, Nat.le_of_ble_eq_true rfl, Nat.le_of_ble_eq_true rfl, Nat.le_of_ble_eq_true rfl⟩ rfl (gj_kL fun x23 S2 M2 h22 => ?_)
            obtain ⟨eS, w25⟩ := h22; subst eS
            revert w25; generalize M2 = M26; intro w25
            refine gj_lstore (q := 227) (gj_dk okX4_doing_2 8 rfl) (by decide) rfl ?_
            refine gj_aload_n (q := 228) (gj_dk okX4_doing_2 9 rfl) rfl rfl ?_
            refine gj_gR (q := 231) (j := 2) (gj_dk okX4_doing_2 10 rfl) ff_X4_9 (sh31 hst) (by decide) rfl (rf31_2 hst) rfl ?_
            refine gj_iload_n (q := 232) (gj_dk okX4_doing_2 11 rfl) rfl rfl ?_
            refine gj_iload (q := 234) (gj_dk okX4_doing_2 12 rfl) rfl rfl ?_
            refine gj_callS (q := 237) [jR 32, jI a1, jI x3] rfl (c_X7_put (sh32 hst) (by decide) (by decide) _ _) (gj_dk okX4_doing_2 13 rfl) ml_X4_62 me_X7_put ⟨by omega, Nat.le_of_ble_eq_true rfl, rfl, Nat.le_of_ble_eq_true rfl, Nat.le_of_ble_eq_true rfl, Nat.le_of_ble_eq_true rfl⟩ rfl (gj_kV fun S2 M2 h27 => ?_)
            obtain ⟨eS, eM⟩ := h27; subst eS
            have w30 : w_CW M0 M2 := by rw [← eM]; exact w_CW.put w25 (by decide) (by decide)
            clear eM
            revert w30; generalize M2 = M31; intro w30
            refine gj_aload_n (q := 238) (gj_dk okX4_doing_2 14 rfl) rfl rfl ?_
            refine gj_gR (q := 241) (j := 3) (gj_dk okX4_doing_2 15 rfl) ff_X4_15 (sh31 hst) (by decide) rfl (rf31_3 hst) rfl ?_
            refine gj_iload_n (q := 242) (gj_dk okX4_doing_2 16 rfl) rfl rfl ?_
            refine gj_iconst (q := 243) (gj_dk okX4_doing_2 17 rfl) (by decide) rfl ?_
            refine gj_iload (q := 245) (gj_dk okX4_doing_2 18 rfl) rfl rfl ?_
            refine gj_iconst (q := 246) (gj_dk okX4_doing_2 19 rfl) (by decide) rfl ?_
            refine gj_iadd (q := 247) (gj_dk okX4_doing_2 20 rfl) rfl ?_
            refine gj_mmin (q := 250) (gj_dk okX4_doing_2 21 rfl) ml_X4_111 ⟨by omega, Nat.le_of_ble_eq_true rfl⟩ rfl ?_
            refine gj_callS (q := 253) [jR 33, jI a1, jI (f_min 4 (gj_w (x6 + 1)))] rfl (c_X7_put (sh33 hst) (by decide) (by decide) _ _) (gj_dk okX4_doing_2 22 rfl) ml_X4_62 me_X7_put ⟨by omega, Nat.le_of_ble_eq_true rfl, rfl, Nat.le_of_ble_eq_true rfl, Nat.le_of_ble_eq_true rfl, Nat.le_of_ble_eq_true rfl⟩ rfl (gj_kV fun S2 M2 h32 => ?_)
            obtain ⟨eS, eM⟩ := h32; subst eS
            have w35 : w_CW M0 M2 := by rw [← eM]; exact w_CW.put w30 (by decide) (by decide)
            clear eM
            revert w35; generalize M2 = M36; intro w35
            refine gj_aload_n (q := 254) (gj_dk okX4_doing_2 23 rfl) rfl rfl ?_
            refine gj_iload_n (q := 255) (gj_dk okX4_doing_2 24 rfl) rfl rfl ?_
            refine gj_iconst (q := 256) (gj_dk okX4_doing_2 25 rfl) (by decide) rfl ?_
            refine gj_isubX (q := 257) (gj_dk okX4_doing_2 26 rfl) (by omega) rfl ?_
            refine gj_iload_n (q := 258) (gj_dk okX4_doing_2 27 rfl) rfl rfl ?_
            refine gj_iload (q := 260) (gj_dk okX4_doing_2 28 rfl) rfl rfl ?_
            refine gj_iconst (q := 261) (gj_dk okX4_doing_2 29 rfl) (by decide) rfl ?_
            refine gj_iadd (q := 262) (gj_dk okX4_doing_2 30 rfl) rfl ?_
            refine gj_callV (q := 265) (z := 31) (ci := 4) [jI (a2 - 1), jI a1, jI (gj_w (x8 + 1))] rfl (ih M0 _ w35 _ _ _ (by omega)) (gj_dk okX4_doing_2 31 rfl) ml_X4_96 me_X4_worthOf (sh31 hst) rfl ⟨by omega, Nat.le_of_ble_eq_true rfl, rfl, Nat.le_of_ble_eq_true rfl, Nat.le_of_ble_eq_true rfl, Nat.le_of_ble_eq_true rfl⟩ rfl (gj_kL fun x38 S2 M2 h37 => ?_)
            obtain ⟨eS, w40⟩ := h37; subst eS
            revert w40; generalize M2 = M41; intro w40
            refine gj_lstore (q := 267) (gj_dk okX4_doing_2 32 rfl) (by decide) rfl ?_
            refine gj_aload_n (q := 268) (gj_dk okX4_doing_2 33 rfl) rfl rfl ?_
            refine gj_gR (q := 271) (j := 3) (gj_dk okX4_doing_2 34 rfl) ff_X4_15 (sh31 hst) (by decide) rfl (rf31_3 hst) rfl ?_
            refine gj_iload_n (q := 272) (gj_dk okX4_doing_2 35 rfl) rfl rfl ?_
            refine gj_iload (q := 274) (gj_dk okX4_doing_2 36 rfl) rfl rfl ?_
            refine gj_callS (q := 277) [jR 33, jI a1, jI x6] rfl (c_X7_put (sh33 hst) (by decide) (by decide) _ _) (gj_dk okX4_doing_2 37 rfl) ml_X4_62 me_X7_put ⟨by omega, Nat.le_of_ble_eq_true rfl, rfl, Nat.le_of_ble_eq_true rfl, Nat.le_of_ble_eq_true rfl, Nat.le_of_ble_eq_true rfl⟩ rfl (gj_kV fun S2 M2 h42 => ?_)
            obtain ⟨eS, eM⟩ := h42; subst eS
            have w45 : w_CW M0 M2 := by rw [← eM]; exact w_CW.put w40 (by decide) (by decide)
            clear eM
            revert w45; generalize M2 = M46; intro w45
            refine gj_lload (q := 279) (gj_dk okX4_doing_2 38 rfl) rfl rfl ?_
            refine gj_lload (q := 281) (gj_dk okX4_doing_2 39 rfl) rfl rfl ?_
            refine gj_lsub (q := 282) (gj_dk okX4_doing_2 40 rfl) rfl ?_
            refine gj_lload (q := 284) (gj_dk okX4_doing_2 41 rfl) rfl rfl ?_
            refine gj_lload (q := 286) (gj_dk okX4_doing_2 42 rfl) rfl rfl ?_
            refine gj_lmul (q := 287) (gj_dk okX4_doing_2 43 rfl) rfl ?_
            refine gj_ldc2 (q := 290) (z := 1000) (gj_dk okX4_doing_2 44 rfl) kl_X4_122 (by decide) rfl ?_
            refine gj_lload (q := 292) (gj_dk okX4_doing_2 45 rfl) rfl rfl ?_
            refine gj_lsub (q := 293) (gj_dk okX4_doing_2 46 rfl) rfl ?_
            refine gj_lload (q := 295) (gj_dk okX4_doing_2 47 rfl) rfl rfl ?_
            refine gj_lmul (q := 296) (gj_dk okX4_doing_2 48 rfl) rfl ?_
            refine gj_ladd (q := 297) (gj_dk okX4_doing_2 49 rfl) rfl ?_
            refine gj_ldc2 (q := 300) (z := 1000) (gj_dk okX4_doing_2 50 rfl) kl_X4_122 (by decide) rfl ?_
            refine gj_ldiv (q := 301) (gj_dk okX4_doing_2 51 rfl) (by decide) rfl ?_
            refine gj_ladd (q := 302) (gj_dk okX4_doing_2 52 rfl) rfl ?_
            exact gj_lret (gj_dk okX4_doing_2 53 rfl) rfl ⟨_, rfl, rfl, w45⟩
          · -- 191
            refine gj_lload (q := 193) (gj_dk okX4_doing_1 46 rfl) rfl rfl ?_
            refine gj_lload (q := 195) (gj_dk okX4_doing_1 47 rfl) rfl rfl ?_
            refine gj_lsub (q := 196) (gj_dk okX4_doing_1 48 rfl) rfl ?_
            exact gj_lret (gj_dk okX4_doing_1 49 rfl) rfl ⟨_, rfl, rfl, h⟩
        refine gj_icmp_lt (q := 169) (tgt := 186) (gj_dk okX4_doing_1 33 rfl) (by decide) rfl (fun c166 => ?_) (fun c166 => ?_)
        · -- 186
          refine gj_sub [(0, jR 31), (1, jI a1), (2, jI a2), (5, jL x1), (7, jI x3), (8, jI x6), (9, jI x8), (10, jL x10), (12, jL (gj_wl ((gj_wl ((gj_wl (x10 * (M 14 2))) + (gj_wl ((gj_wl (1000 - x10)) * (M 14 3))))) + x14)))] ⟨rfl, rfl, rfl, rfl, rfl, rfl, rfl, rfl, rfl, trivial⟩ ?_
          exact J186 _
        · -- 169
          refine gj_lload (q := 171) (gj_dk okX4_doing_1 34 rfl) rfl rfl ?_
          refine gj_ldc2 (q := 174) (z := 1000) (gj_dk okX4_doing_1 35 rfl) kl_X4_122 (by decide) rfl ?_
          refine gj_aload_n (q := 175) (gj_dk okX4_doing_1 36 rfl) rfl rfl ?_
          refine gj_gR (q := 178) (j := 0) (gj_dk okX4_doing_1 37 rfl) ff_X4_21 (sh31 hst) (by decide) rfl (rf31_0 hst) rfl ?_
          refine gj_gI (q := 181) (j := 5) (gj_dk okX4_doing_1 38 rfl) ff_X4_145 (sh14 hst) (by decide) rfl rfl ?_
          refine gj_i2l (q := 182) (gj_dk okX4_doing_1 39 rfl) rfl ?_
          refine gj_lmul (q := 183) (gj_dk okX4_doing_1 40 rfl) rfl ?_
          refine gj_ladd (q := 184) (gj_dk okX4_doing_1 41 rfl) rfl ?_
          refine gj_lstore (q := 186) (gj_dk okX4_doing_1 42 rfl) (by decide) rfl ?_
          refine gj_sub [(0, jR 31), (1, jI a1), (2, jI a2), (5, jL x1), (7, jI x3), (8, jI x6), (9, jI x8), (10, jL x10), (12, jL (gj_wl ((gj_wl ((gj_wl ((gj_wl (x10 * (M 14 2))) + (gj_wl ((gj_wl (1000 - x10)) * (M 14 3))))) + x14)) + (gj_wl (1000 * (M 14 5))))))] ⟨rfl, rfl, rfl, rfl, rfl, rfl, rfl, rfl, rfl, trivial⟩ ?_
          exact J186 _
      refine gj_icmp_ne (q := 88) (tgt := 93) (gj_dk okX4_doing_0 49 rfl) (by decide) rfl (fun c85 => ?_) (fun c85 => ?_)
      · -- 93
        refine gj_iconst (q := 94) (gj_dk okX4_doing_0 52 rfl) (by decide) rfl ?_
        refine gj_sub [(0, jR 31), (1, jI a1), (2, jI a2), (5, jL x1), (7, jI x3), (8, jI x6)] ⟨rfl, rfl, rfl, rfl, rfl, rfl, trivial⟩ ?_
        exact J94 _
      · -- 88
        refine gj_iload (q := 90) (gj_dk okX4_doing_0 50 rfl) rfl rfl ?_
        refine gj_goto (tgt := 94) (gj_dk okX4_doing_0 51 rfl) (by decide) ?_
        refine gj_sub [(0, jR 31), (1, jI a1), (2, jI a2), (5, jL x1), (7, jI x3), (8, jI x6)] ⟨rfl, rfl, rfl, rfl, rfl, rfl, trivial⟩ ?_
        exact J94 _
    · -- 30
      refine gj_ldc2 (q := 33) (z := 1000) (gj_dk okX4_doing_0 17 rfl) kl_X4_122 (by decide) rfl ?_
      refine gj_aload_n (q := 34) (gj_dk okX4_doing_0 18 rfl) rfl rfl ?_
      refine gj_gR (q := 37) (j := 0) (gj_dk okX4_doing_0 19 rfl) ff_X4_21 (sh31 hst) (by decide) rfl (rf31_0 hst) rfl ?_
      refine gj_gR (q := 40) (j := 10) (gj_dk okX4_doing_0 20 rfl) ff_X4_129 (sh14 hst) (by decide) rfl (rf14_10 hst) rfl ?_
      refine gj_aload_n (q := 41) (gj_dk okX4_doing_0 21 rfl) rfl rfl ?_
      refine gj_gI (q := 44) (j := 5) (gj_dk okX4_doing_0 22 rfl) ff_X4_29 (sh31 hst) (by decide) rfl rfl ?_
      refine gj_callS (q := 47) [jR 15, jI (M 31 5)] rfl (c_X7_at (sh15 hst) (by decide) (by decide) _) (gj_dk okX4_doing_0 23 rfl) ml_X4_56 me_X7_at ⟨by omega, Nat.le_of_ble_eq_true rfl, rfl, Nat.le_of_ble_eq_true rfl, Nat.le_of_ble_eq_true rfl, Nat.le_of_ble_eq_true rfl⟩ rfl (gj_kI fun x48 S2 M2 h47 => ?_)
      obtain ⟨-, eS, eM⟩ := h47; subst eS; subst eM
      refine gj_i2l (q := 48) (gj_dk okX4_doing_0 24 rfl) rfl ?_
      refine gj_lmul (q := 49) (gj_dk okX4_doing_0 25 rfl) rfl ?_
      refine gj_lload (q := 51) (gj_dk okX4_doing_0 26 rfl) rfl rfl ?_
      refine gj_lsub (q := 52) (gj_dk okX4_doing_0 27 rfl) rfl ?_
      refine gj_aload_n (q := 53) (gj_dk okX4_doing_0 28 rfl) rfl rfl ?_
      refine gj_iload_n (q := 54) (gj_dk okX4_doing_0 29 rfl) rfl rfl ?_
      refine gj_iconst (q := 55) (gj_dk okX4_doing_0 30 rfl) (by decide) rfl ?_
      refine gj_isubX (q := 56) (gj_dk okX4_doing_0 31 rfl) (by omega) rfl ?_
      refine gj_iconst (q := 57) (gj_dk okX4_doing_0 32 rfl) (by decide) rfl ?_
      refine gj_iconst (q := 58) (gj_dk okX4_doing_0 33 rfl) (by decide) rfl ?_
      refine gj_callV (q := 61) (z := 31) (ci := 4) [jI (a2 - 1), jI (-1), jI 0] rfl (ih M0 _ h _ _ _ (by omega)) (gj_dk okX4_doing_0 34 rfl) ml_X4_96 me_X4_worthOf (sh31 hst) rfl ⟨by omega, Nat.le_of_ble_eq_true rfl, rfl, Nat.le_of_ble_eq_true rfl, Nat.le_of_ble_eq_true rfl, Nat.le_of_ble_eq_true rfl⟩ rfl (gj_kL fun x51 S2 M2 h50 => ?_)
      obtain ⟨eS, w53⟩ := h50; subst eS
      revert w53; generalize M2 = M54; intro w53
      refine gj_ladd (q := 62) (gj_dk okX4_doing_0 35 rfl) rfl ?_
      exact gj_lret (gj_dk okX4_doing_0 36 rfl) rfl ⟨_, rfl, rfl, w53⟩
  refine gj_icmp_eq (q := 5) (tgt := 22) (gj_dk okX4_doing_0 2 rfl) (by decide) rfl (fun c2 => ?_) (fun c2 => ?_)
  · -- 22
    refine gj_lconst (q := 23) (z := 0) (gj_dk okX4_doing_0 12 rfl) rfl (by decide) rfl ?_
    refine gj_sub [(0, jR 31), (1, jI a1), (2, jI a2), (3, jI a3), (4, jI a4)] ⟨rfl, rfl, rfl, rfl, rfl, trivial⟩ ?_
    exact J23 _
  · -- 5
    refine gj_iload_n (q := 6) (gj_dk okX4_doing_0 3 rfl) rfl rfl ?_
    refine gj_iload_n (q := 7) (gj_dk okX4_doing_0 4 rfl) rfl rfl ?_
    refine gj_icmp_eq (q := 10) (tgt := 22) (gj_dk okX4_doing_0 5 rfl) (by decide) rfl (fun c7 => ?_) (fun c7 => ?_)
    · -- 22
      refine gj_lconst (q := 23) (z := 0) (gj_dk okX4_doing_0 12 rfl) rfl (by decide) rfl ?_
      refine gj_sub [(0, jR 31), (1, jI a1), (2, jI a2), (3, jI a3), (4, jI a4)] ⟨rfl, rfl, rfl, rfl, rfl, trivial⟩ ?_
      exact J23 _
    · -- 10
      refine gj_ldc2 (q := 13) (z := 1000) (gj_dk okX4_doing_0 6 rfl) kl_X4_122 (by decide) rfl ?_
      refine gj_aload_n (q := 14) (gj_dk okX4_doing_0 7 rfl) rfl rfl ?_
      refine gj_gI (q := 17) (j := 9) (gj_dk okX4_doing_0 8 rfl) ff_X4_92 (sh31 hst) (by decide) rfl rfl ?_
      refine gj_i2l (q := 18) (gj_dk okX4_doing_0 9 rfl) rfl ?_
      refine gj_lmul (q := 19) (gj_dk okX4_doing_0 10 rfl) rfl ?_
      refine gj_goto (tgt := 23) (gj_dk okX4_doing_0 11 rfl) (by decide) ?_
      refine gj_sub [(0, jR 31), (1, jI a1), (2, jI a2), (3, jI a3), (4, jI a4)] ⟨rfl, rfl, rfl, rfl, rfl, trivial⟩ ?_
      exact J23 _
set_option maxHeartbeats 4000000 in
set_option maxRecDepth 20000 in
theorem w_X4_worthOf_n (hst : gj_Stat S) (n : Nat) (hd : ∀ (M0 M : gj_M) (h : w_CW M0 M) (a1 a2 a3 a4 : Int), 0 ≤ a2 ∧ a2 ≤ (n + 1 : Nat) ∧ a2 ≤ 4 → gj_C G l (2 * n + 3) 0 0 yX4_doing cX4_doing 18 (some .long) [jR 31, jI a1, jI a2, jI a3, jI a4] S M (gj_qL fun x S' M' => S = S' ∧ w_CW M0 M')) : ∀ (M0 M : gj_M) (h : w_CW M0 M) (a1 a2 a3 : Int), -1 ≤ a1 ∧ a1 ≤ (n + 1 : Nat) ∧ a1 ≤ 4 → gj_C G l (2 * n + 4) 0 0 yX4_worthOf cX4_worthOf 7 (some .long) [jR 31, jI a1, jI a2, jI a3] S M (gj_qL fun x S' M' => S = S' ∧ w_CW M0 M') := by
  intro M0 M h a1 a2 a3 hm
  refine gj_Cof (by decide +kernel) (Nat.le_of_ble_eq_true rfl) ?_
  change gj_W G l (2 * n + 4) 0 0 yX4_worthOf cX4_worthOf 7 (some .long) (gj_qL fun x S' M' => S = S' ∧ w_CW M0 M') 0 0 0 [(0, jR 31), (1, jI a1), (2, jI a2), (3, jI a3)] [] S M
  refine gj_iload_n (q := 1) (gj_dk okX4_worthOf 0 rfl) rfl rfl ?_
  refine gj_if_gt (q := 4) (tgt := 6) (gj_dk okX4_worthOf 1 rfl) (by decide) rfl (fun c1 => ?_) (fun c1 => ?_)
  · -- 6
    refine gj_aload_n (q := 7) (gj_dk okX4_worthOf 4 rfl) rfl rfl ?_
    refine gj_iload_n (q := 8) (gj_dk okX4_worthOf 5 rfl) rfl rfl ?_
    refine gj_iload_n (q := 9) (gj_dk okX4_worthOf 6 rfl) rfl rfl ?_
    refine gj_iload_n (q := 10) (gj_dk okX4_worthOf 7 rfl) rfl rfl ?_
    refine gj_iload_n (q := 11) (gj_dk okX4_worthOf 8 rfl) rfl rfl ?_
    refine gj_callV (q := 14) (z := 31) (ci := 4) [jI a2, jI a1, jI a2, jI a3] rfl (hd M0 _ h _ _ _ _ (by omega)) (gj_dk okX4_worthOf 9 rfl) ml_X4_100 me_X4_doing (sh31 hst) rfl ⟨by omega, Nat.le_of_ble_eq_true rfl, rfl, Nat.le_of_ble_eq_true rfl, Nat.le_of_ble_eq_true rfl, Nat.le_of_ble_eq_true rfl⟩ rfl (gj_kL fun x2 S2 M2 h1 => ?_)
    obtain ⟨eS, w4⟩ := h1; subst eS
    revert w4; generalize M2 = M5; intro w4
    refine gj_lstore (q := 16) (gj_dk okX4_worthOf 10 rfl) (by decide) rfl ?_
    refine gj_iconst (q := 17) (gj_dk okX4_worthOf 11 rfl) (by decide) rfl ?_
    refine gj_istore (q := 19) (gj_dk okX4_worthOf 12 rfl) (by decide) rfl ?_
    have L19 : ∀ (k8 : Nat) (x6 x7 : Int) (M9 : gj_M), (w_CW M0 M9) → (2147483647 - x7).toNat < k8 → gj_W G l (2 * n + 4) 0 0 yX4_worthOf cX4_worthOf 7 (some .long) (gj_qL fun x S' M' => S = S' ∧ w_CW M0 M') 0 0 19 [(0, jR 31), (1, jI a1), (2, jI a2), (3, jI a3), (4, jL x6), (6, jI x7)] [] S M9 := by
      intro k8
      induction k8 with
      | zero => intro x6 x7 M9 w10 hk19; exact absurd hk19 (Nat.not_lt_zero _)
      | succ k8 ih19 =>
        intro x6 x7 M9 w10 hk19
        refine gj_iload (q := 21) (gj_dk okX4_worthOf 13 rfl) rfl rfl ?_
        refine gj_aload_n (q := 22) (gj_dk okX4_worthOf 14 rfl) rfl rfl ?_
        refine gj_gI (q := 25) (j := 6) (gj_dk okX4_worthOf 15 rfl) ff_X4_41 (sh31 hst) (by decide) rfl rfl ?_
        refine gj_rng (fun ho25 _ _ => ?_)
        have hb25 : -2147483648 ≤ M9 31 6 ∧ M9 31 6 < 2147483648 := gj_o0 ho25
        have ha25 : -2147483648 ≤ x7 ∧ x7 < 2147483648 := gj_o1 ho25
        clear ho25
        refine gj_icmp_ge (q := 28) (tgt := 65) (gj_dk okX4_worthOf 16 rfl) (by decide) rfl (fun c25 => ?_) (fun c25 => ?_)
        · -- 65
          refine gj_lload (q := 67) (gj_dk okX4_worthOf 35 rfl) rfl rfl ?_
          exact gj_lret (gj_dk okX4_worthOf 36 rfl) rfl ⟨_, rfl, rfl, w10⟩
        · -- 28
          refine gj_iload (q := 30) (gj_dk okX4_worthOf 17 rfl) rfl rfl ?_
          refine gj_iload_n (q := 31) (gj_dk okX4_worthOf 18 rfl) rfl rfl ?_
          refine gj_rng (fun ho31 _ _ => ?_)
          have hb31 : -2147483648 ≤ a2 ∧ a2 < 2147483648 := gj_o0 ho31
          have ha31 : -2147483648 ≤ x7 ∧ x7 < 2147483648 := gj_o1 ho31
          clear ho31
          refine gj_icmp_eq (q := 34) (tgt := 59) (gj_dk okX4_worthOf 19 rfl) (by decide) rfl (fun c31 => ?_) (fun c31 => ?_)
          · -- 59
            refine gj_iinc (q := 62) (v := x7 + 1) (gj_dk okX4_worthOf 33 rfl) rfl (by decide) (gj_wle (by omega) (by omega)) rfl ?_
            refine gj_goto (tgt := 19) (gj_dk okX4_worthOf 34 rfl) (by decide) ?_
            refine gj_sub [(0, jR 31), (1, jI a1), (2, jI a2), (3, jI a3), (4, jL x6), (6, jI (x7 + 1))] ⟨rfl, rfl, rfl, rfl, rfl, rfl, trivial⟩ ?_
            exact ih19 _ _ _ w10 (by omega)
          · -- 34
            refine gj_aload_n (q := 35) (gj_dk okX4_worthOf 20 rfl) rfl rfl ?_
            refine gj_iload (q := 37) (gj_dk okX4_worthOf 21 rfl) rfl rfl ?_
            refine gj_callV (q := 40) (z := 31) (ci := 4) [jI x7] rfl (w_X4_isShut hst  _) (gj_dk okX4_worthOf 22 rfl) ml_X4_104 me_X4_isShut (sh31 hst) rfl ⟨by omega, Nat.le_of_ble_eq_true rfl, rfl, Nat.le_of_ble_eq_true rfl, Nat.le_of_ble_eq_true rfl, Nat.le_of_ble_eq_true rfl⟩ rfl (gj_kI fun x12 S2 M2 h11 => ?_)
            obtain ⟨bx12, eS, eM⟩ := h11; subst eS; subst eM
            refine gj_if_ne (q := 43) (tgt := 59) (gj_dk okX4_worthOf 23 rfl) (by decide) rfl (fun c40 => ?_) (fun c40 => ?_)
            · -- 59
              refine gj_iinc (q := 62) (v := x7 + 1) (gj_dk okX4_worthOf 33 rfl) rfl (by decide) (gj_wle (by omega) (by omega)) rfl ?_
              refine gj_goto (tgt := 19) (gj_dk okX4_worthOf 34 rfl) (by decide) ?_
              refine gj_sub [(0, jR 31), (1, jI a1), (2, jI a2), (3, jI a3), (4, jL x6), (6, jI (x7 + 1))] ⟨rfl, rfl, rfl, rfl, rfl, rfl, trivial⟩ ?_
              exact ih19 _ _ _ w10 (by omega)
            · -- 43
              refine gj_lload (q := 45) (gj_dk okX4_worthOf 24 rfl) rfl rfl ?_
              refine gj_aload_n (q := 46) (gj_dk okX4_worthOf 25 rfl) rfl rfl ?_
              refine gj_iload (q := 48) (gj_dk okX4_worthOf 26 rfl) rfl rfl ?_
              refine gj_iload_n (q := 49) (gj_dk okX4_worthOf 27 rfl) rfl rfl ?_
              refine gj_iload_n (q := 50) (gj_dk okX4_worthOf 28 rfl) rfl rfl ?_
              refine gj_iload_n (q := 51) (gj_dk okX4_worthOf 29 rfl) rfl rfl ?_
              refine gj_callV (q := 54) (z := 31) (ci := 4) [jI x7, jI a1, jI a2, jI a3] rfl (hd M0 _ w10 _ _ _ _ (by omega)) (gj_dk okX4_worthOf 30 rfl) ml_X4_100 me_X4_doing (sh31 hst) rfl ⟨by omega, Nat.le_of_ble_eq_true rfl, rfl, Nat.le_of_ble_eq_true rfl, Nat.le_of_ble_eq_true rfl, Nat.le_of_ble_eq_true rfl⟩ rfl (gj_kL fun x16 S2 M2 h15 => ?_)
              obtain ⟨eS, w18⟩ := h15; subst eS
              revert w18; generalize M2 = M19; intro w18
              refine gj_mmaxL (q := 57) (gj_dk okX4_worthOf 31 rfl) ml_X4_126 ⟨by omega, Nat.le_of_ble_eq_true rfl⟩ rfl ?_
              refine gj_lstore (q := 59) (gj_dk okX4_worthOf 32 rfl) (by decide) rfl ?_
              refine gj_iinc (q := 62) (v := x7 + 1) (gj_dk okX4_worthOf 33 rfl) rfl (by decide) (gj_wle (by omega) (by omega)) rfl ?_
              refine gj_goto (tgt := 19) (gj_dk okX4_worthOf 34 rfl) (by decide) ?_
              refine gj_sub [(0, jR 31), (1, jI a1), (2, jI a2), (3, jI a3), (4, jL (f_maxL x6 x16)), (6, jI (x7 + 1))] ⟨rfl, rfl, rfl, rfl, rfl, rfl, trivial⟩ ?_
              exact ih19 _ _ _ w18 (by omega)
    refine gj_sub [(0, jR 31), (1, jI a1), (2, jI a2), (3, jI a3), (4, jL x2), (6, jI (-1))] ⟨rfl, rfl, rfl, rfl, rfl, rfl, trivial⟩ ?_
    exact L19 _ _ _ _ w4 (Nat.lt_succ_self _)
  · -- 4
    refine gj_lconst (q := 5) (z := 0) (gj_dk okX4_worthOf 2 rfl) rfl (by decide) rfl ?_
    exact gj_lret (gj_dk okX4_worthOf 3 rfl) rfl ⟨_, rfl, rfl, h⟩
set_option maxHeartbeats 4000000 in
set_option maxRecDepth 20000 in
theorem w_X4_worthOf_0 (hst : gj_Stat S) (n : Nat)  : ∀ (M0 M : gj_M) (h : w_CW M0 M) (a1 a2 a3 : Int), -1 ≤ a1 ∧ a1 ≤ 0 ∧ a1 ≤ 4 → gj_C G l (2) 0 0 yX4_worthOf cX4_worthOf 7 (some .long) [jR 31, jI a1, jI a2, jI a3] S M (gj_qL fun x S' M' => S = S' ∧ w_CW M0 M') := by
  intro M0 M h a1 a2 a3 hm
  refine gj_Cof (by decide +kernel) (Nat.le_of_ble_eq_true rfl) ?_
  change gj_W G l 2 0 0 yX4_worthOf cX4_worthOf 7 (some .long) (gj_qL fun x S' M' => S = S' ∧ w_CW M0 M') 0 0 0 [(0, jR 31), (1, jI a1), (2, jI a2), (3, jI a3)] [] S M
  refine gj_iload_n (q := 1) (gj_dk okX4_worthOf 0 rfl) rfl rfl ?_
  refine gj_if_gt (q := 4) (tgt := 6) (gj_dk okX4_worthOf 1 rfl) (by decide) rfl (fun c1 => ?_) (fun c1 => ?_)
  · exfalso; omega
  · -- 4
    refine gj_lconst (q := 5) (z := 0) (gj_dk okX4_worthOf 2 rfl) rfl (by decide) rfl ?_
    exact gj_lret (gj_dk okX4_worthOf 3 rfl) rfl ⟨_, rfl, rfl, h⟩
theorem w_X4_worthOf_all (hst : gj_Stat S) : ∀ n : Nat, ∀ (M0 M : gj_M) (h : w_CW M0 M) (a1 a2 a3 : Int), -1 ≤ a1 ∧ a1 ≤ n ∧ a1 ≤ 4 → gj_C G l (2 * n + 2) 0 0 yX4_worthOf cX4_worthOf 7 (some .long) [jR 31, jI a1, jI a2, jI a3] S M (gj_qL fun x S' M' => S = S' ∧ w_CW M0 M')
  | 0 => w_X4_worthOf_0 hst 0
  | n + 1 => w_X4_worthOf_n hst n (w_X4_doing_n hst n (w_X4_worthOf_all hst n))
theorem w_X4_worthOf (hst : gj_Stat S) (h : w_CW M0 M) (a1 a2 a3 : Int) (hm : -1 ≤ a1 ∧ a1 ≤ 4) : gj_C G l 10 0 0 yX4_worthOf cX4_worthOf 7 (some .long) [jR 31, jI a1, jI a2, jI a3] S M (gj_qL fun x S' M' => S = S' ∧ w_CW M0 M') := w_X4_worthOf_all hst 4 M0 M h a1 a2 a3 ⟨hm.1, hm.2, hm.2⟩
theorem w_X4_doing (hst : gj_Stat S) (h : w_CW M0 M) (a1 a2 a3 a4 : Int) (hm : 0 ≤ a2 ∧ a2 ≤ 4) : gj_C G l 9 0 0 yX4_doing cX4_doing 18 (some .long) [jR 31, jI a1, jI a2, jI a3, jI a4] S M (gj_qL fun x S' M' => S = S' ∧ w_CW M0 M') := w_X4_doing_n hst 3 (w_X4_worthOf_all hst 3) M0 M h a1 a2 a3 a4 ⟨hm.1, hm.2, hm.2⟩
set_option maxHeartbeats 4000000 in
set_option maxRecDepth 20000 in
theorem w_X4_bestWorth (hst : gj_Stat S) (h : w_CW M0 M) (a1 : Int) (hm : 0 ≤ a1 ∧ a1 ≤ 4) : gj_C G l 11 0 0 yX4_bestWorth cX4_bestWorth 2 (some .long) [jR 31, jI a1] S M (gj_qL fun x S' M' => S = S' ∧ w_CW M0 M') := by
  refine gj_Cof (by decide +kernel) (Nat.le_of_ble_eq_true rfl) ?_
  change gj_W G l 11 0 0 yX4_bestWorth cX4_bestWorth 2 (some .long) (gj_qL fun x S' M' => S = S' ∧ w_CW M0 M') 0 0 0 [(0, jR 31), (1, jI a1)] [] S M
  refine gj_aload_n (q := 1) (gj_dk okX4_bestWorth 0 rfl) rfl rfl ?_
  refine gj_iload_n (q := 2) (gj_dk okX4_bestWorth 1 rfl) rfl rfl ?_
  refine gj_aload_n (q := 3) (gj_dk okX4_bestWorth 2 rfl) rfl rfl ?_
  refine gj_gI (q := 6) (j := 7) (gj_dk okX4_bestWorth 3 rfl) ff_X4_80 (sh31 hst) (by decide) rfl rfl ?_
  refine gj_aload_n (q := 7) (gj_dk okX4_bestWorth 4 rfl) rfl rfl ?_
  refine gj_gI (q := 10) (j := 8) (gj_dk okX4_bestWorth 5 rfl) ff_X4_86 (sh31 hst) (by decide) rfl rfl ?_
  refine gj_callV (q := 13) (z := 31) (ci := 4) [jI a1, jI (M 31 7), jI (M 31 8)] rfl (w_X4_worthOf hst h  _ _ _ (by omega)) (gj_dk okX4_bestWorth 6 rfl) ml_X4_96 me_X4_worthOf (sh31 hst) rfl (gj_nm rfl) rfl (gj_kL fun x2 S2 M2 h1 => ?_)
  obtain ⟨eS, w4⟩ := h1; subst eS
  revert w4; generalize M2 = M5; intro w4
  exact gj_lret (gj_dk okX4_bestWorth 7 rfl) rfl ⟨_, rfl, rfl, w4⟩

set_option maxHeartbeats 4000000 in
set_option maxRecDepth 20000 in
theorem w_X4_bestAct (hst : gj_Stat S) (h : w_CW M0 M) (a1 : Int) (hm : 0 ≤ a1 ∧ a1 ≤ 4) : gj_C G l 10 0 0 yX4_bestAct cX4_bestAct 8 (some .int) [jR 31, jI a1] S M (gj_qI fun x S' M' => S = S' ∧ w_CW M0 M') := by
  refine gj_Cof (by decide +kernel) (Nat.le_of_ble_eq_true rfl) ?_
  change gj_W G l 10 0 0 yX4_bestAct cX4_bestAct 8 (some .int) (gj_qI fun x S' M' => S = S' ∧ w_CW M0 M') 0 0 0 [(0, jR 31), (1, jI a1)] [] S M
  refine gj_aload_n (q := 1) (gj_dk okX4_bestAct 0 rfl) rfl rfl ?_
  refine gj_gI (q := 4) (j := 7) (gj_dk okX4_bestAct 1 rfl) ff_X4_80 (sh31 hst) (by decide) rfl rfl ?_
  refine gj_istore_n (q := 5) (gj_dk okX4_bestAct 2 rfl) (by decide) rfl ?_
  refine gj_aload_n (q := 6) (gj_dk okX4_bestAct 3 rfl) rfl rfl ?_
  refine gj_aload_n (q := 7) (gj_dk okX4_bestAct 4 rfl) rfl rfl ?_
  refine gj_gI (q := 10) (j := 7) (gj_dk okX4_bestAct 5 rfl) ff_X4_80 (sh31 hst) (by decide) rfl rfl ?_
  refine gj_iload_n (q := 11) (gj_dk okX4_bestAct 6 rfl) rfl rfl ?_
  refine gj_aload_n (q := 12) (gj_dk okX4_bestAct 7 rfl) rfl rfl ?_
  refine gj_gI (q := 15) (j := 7) (gj_dk okX4_bestAct 8 rfl) ff_X4_80 (sh31 hst) (by decide) rfl rfl ?_
  refine gj_aload_n (q := 16) (gj_dk okX4_bestAct 9 rfl) rfl rfl ?_
  refine gj_gI (q := 19) (j := 8) (gj_dk okX4_bestAct 10 rfl) ff_X4_86 (sh31 hst) (by decide) rfl rfl ?_
  refine gj_callV (q := 22) (z := 31) (ci := 4) [jI (M 31 7), jI a1, jI (M 31 7), jI (M 31 8)] rfl (w_X4_doing hst h  _ _ _ _ (by omega)) (gj_dk okX4_bestAct 11 rfl) ml_X4_100 me_X4_doing (sh31 hst) rfl (gj_nm rfl) rfl (gj_kL fun x2 S2 M2 h1 => ?_)
  obtain ⟨eS, w4⟩ := h1; subst eS
  revert w4; generalize M2 = M5; intro w4
  refine gj_lstore_n (q := 23) (gj_dk okX4_bestAct 12 rfl) (by decide) rfl ?_
  refine gj_iconst (q := 24) (gj_dk okX4_bestAct 13 rfl) (by decide) rfl ?_
  refine gj_istore (q := 26) (gj_dk okX4_bestAct 14 rfl) (by decide) rfl ?_
  have L26 : ∀ (k9 : Nat) (x6 x7 x8 : Int) (M10 : gj_M), (w_CW M0 M10) → (2147483647 - x8).toNat < k9 → gj_W G l 10 0 0 yX4_bestAct cX4_bestAct 8 (some .int) (gj_qI fun x S' M' => S = S' ∧ w_CW M0 M') 0 0 26 [(0, jR 31), (1, jI a1), (2, jI x6), (3, jL x7), (5, jI x8)] [] S M10 := by
    intro k9
    induction k9 with
    | zero => intro x6 x7 x8 M10 w11 hk26; exact absurd hk26 (Nat.not_lt_zero _)
    | succ k9 ih26 =>
      intro x6 x7 x8 M10 w11 hk26
      refine gj_iload (q := 28) (gj_dk okX4_bestAct 15 rfl) rfl rfl ?_
      refine gj_aload_n (q := 29) (gj_dk okX4_bestAct 16 rfl) rfl rfl ?_
      refine gj_gI (q := 32) (j := 6) (gj_dk okX4_bestAct 17 rfl) ff_X4_41 (sh31 hst) (by decide) rfl rfl ?_
      refine gj_rng (fun ho32 _ _ => ?_)
      have hb32 : -2147483648 ≤ M10 31 6 ∧ M10 31 6 < 2147483648 := gj_o0 ho32
      have ha32 : -2147483648 ≤ x8 ∧ x8 < 2147483648 := gj_o1 ho32
      clear ho32
      refine gj_icmp_ge (q := 35) (tgt := 92) (gj_dk okX4_bestAct 18 rfl) (by decide) rfl (fun c32 => ?_) (fun c32 => ?_)
      · -- 92
        refine gj_iload_n (q := 93) (gj_dk okX4_bestAct 47 rfl) rfl rfl ?_
        exact gj_iret (gj_dk okX4_bestAct 48 rfl) rfl ⟨_, rfl, rfl, w11⟩
      · -- 35
        refine gj_iload (q := 37) (gj_dk okX4_bestAct 19 rfl) rfl rfl ?_
        refine gj_aload_n (q := 38) (gj_dk okX4_bestAct 20 rfl) rfl rfl ?_
        refine gj_gI (q := 41) (j := 7) (gj_dk okX4_bestAct 21 rfl) ff_X4_80 (sh31 hst) (by decide) rfl rfl ?_
        refine gj_rng (fun ho41 _ _ => ?_)
        have hb41 : -2147483648 ≤ M10 31 7 ∧ M10 31 7 < 2147483648 := gj_o0 ho41
        have ha41 : -2147483648 ≤ x8 ∧ x8 < 2147483648 := gj_o1 ho41
        clear ho41
        refine gj_icmp_eq (q := 44) (tgt := 86) (gj_dk okX4_bestAct 22 rfl) (by decide) rfl (fun c41 => ?_) (fun c41 => ?_)
        · -- 86
          refine gj_iinc (q := 89) (v := x8 + 1) (gj_dk okX4_bestAct 45 rfl) rfl (by decide) (gj_wle (by omega) (by omega)) rfl ?_
          refine gj_goto (tgt := 26) (gj_dk okX4_bestAct 46 rfl) (by decide) ?_
          refine gj_sub [(0, jR 31), (1, jI a1), (2, jI x6), (3, jL x7), (5, jI (x8 + 1))] ⟨rfl, rfl, rfl, rfl, rfl, trivial⟩ ?_
          exact ih26 _ _ _ _ w11 (by omega)
        · -- 44
          refine gj_aload_n (q := 45) (gj_dk okX4_bestAct 23 rfl) rfl rfl ?_
          refine gj_iload (q := 47) (gj_dk okX4_bestAct 24 rfl) rfl rfl ?_
          refine gj_callV (q := 50) (z := 31) (ci := 4) [jI x8] rfl (w_X4_isShut hst  _) (gj_dk okX4_bestAct 25 rfl) ml_X4_104 me_X4_isShut (sh31 hst) rfl (gj_nm rfl) rfl (gj_kI fun x13 S2 M2 h12 => ?_)
          obtain ⟨bx13, eS, eM⟩ := h12; subst eS; subst eM
          refine gj_if_eq (q := 53) (tgt := 56) (gj_dk okX4_bestAct 26 rfl) (by decide) rfl (fun c50 => ?_) (fun c50 => ?_)
          · -- 56
            refine gj_aload_n (q := 57) (gj_dk okX4_bestAct 28 rfl) rfl rfl ?_
            refine gj_iload (q := 59) (gj_dk okX4_bestAct 29 rfl) rfl rfl ?_
            refine gj_iload_n (q := 60) (gj_dk okX4_bestAct 30 rfl) rfl rfl ?_
            refine gj_aload_n (q := 61) (gj_dk okX4_bestAct 31 rfl) rfl rfl ?_
            refine gj_gI (q := 64) (j := 7) (gj_dk okX4_bestAct 32 rfl) ff_X4_80 (sh31 hst) (by decide) rfl rfl ?_
            refine gj_aload_n (q := 65) (gj_dk okX4_bestAct 33 rfl) rfl rfl ?_
            refine gj_gI (q := 68) (j := 8) (gj_dk okX4_bestAct 34 rfl) ff_X4_86 (sh31 hst) (by decide) rfl rfl ?_
            refine gj_callV (q := 71) (z := 31) (ci := 4) [jI x8, jI a1, jI (M10 31 7), jI (M10 31 8)] rfl (w_X4_doing hst w11  _ _ _ _ (by omega)) (gj_dk okX4_bestAct 35 rfl) ml_X4_100 me_X4_doing (sh31 hst) rfl (gj_nm rfl) rfl (gj_kL fun x17 S2 M2 h16 => ?_)
            obtain ⟨eS, w19⟩ := h16; subst eS
            revert w19; generalize M2 = M20; intro w19
            refine gj_lstore (q := 73) (gj_dk okX4_bestAct 36 rfl) (by decide) rfl ?_
            refine gj_lload (q := 75) (gj_dk okX4_bestAct 37 rfl) rfl rfl ?_
            refine gj_lload_n (q := 76) (gj_dk okX4_bestAct 38 rfl) rfl rfl ?_
            refine gj_lcmp (q := 77) (gj_dk okX4_bestAct 39 rfl) rfl ?_
            refine gj_if_le (q := 80) (tgt := 86) (gj_dk okX4_bestAct 40 rfl) (by decide) rfl (fun c77 => ?_) (fun c77 => ?_)
            · -- 86
              refine gj_iinc (q := 89) (v := x8 + 1) (gj_dk okX4_bestAct 45 rfl) rfl (by decide) (gj_wle (by omega) (by omega)) rfl ?_
              refine gj_goto (tgt := 26) (gj_dk okX4_bestAct 46 rfl) (by decide) ?_
              refine gj_sub [(0, jR 31), (1, jI a1), (2, jI x6), (3, jL x7), (5, jI (x8 + 1))] ⟨rfl, rfl, rfl, rfl, rfl, trivial⟩ ?_
              exact ih26 _ _ _ _ w19 (by omega)
            · -- 80
              refine gj_lload (q := 82) (gj_dk okX4_bestAct 41 rfl) rfl rfl ?_
              refine gj_lstore_n (q := 83) (gj_dk okX4_bestAct 42 rfl) (by decide) rfl ?_
              refine gj_iload (q := 85) (gj_dk okX4_bestAct 43 rfl) rfl rfl ?_
              refine gj_istore_n (q := 86) (gj_dk okX4_bestAct 44 rfl) (by decide) rfl ?_
              refine gj_iinc (q := 89) (v := x8 + 1) (gj_dk okX4_bestAct 45 rfl) rfl (by decide) (gj_wle (by omega) (by omega)) rfl ?_
              refine gj_goto (tgt := 26) (gj_dk okX4_bestAct 46 rfl) (by decide) ?_
              refine gj_sub [(0, jR 31), (1, jI a1), (2, jI x8), (3, jL x17), (5, jI (x8 + 1))] ⟨rfl, rfl, rfl, rfl, rfl, trivial⟩ ?_
              exact ih26 _ _ _ _ w19 (by omega)
          · -- 53
            refine gj_goto (tgt := 86) (gj_dk okX4_bestAct 27 rfl) (by decide) ?_
            refine gj_iinc (q := 89) (v := x8 + 1) (gj_dk okX4_bestAct 45 rfl) rfl (by decide) (gj_wle (by omega) (by omega)) rfl ?_
            refine gj_goto (tgt := 26) (gj_dk okX4_bestAct 46 rfl) (by decide) ?_
            refine gj_sub [(0, jR 31), (1, jI a1), (2, jI x6), (3, jL x7), (5, jI (x8 + 1))] ⟨rfl, rfl, rfl, rfl, rfl, trivial⟩ ?_
            exact ih26 _ _ _ _ w11 (by omega)
  refine gj_sub [(0, jR 31), (1, jI a1), (2, jI (M 31 7)), (3, jL x2), (5, jI (-1))] ⟨rfl, rfl, rfl, rfl, rfl, trivial⟩ ?_
  exact L26 _ _ _ _ _ w4 (Nat.lt_succ_self _)

set_option maxHeartbeats 4000000 in
set_option maxRecDepth 20000 in
theorem w_X11_best (hst : gj_Stat S) (h : w_CW M0 M) (a1 a2 a3 : Int)  : gj_C G l 12 0 0 yX11_best cX11_best 5 (some .int) [jR 0, jI a1, jI a2, jI a3] S M (gj_qI fun x S' M' => S = S' ∧ w_CW M0 M') := by
  refine gj_Cof (by decide +kernel) (Nat.le_of_ble_eq_true rfl) ?_
  change gj_W G l 12 0 0 yX11_best cX11_best 5 (some .int) (gj_qI fun x S' M' => S = S' ∧ w_CW M0 M') 0 0 0 [(0, jR 0), (1, jI a1), (2, jI a2), (3, jI a3)] [] S M
  refine gj_aload_n (q := 1) (gj_dk okX11_best 0 rfl) rfl rfl ?_
  refine gj_gR (q := 4) (j := 3) (gj_dk okX11_best 1 rfl) ff_X11_32 (sh0 hst) (by decide) rfl (rf0_3 hst) rfl ?_
  refine gj_iload_n (q := 5) (gj_dk okX11_best 2 rfl) rfl rfl ?_
  refine gj_callV (q := 8) (z := 14) (ci := 5) [jI a1] rfl (w_X5_slotOf hst  _) (gj_dk okX11_best 3 rfl) ml_X11_131 me_X5_slotOf (sh14 hst) rfl (gj_nm rfl) rfl (gj_kI fun x2 S2 M2 h1 => ?_)
  obtain ⟨eS, eM⟩ := h1; subst eS; subst eM
  refine gj_istore (q := 10) (gj_dk okX11_best 4 rfl) (by decide) rfl ?_
  refine gj_iload (q := 12) (gj_dk okX11_best 5 rfl) rfl rfl ?_
  refine gj_iconst (q := 13) (gj_dk okX11_best 6 rfl) (by decide) rfl ?_
  refine gj_icmp_eq (q := 16) (tgt := 23) (gj_dk okX11_best 7 rfl) (by decide) rfl (fun c13 => ?_) (fun c13 => ?_)
  · -- 23
    refine gj_ldc (q := 25) (z := -2147483648) (gj_dk okX11_best 11 rfl) kc_X11_135 (by decide) rfl ?_
    exact gj_iret (gj_dk okX11_best 12 rfl) rfl ⟨_, rfl, rfl, h⟩
  · -- 16
    refine gj_iload_n (q := 17) (gj_dk okX11_best 8 rfl) rfl rfl ?_
    refine gj_callS (q := 20) [jI a2] rfl (w_X11_canReckon hst  _) (gj_dk okX11_best 9 rfl) ml_X11_214 me_X11_canReckon (gj_nm rfl) rfl (gj_kI fun x6 S2 M2 h5 => ?_)
    obtain ⟨bx6, px6, eS, eM⟩ := h5; subst eS; subst eM
    refine gj_if_ne (q := 23) (tgt := 26) (gj_dk okX11_best 10 rfl) (by decide) rfl (fun c20 => ?_) (fun c20 => ?_)
    · -- 26
      refine gj_aload_n (q := 27) (gj_dk okX11_best 13 rfl) rfl rfl ?_
      refine gj_gR (q := 30) (j := 5) (gj_dk okX11_best 14 rfl) ff_X11_47 (sh0 hst) (by decide) rfl (rf0_5 hst) rfl ?_
      refine gj_iload (q := 32) (gj_dk okX11_best 15 rfl) rfl rfl ?_
      refine gj_callV (q := 35) (z := 31) (ci := 4) [jI x2] rfl (w_X4_enter hst h  _) (gj_dk okX11_best 16 rfl) ml_X11_217 me_X4_enter (sh31 hst) rfl (gj_nm rfl) rfl (gj_kV fun S2 M2 h9 => ?_)
      obtain ⟨eS, w12⟩ := h9; subst eS
      revert w12; generalize M2 = M13; intro w12
      refine gj_iload_n (q := 36) (gj_dk okX11_best 17 rfl) rfl rfl ?_
      by_cases c36_0 : a3 = 0
      · refine gj_lookup (tgt := 64) (off := 28) (gj_dk okX11_best 18 rfl) (by decide) (by rw [c36_0]; rfl) (by decide) ?_
        refine gj_aload_n (q := 65) (gj_dk okX11_best 19 rfl) rfl rfl ?_
        refine gj_gR (q := 68) (j := 5) (gj_dk okX11_best 20 rfl) ff_X11_47 (sh0 hst) (by decide) rfl (rf0_5 hst) rfl ?_
        refine gj_iload_n (q := 69) (gj_dk okX11_best 21 rfl) rfl rfl ?_
        refine gj_callV (q := 72) (z := 31) (ci := 4) [jI a2] rfl (w_X4_bestWorth hst w12  _ (by omega)) (gj_dk okX11_best 22 rfl) ml_X11_220 me_X4_bestWorth (sh31 hst) rfl (gj_nm rfl) rfl (gj_kL fun x15 S2 M2 h14 => ?_)
        obtain ⟨eS, w17⟩ := h14; subst eS
        revert w17; generalize M2 = M18; intro w17
        refine gj_l2i (q := 73) (gj_dk okX11_best 23 rfl) rfl ?_
        exact gj_iret (gj_dk okX11_best 24 rfl) rfl ⟨_, rfl, rfl, w17⟩
      by_cases c36_1 : a3 = 1
      · refine gj_lookup (tgt := 74) (off := 38) (gj_dk okX11_best 18 rfl) (by decide) (by rw [c36_1]; rfl) (by decide) ?_
        refine gj_iload (q := 76) (gj_dk okX11_best 25 rfl) rfl rfl ?_
        refine gj_aload_n (q := 77) (gj_dk okX11_best 26 rfl) rfl rfl ?_
        refine gj_gR (q := 80) (j := 5) (gj_dk okX11_best 27 rfl) ff_X11_47 (sh0 hst) (by decide) rfl (rf0_5 hst) rfl ?_
        refine gj_iload_n (q := 81) (gj_dk okX11_best 28 rfl) rfl rfl ?_
        refine gj_callV (q := 84) (z := 31) (ci := 4) [jI a2] rfl (w_X4_bestAct hst w12  _ (by omega)) (gj_dk okX11_best 29 rfl) ml_X11_224 me_X4_bestAct (sh31 hst) rfl (gj_nm rfl) rfl (gj_kI fun x20 S2 M2 h19 => ?_)
        obtain ⟨eS, w22⟩ := h19; subst eS
        revert w22; generalize M2 = M23; intro w22
        refine gj_callS (q := 87) [jI x2, jI x20] rfl (c_X10_facing _ _) (gj_dk okX11_best 30 rfl) ml_X11_227 me_X10_facing (gj_nm rfl) rfl (gj_kI fun x25 S2 M2 h24 => ?_)
        obtain ⟨-, eS, eM⟩ := h24; subst eS; subst eM
        refine gj_callS (q := 90) [jI x25] rfl (c_X10_numberOf _) (gj_dk okX11_best 31 rfl) ml_X11_146 me_X10_numberOf (gj_nm rfl) rfl (gj_kI fun x28 S2 M2 h27 => ?_)
        obtain ⟨-, eS, eM⟩ := h27; subst eS; subst eM
        exact gj_iret (gj_dk okX11_best 32 rfl) rfl ⟨_, rfl, rfl, w22⟩
      refine gj_lookup (tgt := 91) (off := 55) (gj_dk okX11_best 18 rfl) (by decide) (by simp [Op.lookupswitch.offset, c36_0, Ne.symm c36_0, c36_1, Ne.symm c36_1]) (by decide) ?_
      refine gj_ldc (q := 93) (z := -2147483648) (gj_dk okX11_best 33 rfl) kc_X11_135 (by decide) rfl ?_
      exact gj_iret (gj_dk okX11_best 34 rfl) rfl ⟨_, rfl, rfl, w12⟩
    · -- 23
      refine gj_ldc (q := 25) (z := -2147483648) (gj_dk okX11_best 11 rfl) kc_X11_135 (by decide) rfl ?_
      exact gj_iret (gj_dk okX11_best 12 rfl) rfl ⟨_, rfl, rfl, h⟩

set_option maxHeartbeats 4000000 in
set_option maxRecDepth 20000 in
theorem w_X4_worthOfAct (hst : gj_Stat S) (h : w_CW M0 M) (a1 a2 : Int) (hm : 0 ≤ a2 ∧ a2 ≤ 4) : gj_C G l 10 0 0 yX4_worthOfAct cX4_worthOfAct 3 (some .long) [jR 31, jI a1, jI a2] S M (gj_qL fun x S' M' => S = S' ∧ w_CW M0 M') := by
  refine gj_Cof (by decide +kernel) (Nat.le_of_ble_eq_true rfl) ?_
  change gj_W G l 10 0 0 yX4_worthOfAct cX4_worthOfAct 3 (some .long) (gj_qL fun x S' M' => S = S' ∧ w_CW M0 M') 0 0 0 [(0, jR 31), (1, jI a1), (2, jI a2)] [] S M
  refine gj_aload_n (q := 1) (gj_dk okX4_worthOfAct 0 rfl) rfl rfl ?_
  refine gj_iload_n (q := 2) (gj_dk okX4_worthOfAct 1 rfl) rfl rfl ?_
  refine gj_iload_n (q := 3) (gj_dk okX4_worthOfAct 2 rfl) rfl rfl ?_
  refine gj_aload_n (q := 4) (gj_dk okX4_worthOfAct 3 rfl) rfl rfl ?_
  refine gj_gI (q := 7) (j := 7) (gj_dk okX4_worthOfAct 4 rfl) ff_X4_80 (sh31 hst) (by decide) rfl rfl ?_
  refine gj_aload_n (q := 8) (gj_dk okX4_worthOfAct 5 rfl) rfl rfl ?_
  refine gj_gI (q := 11) (j := 8) (gj_dk okX4_worthOfAct 6 rfl) ff_X4_86 (sh31 hst) (by decide) rfl rfl ?_
  refine gj_callV (q := 14) (z := 31) (ci := 4) [jI a1, jI a2, jI (M 31 7), jI (M 31 8)] rfl (w_X4_doing hst h  _ _ _ _ (by omega)) (gj_dk okX4_worthOfAct 7 rfl) ml_X4_100 me_X4_doing (sh31 hst) rfl (gj_nm rfl) rfl (gj_kL fun x2 S2 M2 h1 => ?_)
  obtain ⟨eS, w4⟩ := h1; subst eS
  revert w4; generalize M2 = M5; intro w4
  exact gj_lret (gj_dk okX4_worthOfAct 8 rfl) rfl ⟨_, rfl, rfl, w4⟩

set_option maxHeartbeats 4000000 in
set_option maxRecDepth 20000 in
theorem w_X11_act (hst : gj_Stat S) (h : w_CW M0 M) (a1 a2 a3 : Int)  : gj_C G l 11 0 0 yX11_act cX11_act 6 (some .int) [jR 0, jI a1, jI a2, jI a3] S M (gj_qI fun x S' M' => S = S' ∧ w_CW M0 M') := by
  refine gj_Cof (by decide +kernel) (Nat.le_of_ble_eq_true rfl) ?_
  change gj_W G l 11 0 0 yX11_act cX11_act 6 (some .int) (gj_qI fun x S' M' => S = S' ∧ w_CW M0 M') 0 0 0 [(0, jR 0), (1, jI a1), (2, jI a2), (3, jI a3)] [] S M
  refine gj_aload_n (q := 1) (gj_dk okX11_act 0 rfl) rfl rfl ?_
  refine gj_gR (q := 4) (j := 3) (gj_dk okX11_act 1 rfl) ff_X11_32 (sh0 hst) (by decide) rfl (rf0_3 hst) rfl ?_
  refine gj_iload_n (q := 5) (gj_dk okX11_act 2 rfl) rfl rfl ?_
  refine gj_callV (q := 8) (z := 14) (ci := 5) [jI a1] rfl (w_X5_slotOf hst  _) (gj_dk okX11_act 3 rfl) ml_X11_131 me_X5_slotOf (sh14 hst) rfl (gj_nm rfl) rfl (gj_kI fun x2 S2 M2 h1 => ?_)
  obtain ⟨eS, eM⟩ := h1; subst eS; subst eM
  refine gj_istore (q := 10) (gj_dk okX11_act 4 rfl) (by decide) rfl ?_
  refine gj_aload_n (q := 11) (gj_dk okX11_act 5 rfl) rfl rfl ?_
  refine gj_gR (q := 14) (j := 3) (gj_dk okX11_act 6 rfl) ff_X11_32 (sh0 hst) (by decide) rfl (rf0_3 hst) rfl ?_
  refine gj_iload_n (q := 15) (gj_dk okX11_act 7 rfl) rfl rfl ?_
  refine gj_callV (q := 18) (z := 14) (ci := 5) [jI a3] rfl (w_X5_slotOf hst  _) (gj_dk okX11_act 8 rfl) ml_X11_131 me_X5_slotOf (sh14 hst) rfl (gj_nm rfl) rfl (gj_kI fun x6 S2 M2 h5 => ?_)
  obtain ⟨eS, eM⟩ := h5; subst eS; subst eM
  refine gj_istore (q := 20) (gj_dk okX11_act 9 rfl) (by decide) rfl ?_
  refine gj_iload (q := 22) (gj_dk okX11_act 10 rfl) rfl rfl ?_
  refine gj_iconst (q := 23) (gj_dk okX11_act 11 rfl) (by decide) rfl ?_
  refine gj_icmp_eq (q := 26) (tgt := 48) (gj_dk okX11_act 12 rfl) (by decide) rfl (fun c23 => ?_) (fun c23 => ?_)
  · -- 48
    refine gj_ldc (q := 50) (z := -2147483648) (gj_dk okX11_act 23 rfl) kc_X11_135 (by decide) rfl ?_
    exact gj_iret (gj_dk okX11_act 24 rfl) rfl ⟨_, rfl, rfl, h⟩
  · -- 26
    refine gj_iload_n (q := 27) (gj_dk okX11_act 13 rfl) rfl rfl ?_
    refine gj_callS (q := 30) [jI a2] rfl (w_X11_canReckon hst  _) (gj_dk okX11_act 14 rfl) ml_X11_214 me_X11_canReckon (gj_nm rfl) rfl (gj_kI fun x10 S2 M2 h9 => ?_)
    obtain ⟨bx10, px10, eS, eM⟩ := h9; subst eS; subst eM
    refine gj_if_eq (q := 33) (tgt := 48) (gj_dk okX11_act 15 rfl) (by decide) rfl (fun c30 => ?_) (fun c30 => ?_)
    · -- 48
      refine gj_ldc (q := 50) (z := -2147483648) (gj_dk okX11_act 23 rfl) kc_X11_135 (by decide) rfl ?_
      exact gj_iret (gj_dk okX11_act 24 rfl) rfl ⟨_, rfl, rfl, h⟩
    · -- 33
      refine gj_iload_n (q := 34) (gj_dk okX11_act 16 rfl) rfl rfl ?_
      refine gj_iconst (q := 35) (gj_dk okX11_act 17 rfl) (by decide) rfl ?_
      refine gj_icmp_eq (q := 38) (tgt := 51) (gj_dk okX11_act 18 rfl) (by decide) rfl (fun c35 => ?_) (fun c35 => ?_)
      · -- 51
        refine gj_aload_n (q := 52) (gj_dk okX11_act 25 rfl) rfl rfl ?_
        refine gj_gR (q := 55) (j := 5) (gj_dk okX11_act 26 rfl) ff_X11_47 (sh0 hst) (by decide) rfl (rf0_5 hst) rfl ?_
        refine gj_iload (q := 57) (gj_dk okX11_act 27 rfl) rfl rfl ?_
        refine gj_callV (q := 60) (z := 31) (ci := 4) [jI x2] rfl (w_X4_enter hst h  _) (gj_dk okX11_act 28 rfl) ml_X11_217 me_X4_enter (sh31 hst) rfl (gj_nm rfl) rfl (gj_kV fun S2 M2 h13 => ?_)
        obtain ⟨eS, w16⟩ := h13; subst eS
        revert w16; generalize M2 = M17; intro w16
        refine gj_aload_n (q := 61) (gj_dk okX11_act 29 rfl) rfl rfl ?_
        refine gj_gR (q := 64) (j := 5) (gj_dk okX11_act 30 rfl) ff_X11_47 (sh0 hst) (by decide) rfl (rf0_5 hst) rfl ?_
        refine gj_iload (q := 66) (gj_dk okX11_act 31 rfl) rfl rfl ?_
        refine gj_callS (q := 69) [jI x6] rfl (c_X10_placeOf _) (gj_dk okX11_act 32 rfl) ml_X11_230 me_X10_placeOf (gj_nm rfl) rfl (gj_kI fun x19 S2 M2 h18 => ?_)
        obtain ⟨-, eS, eM⟩ := h18; subst eS; subst eM
        refine gj_iload_n (q := 70) (gj_dk okX11_act 33 rfl) rfl rfl ?_
        refine gj_callV (q := 73) (z := 31) (ci := 4) [jI x19, jI a2] rfl (w_X4_worthOfAct hst w16  _ _ (by omega)) (gj_dk okX11_act 34 rfl) ml_X11_233 me_X4_worthOfAct (sh31 hst) rfl (gj_nm rfl) rfl (gj_kL fun x22 S2 M2 h21 => ?_)
        obtain ⟨eS, w24⟩ := h21; subst eS
        revert w24; generalize M2 = M25; intro w24
        refine gj_l2i (q := 74) (gj_dk okX11_act 35 rfl) rfl ?_
        exact gj_iret (gj_dk okX11_act 36 rfl) rfl ⟨_, rfl, rfl, w24⟩
      · -- 38
        refine gj_iload (q := 40) (gj_dk okX11_act 19 rfl) rfl rfl ?_
        refine gj_iload (q := 42) (gj_dk okX11_act 20 rfl) rfl rfl ?_
        refine gj_callS (q := 45) [jI x2, jI x6] rfl (c_X10_unlike _ _) (gj_dk okX11_act 21 rfl) ml_X11_157 me_X10_unlike (gj_nm rfl) rfl (gj_kI fun x27 S2 M2 h26 => ?_)
        have bx27 : x27 = 0 ∨ x27 = 1 := by rw [← h26.1]; exact f_unl_01 _ _
        obtain ⟨-, eS, eM⟩ := h26; subst eS; subst eM
        refine gj_if_ne (q := 48) (tgt := 51) (gj_dk okX11_act 22 rfl) (by decide) rfl (fun c45 => ?_) (fun c45 => ?_)
        · -- 51
          refine gj_aload_n (q := 52) (gj_dk okX11_act 25 rfl) rfl rfl ?_
          refine gj_gR (q := 55) (j := 5) (gj_dk okX11_act 26 rfl) ff_X11_47 (sh0 hst) (by decide) rfl (rf0_5 hst) rfl ?_
          refine gj_iload (q := 57) (gj_dk okX11_act 27 rfl) rfl rfl ?_
          refine gj_callV (q := 60) (z := 31) (ci := 4) [jI x2] rfl (w_X4_enter hst h  _) (gj_dk okX11_act 28 rfl) ml_X11_217 me_X4_enter (sh31 hst) rfl (gj_nm rfl) rfl (gj_kV fun S2 M2 h29 => ?_)
          obtain ⟨eS, w32⟩ := h29; subst eS
          revert w32; generalize M2 = M33; intro w32
          refine gj_aload_n (q := 61) (gj_dk okX11_act 29 rfl) rfl rfl ?_
          refine gj_gR (q := 64) (j := 5) (gj_dk okX11_act 30 rfl) ff_X11_47 (sh0 hst) (by decide) rfl (rf0_5 hst) rfl ?_
          refine gj_iload (q := 66) (gj_dk okX11_act 31 rfl) rfl rfl ?_
          refine gj_callS (q := 69) [jI x6] rfl (c_X10_placeOf _) (gj_dk okX11_act 32 rfl) ml_X11_230 me_X10_placeOf (gj_nm rfl) rfl (gj_kI fun x35 S2 M2 h34 => ?_)
          obtain ⟨-, eS, eM⟩ := h34; subst eS; subst eM
          refine gj_iload_n (q := 70) (gj_dk okX11_act 33 rfl) rfl rfl ?_
          refine gj_callV (q := 73) (z := 31) (ci := 4) [jI x35, jI a2] rfl (w_X4_worthOfAct hst w32  _ _ (by omega)) (gj_dk okX11_act 34 rfl) ml_X11_233 me_X4_worthOfAct (sh31 hst) rfl (gj_nm rfl) rfl (gj_kL fun x38 S2 M2 h37 => ?_)
          obtain ⟨eS, w40⟩ := h37; subst eS
          revert w40; generalize M2 = M41; intro w40
          refine gj_l2i (q := 74) (gj_dk okX11_act 35 rfl) rfl ?_
          exact gj_iret (gj_dk okX11_act 36 rfl) rfl ⟨_, rfl, rfl, w40⟩
        · -- 48
          refine gj_ldc (q := 50) (z := -2147483648) (gj_dk okX11_act 23 rfl) kc_X11_135 (by decide) rfl ?_
          exact gj_iret (gj_dk okX11_act 24 rfl) rfl ⟨_, rfl, rfl, h⟩

set_option maxHeartbeats 4000000 in
set_option maxRecDepth 20000 in
theorem w_X4_stays (hst : gj_Stat S) (h : w_CW M0 M) (a1 : Int) (hm : 0 ≤ a1 ∧ a1 ≤ 4) : gj_C G l 11 0 0 yX4_stays cX4_stays 2 (some .boolean) [jR 31, jI a1] S M (gj_qI fun x S' M' => (x = 0 ∨ x = 1) ∧ S = S' ∧ w_CW M0 M') := by
  refine gj_Cof (by decide +kernel) (Nat.le_of_ble_eq_true rfl) ?_
  change gj_W G l 11 0 0 yX4_stays cX4_stays 2 (some .boolean) (gj_qI fun x S' M' => (x = 0 ∨ x = 1) ∧ S = S' ∧ w_CW M0 M') 0 0 0 [(0, jR 31), (1, jI a1)] [] S M
  refine gj_aload_n (q := 1) (gj_dk okX4_stays 0 rfl) rfl rfl ?_
  refine gj_gI (q := 4) (j := 7) (gj_dk okX4_stays 1 rfl) ff_X4_80 (sh31 hst) (by decide) rfl rfl ?_
  refine gj_iconst (q := 5) (gj_dk okX4_stays 2 rfl) (by decide) rfl ?_
  refine gj_icmp_eq (q := 8) (tgt := 20) (gj_dk okX4_stays 3 rfl) (by decide) rfl (fun c5 => ?_) (fun c5 => ?_)
  · -- 20
    refine gj_iconst (q := 21) (gj_dk okX4_stays 10 rfl) (by decide) rfl ?_
    refine gj_goto (tgt := 25) (gj_dk okX4_stays 11 rfl) (by decide) ?_
    exact gj_zret (gj_dk okX4_stays 13 rfl) rfl (by first | decide | assumption | omega) ⟨_, rfl, (by first | decide | assumption | omega), rfl, h⟩
  · -- 8
    refine gj_aload_n (q := 9) (gj_dk okX4_stays 4 rfl) rfl rfl ?_
    refine gj_iload_n (q := 10) (gj_dk okX4_stays 5 rfl) rfl rfl ?_
    refine gj_callV (q := 13) (z := 31) (ci := 4) [jI a1] rfl (w_X4_bestAct hst h  _ (by omega)) (gj_dk okX4_stays 6 rfl) ml_X4_108 me_X4_bestAct (sh31 hst) rfl (gj_nm rfl) rfl (gj_kI fun x2 S2 M2 h1 => ?_)
    obtain ⟨eS, w4⟩ := h1; subst eS
    revert w4; generalize M2 = M5; intro w4
    refine gj_aload_n (q := 14) (gj_dk okX4_stays 7 rfl) rfl rfl ?_
    refine gj_gI (q := 17) (j := 7) (gj_dk okX4_stays 8 rfl) ff_X4_80 (sh31 hst) (by decide) rfl rfl ?_
    refine gj_icmp_ne (q := 20) (tgt := 24) (gj_dk okX4_stays 9 rfl) (by decide) rfl (fun c17 => ?_) (fun c17 => ?_)
    · -- 24
      refine gj_iconst (q := 25) (gj_dk okX4_stays 12 rfl) (by decide) rfl ?_
      exact gj_zret (gj_dk okX4_stays 13 rfl) rfl (by first | decide | assumption | omega) ⟨_, rfl, (by first | decide | assumption | omega), rfl, w4⟩
    · -- 20
      refine gj_iconst (q := 21) (gj_dk okX4_stays 10 rfl) (by decide) rfl ?_
      refine gj_goto (tgt := 25) (gj_dk okX4_stays 11 rfl) (by decide) ?_
      exact gj_zret (gj_dk okX4_stays 13 rfl) rfl (by first | decide | assumption | omega) ⟨_, rfl, (by first | decide | assumption | omega), rfl, w4⟩

set_option maxHeartbeats 4000000 in
set_option maxRecDepth 20000 in
theorem w_X11_silent (hst : gj_Stat S) (h : w_CW M0 M) (a1 a2 : Int)  : gj_C G l 12 0 0 yX11_silent cX11_silent 4 (some .int) [jR 0, jI a1, jI a2] S M (gj_qI fun x S' M' => S = S' ∧ w_CW M0 M') := by
  refine gj_Cof (by decide +kernel) (Nat.le_of_ble_eq_true rfl) ?_
  change gj_W G l 12 0 0 yX11_silent cX11_silent 4 (some .int) (gj_qI fun x S' M' => S = S' ∧ w_CW M0 M') 0 0 0 [(0, jR 0), (1, jI a1), (2, jI a2)] [] S M
  refine gj_aload_n (q := 1) (gj_dk okX11_silent 0 rfl) rfl rfl ?_
  refine gj_gR (q := 4) (j := 3) (gj_dk okX11_silent 1 rfl) ff_X11_32 (sh0 hst) (by decide) rfl (rf0_3 hst) rfl ?_
  refine gj_iload_n (q := 5) (gj_dk okX11_silent 2 rfl) rfl rfl ?_
  refine gj_callV (q := 8) (z := 14) (ci := 5) [jI a1] rfl (w_X5_slotOf hst  _) (gj_dk okX11_silent 3 rfl) ml_X11_131 me_X5_slotOf (sh14 hst) rfl (gj_nm rfl) rfl (gj_kI fun x2 S2 M2 h1 => ?_)
  obtain ⟨eS, eM⟩ := h1; subst eS; subst eM
  refine gj_istore_n (q := 9) (gj_dk okX11_silent 4 rfl) (by decide) rfl ?_
  refine gj_iload_n (q := 10) (gj_dk okX11_silent 5 rfl) rfl rfl ?_
  refine gj_iconst (q := 11) (gj_dk okX11_silent 6 rfl) (by decide) rfl ?_
  refine gj_icmp_eq (q := 14) (tgt := 21) (gj_dk okX11_silent 7 rfl) (by decide) rfl (fun c11 => ?_) (fun c11 => ?_)
  · -- 21
    refine gj_iconst (q := 22) (gj_dk okX11_silent 11 rfl) (by decide) rfl ?_
    exact gj_iret (gj_dk okX11_silent 12 rfl) rfl ⟨_, rfl, rfl, h⟩
  · -- 14
    refine gj_iload_n (q := 15) (gj_dk okX11_silent 8 rfl) rfl rfl ?_
    refine gj_callS (q := 18) [jI a2] rfl (w_X11_canReckon hst  _) (gj_dk okX11_silent 9 rfl) ml_X11_214 me_X11_canReckon (gj_nm rfl) rfl (gj_kI fun x6 S2 M2 h5 => ?_)
    obtain ⟨bx6, px6, eS, eM⟩ := h5; subst eS; subst eM
    refine gj_if_ne (q := 21) (tgt := 23) (gj_dk okX11_silent 10 rfl) (by decide) rfl (fun c18 => ?_) (fun c18 => ?_)
    · -- 23
      refine gj_aload_n (q := 24) (gj_dk okX11_silent 13 rfl) rfl rfl ?_
      refine gj_gR (q := 27) (j := 5) (gj_dk okX11_silent 14 rfl) ff_X11_47 (sh0 hst) (by decide) rfl (rf0_5 hst) rfl ?_
      refine gj_iload_n (q := 28) (gj_dk okX11_silent 15 rfl) rfl rfl ?_
      refine gj_callV (q := 31) (z := 31) (ci := 4) [jI x2] rfl (w_X4_enter hst h  _) (gj_dk okX11_silent 16 rfl) ml_X11_217 me_X4_enter (sh31 hst) rfl (gj_nm rfl) rfl (gj_kV fun S2 M2 h9 => ?_)
      obtain ⟨eS, w12⟩ := h9; subst eS
      revert w12; generalize M2 = M13; intro w12
      refine gj_aload_n (q := 32) (gj_dk okX11_silent 17 rfl) rfl rfl ?_
      refine gj_gR (q := 35) (j := 5) (gj_dk okX11_silent 18 rfl) ff_X11_47 (sh0 hst) (by decide) rfl (rf0_5 hst) rfl ?_
      refine gj_iload_n (q := 36) (gj_dk okX11_silent 19 rfl) rfl rfl ?_
      refine gj_callV (q := 39) (z := 31) (ci := 4) [jI a2] rfl (w_X4_stays hst w12  _ (by omega)) (gj_dk okX11_silent 20 rfl) ml_X11_237 me_X4_stays (sh31 hst) rfl (gj_nm rfl) rfl (gj_kI fun x15 S2 M2 h14 => ?_)
      obtain ⟨bx15, eS, w17⟩ := h14; subst eS
      revert w17; generalize M2 = M18; intro w17
      refine gj_if_eq (q := 42) (tgt := 46) (gj_dk okX11_silent 21 rfl) (by decide) rfl (fun c39 => ?_) (fun c39 => ?_)
      · -- 46
        refine gj_iconst (q := 47) (gj_dk okX11_silent 24 rfl) (by decide) rfl ?_
        exact gj_iret (gj_dk okX11_silent 25 rfl) rfl ⟨_, rfl, rfl, w17⟩
      · -- 42
        refine gj_iconst (q := 43) (gj_dk okX11_silent 22 rfl) (by decide) rfl ?_
        refine gj_goto (tgt := 47) (gj_dk okX11_silent 23 rfl) (by decide) ?_
        exact gj_iret (gj_dk okX11_silent 25 rfl) rfl ⟨_, rfl, rfl, w17⟩
    · -- 21
      refine gj_iconst (q := 22) (gj_dk okX11_silent 11 rfl) (by decide) rfl ?_
      exact gj_iret (gj_dk okX11_silent 12 rfl) rfl ⟨_, rfl, rfl, h⟩

set_option maxHeartbeats 4000000 in
set_option maxRecDepth 20000 in
theorem w_X4_leastGood (hst : gj_Stat S) (h : w_CW M0 M) (a1 a2 a3 : Int) (hm : 0 ≤ a3 ∧ a3 ≤ 4) (hy : a2 ≤ 6) : gj_C G l 12 0 0 yX4_leastGood cX4_leastGood 5 (some .int) [jR 31, jI a1, jI a2, jI a3] S M (gj_qI fun x S' M' => S = S' ∧ w_CW M0 M') := by
  refine gj_Cof (by decide +kernel) (Nat.le_of_ble_eq_true rfl) ?_
  change gj_W G l 12 0 0 yX4_leastGood cX4_leastGood 5 (some .int) (gj_qI fun x S' M' => S = S' ∧ w_CW M0 M') 0 0 0 [(0, jR 31), (1, jI a1), (2, jI a2), (3, jI a3)] [] S M
  refine gj_aload_n (q := 1) (gj_dk okX4_leastGood 0 rfl) rfl rfl ?_
  refine gj_iload_n (q := 2) (gj_dk okX4_leastGood 1 rfl) rfl rfl ?_
  refine gj_pfI (q := 5) (j := 7) (gj_dk okX4_leastGood 2 rfl) ff_X4_80 (sh31 hst) (by decide) rfl rfl ?_
  refine gj_abs (fun M1 e3 => ?_)
  have w2 : w_CW M0 M1 := by rw [e3]; exact h.up (by decide) rfl
  clear e3
  refine gj_aload_n (q := 6) (gj_dk okX4_leastGood 3 rfl) rfl rfl ?_
  refine gj_iload_n (q := 7) (gj_dk okX4_leastGood 4 rfl) rfl rfl ?_
  refine gj_pfI (q := 10) (j := 8) (gj_dk okX4_leastGood 5 rfl) ff_X4_86 (sh31 hst) (by decide) rfl rfl ?_
  refine gj_abs (fun M4 e6 => ?_)
  have w5 : w_CW M0 M4 := by rw [e6]; exact w2.up (by decide) rfl
  clear e6
  refine gj_iconst (q := 11) (gj_dk okX4_leastGood 6 rfl) (by decide) rfl ?_
  refine gj_istore (q := 13) (gj_dk okX4_leastGood 7 rfl) (by decide) rfl ?_
  have L13 : ∀ (k8 : Nat) (x7 : Int) (M9 : gj_M), (w_CW M0 M9) → (2147483647 - x7).toNat < k8 → gj_W G l 12 0 0 yX4_leastGood cX4_leastGood 5 (some .int) (gj_qI fun x S' M' => S = S' ∧ w_CW M0 M') 0 0 13 [(0, jR 31), (1, jI a1), (2, jI a2), (3, jI a3), (4, jI x7)] [] S M9 := by
    intro k8
    induction k8 with
    | zero => intro x7 M9 w10 hk13; exact absurd hk13 (Nat.not_lt_zero _)
    | succ k8 ih13 =>
      intro x7 M9 w10 hk13
      refine gj_iload (q := 15) (gj_dk okX4_leastGood 8 rfl) rfl rfl ?_
      refine gj_iload_n (q := 16) (gj_dk okX4_leastGood 9 rfl) rfl rfl ?_
      refine gj_rng (fun ho16 _ _ => ?_)
      have hb16 : -2147483648 ≤ a2 ∧ a2 < 2147483648 := gj_o0 ho16
      have ha16 : -2147483648 ≤ x7 ∧ x7 < 2147483648 := gj_o1 ho16
      clear ho16
      refine gj_icmp_gt (q := 19) (tgt := 66) (gj_dk okX4_leastGood 10 rfl) (by decide) rfl (fun c16 => ?_) (fun c16 => ?_)
      · -- 66
        refine gj_iconst (q := 67) (gj_dk okX4_leastGood 35 rfl) (by decide) rfl ?_
        exact gj_iret (gj_dk okX4_leastGood 36 rfl) rfl ⟨_, rfl, rfl, w10⟩
      · -- 19
        refine gj_aload_n (q := 20) (gj_dk okX4_leastGood 11 rfl) rfl rfl ?_
        refine gj_gR (q := 23) (j := 2) (gj_dk okX4_leastGood 12 rfl) ff_X4_9 (sh31 hst) (by decide) rfl (rf31_2 hst) rfl ?_
        refine gj_iload_n (q := 24) (gj_dk okX4_leastGood 13 rfl) rfl rfl ?_
        refine gj_iconst (q := 25) (gj_dk okX4_leastGood 14 rfl) (by decide) rfl ?_
        refine gj_iload (q := 27) (gj_dk okX4_leastGood 15 rfl) rfl rfl ?_
        refine gj_mmin (q := 30) (gj_dk okX4_leastGood 16 rfl) ml_X4_111 ⟨by omega, Nat.le_of_ble_eq_true rfl⟩ rfl ?_
        refine gj_callS (q := 33) [jR 32, jI a1, jI (f_min 4 x7)] rfl (c_X7_put (sh32 hst) (by decide) (by decide) _ _) (gj_dk okX4_leastGood 17 rfl) ml_X4_62 me_X7_put (gj_nm rfl) rfl (gj_kV fun S2 M2 h11 => ?_)
        obtain ⟨eS, eM⟩ := h11; subst eS
        have w14 : w_CW M0 M2 := by rw [← eM]; exact w_CW.put w10 (by decide) (by decide)
        clear eM
        revert w14; generalize M2 = M15; intro w14
        refine gj_aload_n (q := 34) (gj_dk okX4_leastGood 18 rfl) rfl rfl ?_
        refine gj_gR (q := 37) (j := 3) (gj_dk okX4_leastGood 19 rfl) ff_X4_15 (sh31 hst) (by decide) rfl (rf31_3 hst) rfl ?_
        refine gj_iload_n (q := 38) (gj_dk okX4_leastGood 20 rfl) rfl rfl ?_
        refine gj_iconst (q := 39) (gj_dk okX4_leastGood 21 rfl) (by decide) rfl ?_
        refine gj_iload_n (q := 40) (gj_dk okX4_leastGood 22 rfl) rfl rfl ?_
        refine gj_iload (q := 42) (gj_dk okX4_leastGood 23 rfl) rfl rfl ?_
        refine gj_isub (q := 43) (gj_dk okX4_leastGood 24 rfl) rfl ?_
        refine gj_mmin (q := 46) (gj_dk okX4_leastGood 25 rfl) ml_X4_111 ⟨by omega, Nat.le_of_ble_eq_true rfl⟩ rfl ?_
        refine gj_callS (q := 49) [jR 33, jI a1, jI (f_min 4 (gj_w (a2 - x7)))] rfl (c_X7_put (sh33 hst) (by decide) (by decide) _ _) (gj_dk okX4_leastGood 26 rfl) ml_X4_62 me_X7_put (gj_nm rfl) rfl (gj_kV fun S2 M2 h16 => ?_)
        obtain ⟨eS, eM⟩ := h16; subst eS
        have w19 : w_CW M0 M2 := by rw [← eM]; exact w_CW.put w14 (by decide) (by decide)
        clear eM
        revert w19; generalize M2 = M20; intro w19
        refine gj_aload_n (q := 50) (gj_dk okX4_leastGood 27 rfl) rfl rfl ?_
        refine gj_iload_n (q := 51) (gj_dk okX4_leastGood 28 rfl) rfl rfl ?_
        refine gj_callV (q := 54) (z := 31) (ci := 4) [jI a3] rfl (w_X4_stays hst w19  _ (by omega)) (gj_dk okX4_leastGood 29 rfl) ml_X4_116 me_X4_stays (sh31 hst) rfl (gj_nm rfl) rfl (gj_kI fun x22 S2 M2 h21 => ?_)
        obtain ⟨bx22, eS, w24⟩ := h21; subst eS
        revert w24; generalize M2 = M25; intro w24
        refine gj_if_eq (q := 57) (tgt := 60) (gj_dk okX4_leastGood 30 rfl) (by decide) rfl (fun c54 => ?_) (fun c54 => ?_)
        · -- 60
          refine gj_iinc (q := 63) (v := x7 + 1) (gj_dk okX4_leastGood 33 rfl) rfl (by decide) (gj_wle (by omega) (by omega)) rfl ?_
          refine gj_goto (tgt := 13) (gj_dk okX4_leastGood 34 rfl) (by decide) ?_
          refine gj_sub [(0, jR 31), (1, jI a1), (2, jI a2), (3, jI a3), (4, jI (x7 + 1))] ⟨rfl, rfl, rfl, rfl, rfl, trivial⟩ ?_
          exact ih13 _ _ w24 (by omega)
        · -- 57
          refine gj_iload (q := 59) (gj_dk okX4_leastGood 31 rfl) rfl rfl ?_
          exact gj_iret (gj_dk okX4_leastGood 32 rfl) rfl ⟨_, rfl, rfl, w24⟩
  refine gj_sub [(0, jR 31), (1, jI a1), (2, jI a2), (3, jI a3), (4, jI 0)] ⟨rfl, rfl, rfl, rfl, rfl, trivial⟩ ?_
  exact L13 _ _ _ w5 (Nat.lt_succ_self _)

set_option maxHeartbeats 4000000 in
set_option maxRecDepth 20000 in
theorem w_X11_bar (hst : gj_Stat S) (h : w_CW M0 M) (a1 a2 a3 a4 : Int)  : gj_C G l 13 0 0 yX11_bar cX11_bar 7 (some .int) [jR 0, jI a1, jI a2, jI a3, jI a4] S M (gj_qI fun x S' M' => S = S' ∧ w_CW M0 M') := by
  refine gj_Cof (by decide +kernel) (Nat.le_of_ble_eq_true rfl) ?_
  change gj_W G l 13 0 0 yX11_bar cX11_bar 7 (some .int) (gj_qI fun x S' M' => S = S' ∧ w_CW M0 M') 0 0 0 [(0, jR 0), (1, jI a1), (2, jI a2), (3, jI a3), (4, jI a4)] [] S M
  refine gj_aload_n (q := 1) (gj_dk okX11_bar 0 rfl) rfl rfl ?_
  refine gj_gR (q := 4) (j := 3) (gj_dk okX11_bar 1 rfl) ff_X11_32 (sh0 hst) (by decide) rfl (rf0_3 hst) rfl ?_
  refine gj_iload_n (q := 5) (gj_dk okX11_bar 2 rfl) rfl rfl ?_
  refine gj_callV (q := 8) (z := 14) (ci := 5) [jI a1] rfl (w_X5_slotOf hst  _) (gj_dk okX11_bar 3 rfl) ml_X11_131 me_X5_slotOf (sh14 hst) rfl (gj_nm rfl) rfl (gj_kI fun x2 S2 M2 h1 => ?_)
  obtain ⟨eS, eM⟩ := h1; subst eS; subst eM
  refine gj_istore (q := 10) (gj_dk okX11_bar 4 rfl) (by decide) rfl ?_
  refine gj_aload_n (q := 11) (gj_dk okX11_bar 5 rfl) rfl rfl ?_
  refine gj_gR (q := 14) (j := 3) (gj_dk okX11_bar 6 rfl) ff_X11_32 (sh0 hst) (by decide) rfl (rf0_3 hst) rfl ?_
  refine gj_iload_n (q := 15) (gj_dk okX11_bar 7 rfl) rfl rfl ?_
  refine gj_callV (q := 18) (z := 14) (ci := 5) [jI a2] rfl (w_X5_slotOf hst  _) (gj_dk okX11_bar 8 rfl) ml_X11_131 me_X5_slotOf (sh14 hst) rfl (gj_nm rfl) rfl (gj_kI fun x6 S2 M2 h5 => ?_)
  obtain ⟨eS, eM⟩ := h5; subst eS; subst eM
  refine gj_istore (q := 20) (gj_dk okX11_bar 9 rfl) (by decide) rfl ?_
  refine gj_iload (q := 22) (gj_dk okX11_bar 10 rfl) rfl rfl ?_
  refine gj_iload (q := 24) (gj_dk okX11_bar 11 rfl) rfl rfl ?_
  refine gj_callS (q := 27) [jI x2, jI x6] rfl (c_X10_unlike _ _) (gj_dk okX11_bar 12 rfl) ml_X11_157 me_X10_unlike (gj_nm rfl) rfl (gj_kI fun x10 S2 M2 h9 => ?_)
  have bx10 : x10 = 0 ∨ x10 = 1 := by rw [← h9.1]; exact f_unl_01 _ _
  obtain ⟨-, eS, eM⟩ := h9; subst eS; subst eM
  refine gj_if_eq (q := 30) (tgt := 49) (gj_dk okX11_bar 13 rfl) (by decide) rfl (fun c27 => ?_) (fun c27 => ?_)
  · -- 49
    refine gj_iconst (q := 50) (gj_dk okX11_bar 23 rfl) (by decide) rfl ?_
    exact gj_iret (gj_dk okX11_bar 24 rfl) rfl ⟨_, rfl, rfl, h⟩
  · -- 30
    refine gj_iload_n (q := 31) (gj_dk okX11_bar 14 rfl) rfl rfl ?_
    refine gj_iconst (q := 32) (gj_dk okX11_bar 15 rfl) (by decide) rfl ?_
    refine gj_icmp_lt (q := 35) (tgt := 49) (gj_dk okX11_bar 16 rfl) (by decide) rfl (fun c32 => ?_) (fun c32 => ?_)
    · -- 49
      refine gj_iconst (q := 50) (gj_dk okX11_bar 23 rfl) (by decide) rfl ?_
      exact gj_iret (gj_dk okX11_bar 24 rfl) rfl ⟨_, rfl, rfl, h⟩
    · -- 35
      refine gj_iload_n (q := 36) (gj_dk okX11_bar 17 rfl) rfl rfl ?_
      refine gj_bipush (q := 38) (gj_dk okX11_bar 18 rfl) (by decide) rfl rfl ?_
      refine gj_icmp_gt (q := 41) (tgt := 49) (gj_dk okX11_bar 19 rfl) (by decide) rfl (fun c38 => ?_) (fun c38 => ?_)
      · -- 49
        refine gj_iconst (q := 50) (gj_dk okX11_bar 23 rfl) (by decide) rfl ?_
        exact gj_iret (gj_dk okX11_bar 24 rfl) rfl ⟨_, rfl, rfl, h⟩
      · -- 41
        refine gj_iload (q := 43) (gj_dk okX11_bar 20 rfl) rfl rfl ?_
        refine gj_callS (q := 46) [jI a4] rfl (w_X11_canReckon hst  _) (gj_dk okX11_bar 21 rfl) ml_X11_214 me_X11_canReckon (gj_nm rfl) rfl (gj_kI fun x13 S2 M2 h12 => ?_)
        obtain ⟨bx13, px13, eS, eM⟩ := h12; subst eS; subst eM
        refine gj_if_ne (q := 49) (tgt := 51) (gj_dk okX11_bar 22 rfl) (by decide) rfl (fun c46 => ?_) (fun c46 => ?_)
        · -- 51
          refine gj_aload_n (q := 52) (gj_dk okX11_bar 25 rfl) rfl rfl ?_
          refine gj_gR (q := 55) (j := 5) (gj_dk okX11_bar 26 rfl) ff_X11_47 (sh0 hst) (by decide) rfl (rf0_5 hst) rfl ?_
          refine gj_iload (q := 57) (gj_dk okX11_bar 27 rfl) rfl rfl ?_
          refine gj_callV (q := 60) (z := 31) (ci := 4) [jI x2] rfl (w_X4_enter hst h  _) (gj_dk okX11_bar 28 rfl) ml_X11_217 me_X4_enter (sh31 hst) rfl (gj_nm rfl) rfl (gj_kV fun S2 M2 h16 => ?_)
          obtain ⟨eS, w19⟩ := h16; subst eS
          revert w19; generalize M2 = M20; intro w19
          refine gj_aload_n (q := 61) (gj_dk okX11_bar 29 rfl) rfl rfl ?_
          refine gj_gR (q := 64) (j := 5) (gj_dk okX11_bar 30 rfl) ff_X11_47 (sh0 hst) (by decide) rfl (rf0_5 hst) rfl ?_
          refine gj_iload (q := 66) (gj_dk okX11_bar 31 rfl) rfl rfl ?_
          refine gj_callS (q := 69) [jI x6] rfl (c_X10_placeOf _) (gj_dk okX11_bar 32 rfl) ml_X11_230 me_X10_placeOf (gj_nm rfl) rfl (gj_kI fun x22 S2 M2 h21 => ?_)
          obtain ⟨-, eS, eM⟩ := h21; subst eS; subst eM
          refine gj_iload_n (q := 70) (gj_dk okX11_bar 33 rfl) rfl rfl ?_
          refine gj_iload (q := 72) (gj_dk okX11_bar 34 rfl) rfl rfl ?_
          refine gj_callV (q := 75) (z := 31) (ci := 4) [jI x22, jI a3, jI a4] rfl (w_X4_leastGood hst w19  _ _ _ (by omega) (by omega)) (gj_dk okX11_bar 35 rfl) ml_X11_240 me_X4_leastGood (sh31 hst) rfl (gj_nm rfl) rfl (gj_kI fun x25 S2 M2 h24 => ?_)
          obtain ⟨eS, w27⟩ := h24; subst eS
          revert w27; generalize M2 = M28; intro w27
          exact gj_iret (gj_dk okX11_bar 36 rfl) rfl ⟨_, rfl, rfl, w27⟩
        · -- 49
          refine gj_iconst (q := 50) (gj_dk okX11_bar 23 rfl) (by decide) rfl ?_
          exact gj_iret (gj_dk okX11_bar 24 rfl) rfl ⟨_, rfl, rfl, h⟩

set_option maxHeartbeats 4000000 in
set_option maxRecDepth 20000 in
theorem w_X4_leastCow (hst : gj_Stat S) (h : w_CW M0 M) (a1 : Int) (hm : 0 ≤ a1 ∧ a1 ≤ 4) : gj_C G l 11 0 0 yX4_leastCow cX4_leastCow 9 (some .int) [jR 31, jI a1] S M (gj_qI fun x S' M' => S = S' ∧ w_CW M0 M') := by
  refine gj_Cof (by decide +kernel) (Nat.le_of_ble_eq_true rfl) ?_
  change gj_W G l 11 0 0 yX4_leastCow cX4_leastCow 9 (some .int) (gj_qI fun x S' M' => S = S' ∧ w_CW M0 M') 0 0 0 [(0, jR 31), (1, jI a1)] [] S M
  refine gj_iconst (q := 1) (gj_dk okX4_leastCow 0 rfl) (by decide) rfl ?_
  refine gj_iload_n (q := 2) (gj_dk okX4_leastCow 1 rfl) rfl rfl ?_
  refine gj_mmax (q := 5) (gj_dk okX4_leastCow 2 rfl) ml_X4_119 ⟨by omega, Nat.le_of_ble_eq_true rfl⟩ rfl ?_
  refine gj_i2l (q := 6) (gj_dk okX4_leastCow 3 rfl) rfl ?_
  refine gj_ldc2 (q := 9) (z := 1000) (gj_dk okX4_leastCow 4 rfl) kl_X4_122 (by decide) rfl ?_
  refine gj_lmul (q := 10) (gj_dk okX4_leastCow 5 rfl) rfl ?_
  refine gj_lstore_n (q := 11) (gj_dk okX4_leastCow 6 rfl) (by decide) rfl ?_
  refine gj_lconst (q := 12) (z := 0) (gj_dk okX4_leastCow 7 rfl) rfl (by decide) rfl ?_
  refine gj_lstore (q := 14) (gj_dk okX4_leastCow 8 rfl) (by decide) rfl ?_
  refine gj_iconst (q := 15) (gj_dk okX4_leastCow 9 rfl) (by decide) rfl ?_
  refine gj_istore (q := 17) (gj_dk okX4_leastCow 10 rfl) (by decide) rfl ?_
  have L17 : ∀ (k3 : Nat) (x1 x2 : Int) (M4 : gj_M), (w_CW M0 M4) → (2147483647 - x2).toNat < k3 → gj_W G l 11 0 0 yX4_leastCow cX4_leastCow 9 (some .int) (gj_qI fun x S' M' => S = S' ∧ w_CW M0 M') 0 0 17 [(0, jR 31), (1, jI a1), (2, jL (gj_wl ((f_max 1 a1) * 1000))), (4, jL x1), (6, jI x2)] [] S M4 := by
    intro k3
    induction k3 with
    | zero => intro x1 x2 M4 w5 hk17; exact absurd hk17 (Nat.not_lt_zero _)
    | succ k3 ih17 =>
      intro x1 x2 M4 w5 hk17
      refine gj_iload (q := 19) (gj_dk okX4_leastCow 11 rfl) rfl rfl ?_
      refine gj_sipush (q := 22) (gj_dk okX4_leastCow 12 rfl) (by decide) rfl rfl ?_
      refine gj_rng (fun ho22 _ _ => ?_)
      have ha22 : -2147483648 ≤ x2 ∧ x2 < 2147483648 := gj_o1 ho22
      clear ho22
      refine gj_icmp_gt (q := 25) (tgt := 105) (gj_dk okX4_leastCow 13 rfl) (by decide) rfl (fun c22 => ?_) (fun c22 => ?_)
      · -- 105
        refine gj_iconst (q := 106) (gj_dk okX4_leastCow 59 rfl) (by decide) rfl ?_
        exact gj_iret (gj_dk okX4_leastCow 60 rfl) rfl ⟨_, rfl, rfl, w5⟩
      · -- 25
        refine gj_lload (q := 27) (gj_dk okX4_leastCow 14 rfl) rfl rfl ?_
        refine gj_ldc2 (q := 30) (z := 999) (gj_dk okX4_leastCow 15 rfl) kl_X4_124 (by decide) rfl ?_
        refine gj_lcmp (q := 31) (gj_dk okX4_leastCow 16 rfl) rfl ?_
        refine gj_if_gt (q := 34) (tgt := 105) (gj_dk okX4_leastCow 17 rfl) (by decide) rfl (fun c31 => ?_) (fun c31 => ?_)
        · -- 105
          refine gj_iconst (q := 106) (gj_dk okX4_leastCow 59 rfl) (by decide) rfl ?_
          exact gj_iret (gj_dk okX4_leastCow 60 rfl) rfl ⟨_, rfl, rfl, w5⟩
        · -- 34
          refine gj_aload_n (q := 35) (gj_dk okX4_leastCow 18 rfl) rfl rfl ?_
          refine gj_lload (q := 37) (gj_dk okX4_leastCow 19 rfl) rfl rfl ?_
          refine gj_l2i (q := 38) (gj_dk okX4_leastCow 20 rfl) rfl ?_
          refine gj_pfI (q := 41) (j := 9) (gj_dk okX4_leastCow 21 rfl) ff_X4_92 (sh31 hst) (by decide) rfl rfl ?_
          refine gj_abs (fun M6 e8 => ?_)
          have w7 : w_CW M0 M6 := by rw [e8]; exact w5.up (by decide) rfl
          clear e8
          refine gj_aload_n (q := 42) (gj_dk okX4_leastCow 22 rfl) rfl rfl ?_
          refine gj_iload_n (q := 43) (gj_dk okX4_leastCow 23 rfl) rfl rfl ?_
          refine gj_aload_n (q := 44) (gj_dk okX4_leastCow 24 rfl) rfl rfl ?_
          refine gj_gI (q := 47) (j := 7) (gj_dk okX4_leastCow 25 rfl) ff_X4_80 (sh31 hst) (by decide) rfl rfl ?_
          refine gj_aload_n (q := 48) (gj_dk okX4_leastCow 26 rfl) rfl rfl ?_
          refine gj_gI (q := 51) (j := 8) (gj_dk okX4_leastCow 27 rfl) ff_X4_86 (sh31 hst) (by decide) rfl rfl ?_
          refine gj_callV (q := 54) (z := 31) (ci := 4) [jI a1, jI (M6 31 7), jI (M6 31 8)] rfl (w_X4_worthOf hst w7  _ _ _ (by omega)) (gj_dk okX4_leastCow 28 rfl) ml_X4_96 me_X4_worthOf (sh31 hst) rfl (gj_nm rfl) rfl (gj_kL fun x10 S2 M2 h9 => ?_)
          obtain ⟨eS, w12⟩ := h9; subst eS
          revert w12; generalize M2 = M13; intro w12
          refine gj_aload_n (q := 55) (gj_dk okX4_leastCow 29 rfl) rfl rfl ?_
          refine gj_aload_n (q := 56) (gj_dk okX4_leastCow 30 rfl) rfl rfl ?_
          refine gj_gI (q := 59) (j := 7) (gj_dk okX4_leastCow 31 rfl) ff_X4_80 (sh31 hst) (by decide) rfl rfl ?_
          refine gj_iload_n (q := 60) (gj_dk okX4_leastCow 32 rfl) rfl rfl ?_
          refine gj_aload_n (q := 61) (gj_dk okX4_leastCow 33 rfl) rfl rfl ?_
          refine gj_gI (q := 64) (j := 7) (gj_dk okX4_leastCow 34 rfl) ff_X4_80 (sh31 hst) (by decide) rfl rfl ?_
          refine gj_aload_n (q := 65) (gj_dk okX4_leastCow 35 rfl) rfl rfl ?_
          refine gj_gI (q := 68) (j := 8) (gj_dk okX4_leastCow 36 rfl) ff_X4_86 (sh31 hst) (by decide) rfl rfl ?_
          refine gj_callV (q := 71) (z := 31) (ci := 4) [jI (M13 31 7), jI a1, jI (M13 31 7), jI (M13 31 8)] rfl (w_X4_doing hst w12  _ _ _ _ (by omega)) (gj_dk okX4_leastCow 37 rfl) ml_X4_100 me_X4_doing (sh31 hst) rfl (gj_nm rfl) rfl (gj_kL fun x15 S2 M2 h14 => ?_)
          obtain ⟨eS, w17⟩ := h14; subst eS
          revert w17; generalize M2 = M18; intro w17
          refine gj_lsub (q := 72) (gj_dk okX4_leastCow 38 rfl) rfl ?_
          refine gj_lstore (q := 74) (gj_dk okX4_leastCow 39 rfl) (by decide) rfl ?_
          refine gj_lload (q := 76) (gj_dk okX4_leastCow 40 rfl) rfl rfl ?_
          refine gj_lconst (q := 77) (z := 0) (gj_dk okX4_leastCow 41 rfl) rfl (by decide) rfl ?_
          refine gj_lcmp (q := 78) (gj_dk okX4_leastCow 42 rfl) rfl ?_
          refine gj_if_gt (q := 81) (tgt := 86) (gj_dk okX4_leastCow 43 rfl) (by decide) rfl (fun c78 => ?_) (fun c78 => ?_)
          · -- 86
            refine gj_lload (q := 88) (gj_dk okX4_leastCow 47 rfl) rfl rfl ?_
            refine gj_lload (q := 90) (gj_dk okX4_leastCow 48 rfl) rfl rfl ?_
            refine gj_lload_n (q := 91) (gj_dk okX4_leastCow 49 rfl) rfl rfl ?_
            refine gj_ladd (q := 92) (gj_dk okX4_leastCow 50 rfl) rfl ?_
            refine gj_lconst (q := 93) (z := 1) (gj_dk okX4_leastCow 51 rfl) rfl (by decide) rfl ?_
            refine gj_lsub (q := 94) (gj_dk okX4_leastCow 52 rfl) rfl ?_
            refine gj_lload_n (q := 95) (gj_dk okX4_leastCow 53 rfl) rfl rfl ?_
            refine gj_ldiv (q := 96) (gj_dk okX4_leastCow 54 rfl) (by unfold f_max; rw [gj_wlle (by split <;> omega) (by split <;> omega)]; split <;> omega) rfl ?_
            refine gj_ladd (q := 97) (gj_dk okX4_leastCow 55 rfl) rfl ?_
            refine gj_lstore (q := 99) (gj_dk okX4_leastCow 56 rfl) (by decide) rfl ?_
            refine gj_iinc (q := 102) (v := x2 + 1) (gj_dk okX4_leastCow 57 rfl) rfl (by decide) (gj_wle (by omega) (by omega)) rfl ?_
            refine gj_goto (tgt := 17) (gj_dk okX4_leastCow 58 rfl) (by decide) ?_
            refine gj_sub [(0, jR 31), (1, jI a1), (2, jL (gj_wl ((f_max 1 a1) * 1000))), (4, jL (gj_wl (x1 + (gj_wl (Int.tdiv (gj_wl ((gj_wl ((gj_wl (x10 - x15)) + (gj_wl ((f_max 1 a1) * 1000)))) - 1)) (gj_wl ((f_max 1 a1) * 1000))))))), (6, jI (x2 + 1))] ⟨rfl, rfl, rfl, rfl, rfl, trivial⟩ ?_
            exact ih17 _ _ _ w17 (by omega)
          · -- 81
            refine gj_aload_n (q := 82) (gj_dk okX4_leastCow 44 rfl) rfl rfl ?_
            refine gj_gI (q := 85) (j := 9) (gj_dk okX4_leastCow 45 rfl) ff_X4_92 (sh31 hst) (by decide) rfl rfl ?_
            exact gj_iret (gj_dk okX4_leastCow 46 rfl) rfl ⟨_, rfl, rfl, w17⟩
  refine gj_sub [(0, jR 31), (1, jI a1), (2, jL (gj_wl ((f_max 1 a1) * 1000))), (4, jL 0), (6, jI 0)] ⟨rfl, rfl, rfl, rfl, rfl, trivial⟩ ?_
  exact L17 _ _ _ _ h (Nat.lt_succ_self _)

set_option maxHeartbeats 4000000 in
set_option maxRecDepth 20000 in
theorem w_X11_price (hst : gj_Stat S) (h : w_CW M0 M) (a1 a2 : Int)  : gj_C G l 12 0 0 yX11_price cX11_price 4 (some .int) [jR 0, jI a1, jI a2] S M (gj_qI fun x S' M' => S = S' ∧ w_CW M0 M') := by
  refine gj_Cof (by decide +kernel) (Nat.le_of_ble_eq_true rfl) ?_
  change gj_W G l 12 0 0 yX11_price cX11_price 4 (some .int) (gj_qI fun x S' M' => S = S' ∧ w_CW M0 M') 0 0 0 [(0, jR 0), (1, jI a1), (2, jI a2)] [] S M
  refine gj_aload_n (q := 1) (gj_dk okX11_price 0 rfl) rfl rfl ?_
  refine gj_gR (q := 4) (j := 3) (gj_dk okX11_price 1 rfl) ff_X11_32 (sh0 hst) (by decide) rfl (rf0_3 hst) rfl ?_
  refine gj_iload_n (q := 5) (gj_dk okX11_price 2 rfl) rfl rfl ?_
  refine gj_callV (q := 8) (z := 14) (ci := 5) [jI a1] rfl (w_X5_slotOf hst  _) (gj_dk okX11_price 3 rfl) ml_X11_131 me_X5_slotOf (sh14 hst) rfl (gj_nm rfl) rfl (gj_kI fun x2 S2 M2 h1 => ?_)
  obtain ⟨eS, eM⟩ := h1; subst eS; subst eM
  refine gj_istore_n (q := 9) (gj_dk okX11_price 4 rfl) (by decide) rfl ?_
  refine gj_iload_n (q := 10) (gj_dk okX11_price 5 rfl) rfl rfl ?_
  refine gj_iconst (q := 11) (gj_dk okX11_price 6 rfl) (by decide) rfl ?_
  refine gj_icmp_eq (q := 14) (tgt := 36) (gj_dk okX11_price 7 rfl) (by decide) rfl (fun c11 => ?_) (fun c11 => ?_)
  · -- 36
    refine gj_iconst (q := 37) (gj_dk okX11_price 18 rfl) (by decide) rfl ?_
    exact gj_iret (gj_dk okX11_price 19 rfl) rfl ⟨_, rfl, rfl, h⟩
  · -- 14
    refine gj_iload_n (q := 15) (gj_dk okX11_price 8 rfl) rfl rfl ?_
    refine gj_callS (q := 18) [jI a2] rfl (w_X11_canReckon hst  _) (gj_dk okX11_price 9 rfl) ml_X11_214 me_X11_canReckon (gj_nm rfl) rfl (gj_kI fun x6 S2 M2 h5 => ?_)
    obtain ⟨bx6, px6, eS, eM⟩ := h5; subst eS; subst eM
    refine gj_if_eq (q := 21) (tgt := 36) (gj_dk okX11_price 10 rfl) (by decide) rfl (fun c18 => ?_) (fun c18 => ?_)
    · -- 36
      refine gj_iconst (q := 37) (gj_dk okX11_price 18 rfl) (by decide) rfl ?_
      exact gj_iret (gj_dk okX11_price 19 rfl) rfl ⟨_, rfl, rfl, h⟩
    · -- 21
      refine gj_aload_n (q := 22) (gj_dk okX11_price 11 rfl) rfl rfl ?_
      refine gj_gR (q := 25) (j := 4) (gj_dk okX11_price 12 rfl) ff_X11_38 (sh0 hst) (by decide) rfl (rf0_4 hst) rfl ?_
      refine gj_gR (q := 28) (j := 3) (gj_dk okX11_price 13 rfl) ff_X11_143 (sh21 hst) (by decide) rfl (rf21_3 hst) rfl ?_
      refine gj_iload_n (q := 29) (gj_dk okX11_price 14 rfl) rfl rfl ?_
      refine gj_callS (q := 32) [jR 22, jI x2] rfl (c_X7_at (sh22 hst) (by decide) (by decide) _) (gj_dk okX11_price 15 rfl) ml_X11_139 me_X7_at (gj_nm rfl) rfl (gj_kI fun x10 S2 M2 h9 => ?_)
      obtain ⟨-, eS, eM⟩ := h9; subst eS; subst eM
      refine gj_iconst (q := 33) (gj_dk okX11_price 16 rfl) (by decide) rfl ?_
      refine gj_icmp_ne (q := 36) (tgt := 38) (gj_dk okX11_price 17 rfl) (by decide) rfl (fun c33 => ?_) (fun c33 => ?_)
      · -- 38
        refine gj_aload_n (q := 39) (gj_dk okX11_price 20 rfl) rfl rfl ?_
        refine gj_gR (q := 42) (j := 5) (gj_dk okX11_price 21 rfl) ff_X11_47 (sh0 hst) (by decide) rfl (rf0_5 hst) rfl ?_
        refine gj_iload_n (q := 43) (gj_dk okX11_price 22 rfl) rfl rfl ?_
        refine gj_callV (q := 46) (z := 31) (ci := 4) [jI x2] rfl (w_X4_enter hst h  _) (gj_dk okX11_price 23 rfl) ml_X11_217 me_X4_enter (sh31 hst) rfl (gj_nm rfl) rfl (gj_kV fun S2 M2 h12 => ?_)
        obtain ⟨eS, w15⟩ := h12; subst eS
        revert w15; generalize M2 = M16; intro w15
        refine gj_aload_n (q := 47) (gj_dk okX11_price 24 rfl) rfl rfl ?_
        refine gj_gR (q := 50) (j := 5) (gj_dk okX11_price 25 rfl) ff_X11_47 (sh0 hst) (by decide) rfl (rf0_5 hst) rfl ?_
        refine gj_iload_n (q := 51) (gj_dk okX11_price 26 rfl) rfl rfl ?_
        refine gj_callV (q := 54) (z := 31) (ci := 4) [jI a2] rfl (w_X4_leastCow hst w15  _ (by omega)) (gj_dk okX11_price 27 rfl) ml_X11_243 me_X4_leastCow (sh31 hst) rfl (gj_nm rfl) rfl (gj_kI fun x18 S2 M2 h17 => ?_)
        obtain ⟨eS, w20⟩ := h17; subst eS
        revert w20; generalize M2 = M21; intro w20
        exact gj_iret (gj_dk okX11_price 28 rfl) rfl ⟨_, rfl, rfl, w20⟩
      · -- 36
        refine gj_iconst (q := 37) (gj_dk okX11_price 18 rfl) (by decide) rfl ?_
        exact gj_iret (gj_dk okX11_price 19 rfl) rfl ⟨_, rfl, rfl, h⟩

set_option maxHeartbeats 4000000 in
set_option maxRecDepth 20000 in
theorem w_X4_shutOut (hst : gj_Stat S) (h : w_CW M0 M) (a1 : Int)  : gj_C G l 1 0 0 yX4_shutOut cX4_shutOut 2 none [jR 31, jI a1] S M (gj_qV fun S' M' => S = S' ∧ w_CW M0 M') := by
  refine gj_Cof (by decide +kernel) (Nat.le_of_ble_eq_true rfl) ?_
  change gj_W G l 1 0 0 yX4_shutOut cX4_shutOut 2 none (gj_qV fun S' M' => S = S' ∧ w_CW M0 M') 0 0 0 [(0, jR 31), (1, jI a1)] [] S M
  refine gj_aload_n (q := 1) (gj_dk okX4_shutOut 0 rfl) rfl rfl ?_
  refine gj_iload_n (q := 2) (gj_dk okX4_shutOut 1 rfl) rfl rfl ?_
  refine gj_pfI (q := 5) (j := 10) (gj_dk okX4_shutOut 2 rfl) ff_X4_93 (sh31 hst) (by decide) rfl rfl ?_
  refine gj_abs (fun M1 e3 => ?_)
  have w2 : w_CW M0 M1 := by rw [e3]; exact h.up (by decide) rfl
  clear e3
  exact gj_vret (gj_dk okX4_shutOut 3 rfl) rfl ⟨rfl, rfl, w2⟩

set_option maxHeartbeats 4000000 in
set_option maxRecDepth 20000 in
theorem w_X11_waits (hst : gj_Stat S) (h : w_CW M0 M) (a1 a2 a3 : Int)  : gj_C G l 12 0 0 yX11_waits cX11_waits 9 (some .int) [jR 0, jI a1, jI a2, jI a3] S M (gj_qI fun x S' M' => S = S' ∧ w_CW M0 M') := by
  refine gj_Cof (by decide +kernel) (Nat.le_of_ble_eq_true rfl) ?_
  change gj_W G l 12 0 0 yX11_waits cX11_waits 9 (some .int) (gj_qI fun x S' M' => S = S' ∧ w_CW M0 M') 0 0 0 [(0, jR 0), (1, jI a1), (2, jI a2), (3, jI a3)] [] S M
  refine gj_aload_n (q := 1) (gj_dk okX11_waits 0 rfl) rfl rfl ?_
  refine gj_gR (q := 4) (j := 3) (gj_dk okX11_waits 1 rfl) ff_X11_32 (sh0 hst) (by decide) rfl (rf0_3 hst) rfl ?_
  refine gj_iload_n (q := 5) (gj_dk okX11_waits 2 rfl) rfl rfl ?_
  refine gj_callV (q := 8) (z := 14) (ci := 5) [jI a1] rfl (w_X5_slotOf hst  _) (gj_dk okX11_waits 3 rfl) ml_X11_131 me_X5_slotOf (sh14 hst) rfl (gj_nm rfl) rfl (gj_kI fun x2 S2 M2 h1 => ?_)
  obtain ⟨eS, eM⟩ := h1; subst eS; subst eM
  refine gj_istore (q := 10) (gj_dk okX11_waits 4 rfl) (by decide) rfl ?_
  refine gj_aload_n (q := 11) (gj_dk okX11_waits 5 rfl) rfl rfl ?_
  refine gj_gR (q := 14) (j := 3) (gj_dk okX11_waits 6 rfl) ff_X11_32 (sh0 hst) (by decide) rfl (rf0_3 hst) rfl ?_
  refine gj_iload_n (q := 15) (gj_dk okX11_waits 7 rfl) rfl rfl ?_
  refine gj_callV (q := 18) (z := 14) (ci := 5) [jI a2] rfl (w_X5_slotOf hst  _) (gj_dk okX11_waits 8 rfl) ml_X11_131 me_X5_slotOf (sh14 hst) rfl (gj_nm rfl) rfl (gj_kI fun x6 S2 M2 h5 => ?_)
  obtain ⟨eS, eM⟩ := h5; subst eS; subst eM
  refine gj_istore (q := 20) (gj_dk okX11_waits 9 rfl) (by decide) rfl ?_
  refine gj_iload (q := 22) (gj_dk okX11_waits 10 rfl) rfl rfl ?_
  refine gj_iload (q := 24) (gj_dk okX11_waits 11 rfl) rfl rfl ?_
  refine gj_callS (q := 27) [jI x2, jI x6] rfl (c_X10_unlike _ _) (gj_dk okX11_waits 12 rfl) ml_X11_157 me_X10_unlike (gj_nm rfl) rfl (gj_kI fun x10 S2 M2 h9 => ?_)
  have bx10 : x10 = 0 ∨ x10 = 1 := by rw [← h9.1]; exact f_unl_01 _ _
  obtain ⟨-, eS, eM⟩ := h9; subst eS; subst eM
  refine gj_if_eq (q := 30) (tgt := 56) (gj_dk okX11_waits 13 rfl) (by decide) rfl (fun c27 => ?_) (fun c27 => ?_)
  · -- 56
    refine gj_ldc (q := 58) (z := -2147483648) (gj_dk okX11_waits 26 rfl) kc_X11_135 (by decide) rfl ?_
    exact gj_iret (gj_dk okX11_waits 27 rfl) rfl ⟨_, rfl, rfl, h⟩
  · -- 30
    refine gj_iload_n (q := 31) (gj_dk okX11_waits 14 rfl) rfl rfl ?_
    refine gj_iconst (q := 32) (gj_dk okX11_waits 15 rfl) (by decide) rfl ?_
    refine gj_icmp_lt (q := 35) (tgt := 56) (gj_dk okX11_waits 16 rfl) (by decide) rfl (fun c32 => ?_) (fun c32 => ?_)
    · -- 56
      refine gj_ldc (q := 58) (z := -2147483648) (gj_dk okX11_waits 26 rfl) kc_X11_135 (by decide) rfl ?_
      exact gj_iret (gj_dk okX11_waits 27 rfl) rfl ⟨_, rfl, rfl, h⟩
    · -- 35
      refine gj_iload_n (q := 36) (gj_dk okX11_waits 17 rfl) rfl rfl ?_
      refine gj_callS (q := 39) [jI a3] rfl (w_X11_canReckon hst  _) (gj_dk okX11_waits 18 rfl) ml_X11_214 me_X11_canReckon (gj_nm rfl) rfl (gj_kI fun x13 S2 M2 h12 => ?_)
      obtain ⟨bx13, px13, eS, eM⟩ := h12; subst eS; subst eM
      refine gj_if_eq (q := 42) (tgt := 56) (gj_dk okX11_waits 19 rfl) (by decide) rfl (fun c39 => ?_) (fun c39 => ?_)
      · -- 56
        refine gj_ldc (q := 58) (z := -2147483648) (gj_dk okX11_waits 26 rfl) kc_X11_135 (by decide) rfl ?_
        exact gj_iret (gj_dk okX11_waits 27 rfl) rfl ⟨_, rfl, rfl, h⟩
      · -- 42
        refine gj_aload_n (q := 43) (gj_dk okX11_waits 20 rfl) rfl rfl ?_
        refine gj_gR (q := 46) (j := 4) (gj_dk okX11_waits 21 rfl) ff_X11_38 (sh0 hst) (by decide) rfl (rf0_4 hst) rfl ?_
        refine gj_iload (q := 48) (gj_dk okX11_waits 22 rfl) rfl rfl ?_
        refine gj_iload (q := 50) (gj_dk okX11_waits 23 rfl) rfl rfl ?_
        refine gj_callV (q := 53) (z := 21) (ci := 3) [jI x2, jI x6] rfl (w_X3_arePair hst  _ _) (gj_dk okX11_waits 24 rfl) ml_X11_177 me_X3_arePair (sh21 hst) rfl (gj_nm rfl) rfl (gj_kI fun x17 S2 M2 h16 => ?_)
        obtain ⟨bx17, eS, eM⟩ := h16; subst eS; subst eM
        refine gj_if_eq (q := 56) (tgt := 59) (gj_dk okX11_waits 25 rfl) (by decide) rfl (fun c53 => ?_) (fun c53 => ?_)
        · -- 59
          refine gj_aload_n (q := 60) (gj_dk okX11_waits 28 rfl) rfl rfl ?_
          refine gj_gR (q := 63) (j := 4) (gj_dk okX11_waits 29 rfl) ff_X11_38 (sh0 hst) (by decide) rfl (rf0_4 hst) rfl ?_
          refine gj_gR (q := 66) (j := 3) (gj_dk okX11_waits 30 rfl) ff_X11_143 (sh21 hst) (by decide) rfl (rf21_3 hst) rfl ?_
          refine gj_iload (q := 68) (gj_dk okX11_waits 31 rfl) rfl rfl ?_
          refine gj_callS (q := 71) [jR 22, jI x2] rfl (c_X7_at (sh22 hst) (by decide) (by decide) _) (gj_dk okX11_waits 32 rfl) ml_X11_139 me_X7_at (gj_nm rfl) rfl (gj_kI fun x21 S2 M2 h20 => ?_)
          obtain ⟨-, eS, eM⟩ := h20; subst eS; subst eM
          refine gj_iconst (q := 72) (gj_dk okX11_waits 33 rfl) (by decide) rfl ?_
          have J86 : ∀ (x23 : Int), gj_W G l 12 0 0 yX11_waits cX11_waits 9 (some .int) (gj_qI fun x S' M' => S = S' ∧ w_CW M0 M') 0 0 86 [(0, jR 0), (3, jI a3), (4, jI x2), (5, jI x6)] [jI x23] S M := by
            intro x23
            refine gj_istore (q := 88) (gj_dk okX11_waits 40 rfl) (by decide) rfl ?_
            refine gj_ldc2 (q := 91) (z := 1000) (gj_dk okX11_waits 41 rfl) kl_X11_249 (by decide) rfl ?_
            refine gj_aload_n (q := 92) (gj_dk okX11_waits 42 rfl) rfl rfl ?_
            refine gj_gR (q := 95) (j := 3) (gj_dk okX11_waits 43 rfl) ff_X11_32 (sh0 hst) (by decide) rfl (rf0_3 hst) rfl ?_
            refine gj_gR (q := 98) (j := 10) (gj_dk okX11_waits 44 rfl) ff_X11_136 (sh14 hst) (by decide) rfl (rf14_10 hst) rfl ?_
            refine gj_iload (q := 100) (gj_dk okX11_waits 45 rfl) rfl rfl ?_
            refine gj_callS (q := 103) [jR 15, jI x2] rfl (c_X7_at (sh15 hst) (by decide) (by decide) _) (gj_dk okX11_waits 46 rfl) ml_X11_139 me_X7_at (gj_nm rfl) rfl (gj_kI fun x25 S2 M2 h24 => ?_)
            obtain ⟨-, eS, eM⟩ := h24; subst eS; subst eM
            refine gj_iload (q := 105) (gj_dk okX11_waits 47 rfl) rfl rfl ?_
            refine gj_isub (q := 106) (gj_dk okX11_waits 48 rfl) rfl ?_
            refine gj_i2l (q := 107) (gj_dk okX11_waits 49 rfl) rfl ?_
            refine gj_lmul (q := 108) (gj_dk okX11_waits 50 rfl) rfl ?_
            refine gj_lstore (q := 110) (gj_dk okX11_waits 51 rfl) (by decide) rfl ?_
            refine gj_lload (q := 112) (gj_dk okX11_waits 52 rfl) rfl rfl ?_
            refine gj_iload_n (q := 113) (gj_dk okX11_waits 53 rfl) rfl rfl ?_
            refine gj_i2l (q := 114) (gj_dk okX11_waits 54 rfl) rfl ?_
            refine gj_lconst (q := 115) (z := 1) (gj_dk okX11_waits 55 rfl) rfl (by decide) rfl ?_
            refine gj_lsub (q := 116) (gj_dk okX11_waits 56 rfl) rfl ?_
            refine gj_aload_n (q := 117) (gj_dk okX11_waits 57 rfl) rfl rfl ?_
            refine gj_gR (q := 120) (j := 6) (gj_dk okX11_waits 58 rfl) ff_X11_54 (sh0 hst) (by decide) rfl (rf0_6 hst) rfl ?_
            refine gj_iload (q := 122) (gj_dk okX11_waits 59 rfl) rfl rfl ?_
            refine gj_iload (q := 124) (gj_dk okX11_waits 60 rfl) rfl rfl ?_
            refine gj_iconst (q := 125) (gj_dk okX11_waits 61 rfl) (by decide) rfl ?_
            refine gj_callV (q := 128) (z := 35) (ci := 2) [jI x2, jI x6, jI 1] rfl (w_X2_likingOf hst  _ _ _) (gj_dk okX11_waits 62 rfl) ml_X11_202 me_X2_likingOf (sh35 hst) rfl (gj_nm rfl) rfl (gj_kI fun x28 S2 M2 h27 => ?_)
            obtain ⟨eS, eM⟩ := h27; subst eS; subst eM
            refine gj_i2l (q := 129) (gj_dk okX11_waits 63 rfl) rfl ?_
            refine gj_lmul (q := 130) (gj_dk okX11_waits 64 rfl) rfl ?_
            refine gj_ladd (q := 131) (gj_dk okX11_waits 65 rfl) rfl ?_
            refine gj_lstore (q := 133) (gj_dk okX11_waits 66 rfl) (by decide) rfl ?_
            refine gj_aload_n (q := 134) (gj_dk okX11_waits 67 rfl) rfl rfl ?_
            refine gj_gR (q := 137) (j := 5) (gj_dk okX11_waits 68 rfl) ff_X11_47 (sh0 hst) (by decide) rfl (rf0_5 hst) rfl ?_
            refine gj_iload (q := 139) (gj_dk okX11_waits 69 rfl) rfl rfl ?_
            refine gj_callV (q := 142) (z := 31) (ci := 4) [jI x2] rfl (w_X4_enter hst h  _) (gj_dk okX11_waits 70 rfl) ml_X11_217 me_X4_enter (sh31 hst) rfl (gj_nm rfl) rfl (gj_kV fun S2 M2 h31 => ?_)
            obtain ⟨eS, w34⟩ := h31; subst eS
            revert w34; generalize M2 = M35; intro w34
            refine gj_aload_n (q := 143) (gj_dk okX11_waits 71 rfl) rfl rfl ?_
            refine gj_gR (q := 146) (j := 5) (gj_dk okX11_waits 72 rfl) ff_X11_47 (sh0 hst) (by decide) rfl (rf0_5 hst) rfl ?_
            refine gj_iload (q := 148) (gj_dk okX11_waits 73 rfl) rfl rfl ?_
            refine gj_callS (q := 151) [jI x6] rfl (c_X10_placeOf _) (gj_dk okX11_waits 74 rfl) ml_X11_230 me_X10_placeOf (gj_nm rfl) rfl (gj_kI fun x37 S2 M2 h36 => ?_)
            obtain ⟨-, eS, eM⟩ := h36; subst eS; subst eM
            refine gj_callV (q := 154) (z := 31) (ci := 4) [jI x37] rfl (w_X4_shutOut hst w34  _) (gj_dk okX11_waits 75 rfl) ml_X11_251 me_X4_shutOut (sh31 hst) rfl (gj_nm rfl) rfl (gj_kV fun S2 M2 h39 => ?_)
            obtain ⟨eS, w42⟩ := h39; subst eS
            revert w42; generalize M2 = M43; intro w42
            refine gj_lload (q := 156) (gj_dk okX11_waits 76 rfl) rfl rfl ?_
            refine gj_aload_n (q := 157) (gj_dk okX11_waits 77 rfl) rfl rfl ?_
            refine gj_gR (q := 160) (j := 5) (gj_dk okX11_waits 78 rfl) ff_X11_47 (sh0 hst) (by decide) rfl (rf0_5 hst) rfl ?_
            refine gj_iload_n (q := 161) (gj_dk okX11_waits 79 rfl) rfl rfl ?_
            refine gj_callV (q := 164) (z := 31) (ci := 4) [jI a3] rfl (w_X4_bestWorth hst w42  _ (by omega)) (gj_dk okX11_waits 80 rfl) ml_X11_220 me_X4_bestWorth (sh31 hst) rfl (gj_nm rfl) rfl (gj_kL fun x45 S2 M2 h44 => ?_)
            obtain ⟨eS, w47⟩ := h44; subst eS
            revert w47; generalize M2 = M48; intro w47
            refine gj_lsub (q := 165) (gj_dk okX11_waits 81 rfl) rfl ?_
            refine gj_l2i (q := 166) (gj_dk okX11_waits 82 rfl) rfl ?_
            exact gj_iret (gj_dk okX11_waits 83 rfl) rfl ⟨_, rfl, rfl, w47⟩
          refine gj_icmp_ne (q := 75) (tgt := 79) (gj_dk okX11_waits 34 rfl) (by decide) rfl (fun c72 => ?_) (fun c72 => ?_)
          · -- 79
            refine gj_aload_n (q := 80) (gj_dk okX11_waits 37 rfl) rfl rfl ?_
            refine gj_gR (q := 83) (j := 3) (gj_dk okX11_waits 38 rfl) ff_X11_32 (sh0 hst) (by decide) rfl (rf0_3 hst) rfl ?_
            refine gj_gI (q := 86) (j := 8) (gj_dk okX11_waits 39 rfl) ff_X11_246 (sh14 hst) (by decide) rfl rfl ?_
            refine gj_sub [(0, jR 0), (3, jI a3), (4, jI x2), (5, jI x6)] ⟨rfl, rfl, rfl, rfl, trivial⟩ ?_
            exact J86 _
          · -- 75
            refine gj_iconst (q := 76) (gj_dk okX11_waits 35 rfl) (by decide) rfl ?_
            refine gj_goto (tgt := 86) (gj_dk okX11_waits 36 rfl) (by decide) ?_
            refine gj_sub [(0, jR 0), (3, jI a3), (4, jI x2), (5, jI x6)] ⟨rfl, rfl, rfl, rfl, trivial⟩ ?_
            exact J86 _
        · -- 56
          refine gj_ldc (q := 58) (z := -2147483648) (gj_dk okX11_waits 26 rfl) kc_X11_135 (by decide) rfl ?_
          exact gj_iret (gj_dk okX11_waits 27 rfl) rfl ⟨_, rfl, rfl, h⟩

set_option maxHeartbeats 4000000 in
set_option maxRecDepth 20000 in
theorem w_X11_way (hst : gj_Stat S) (h : w_CW M0 M) (a1 : Int)  : gj_C G l 3 0 0 yX11_way cX11_way 2 (some .boolean) [jR 0, jI a1] S M (gj_qI fun x S' M' => (x = 0 ∨ x = 1) ∧ S = S' ∧ w_CW M0 M') := by
  refine gj_Cof (by decide +kernel) (Nat.le_of_ble_eq_true rfl) ?_
  change gj_W G l 3 0 0 yX11_way cX11_way 2 (some .boolean) (gj_qI fun x S' M' => (x = 0 ∨ x = 1) ∧ S = S' ∧ w_CW M0 M') 0 0 0 [(0, jR 0), (1, jI a1)] [] S M
  refine gj_iload_n (q := 1) (gj_dk okX11_way 0 rfl) rfl rfl ?_
  refine gj_if_lt (q := 4) (tgt := 9) (gj_dk okX11_way 1 rfl) (by decide) rfl (fun c1 => ?_) (fun c1 => ?_)
  · -- 9
    refine gj_aload_n (q := 10) (gj_dk okX11_way 5 rfl) rfl rfl ?_
    refine gj_iconst (q := 11) (gj_dk okX11_way 6 rfl) (by decide) rfl ?_
    refine gj_callV (q := 14) (z := 0) (ci := 9) [jI 0] rfl (w_X11_refuse hst h  _) (gj_dk okX11_way 7 rfl) ml_X11_92 me_X11_refuse (sh0 hst) rfl (gj_nm rfl) rfl (gj_kI fun x2 S2 M2 h1 => ?_)
    obtain ⟨bx2, eS, w4⟩ := h1; subst eS
    revert w4; generalize M2 = M5; intro w4
    exact gj_zret (gj_dk okX11_way 8 rfl) rfl (by first | decide | assumption | omega) ⟨_, rfl, (by first | decide | assumption | omega), rfl, w4⟩
  · -- 4
    refine gj_iload_n (q := 5) (gj_dk okX11_way 2 rfl) rfl rfl ?_
    refine gj_iconst (q := 6) (gj_dk okX11_way 3 rfl) (by decide) rfl ?_
    refine gj_icmp_le (q := 9) (tgt := 15) (gj_dk okX11_way 4 rfl) (by decide) rfl (fun c6 => ?_) (fun c6 => ?_)
    · -- 15
      refine gj_aload_n (q := 16) (gj_dk okX11_way 9 rfl) rfl rfl ?_
      refine gj_gR (q := 19) (j := 4) (gj_dk okX11_way 10 rfl) ff_X11_38 (sh0 hst) (by decide) rfl (rf0_4 hst) rfl ?_
      refine gj_iload_n (q := 20) (gj_dk okX11_way 11 rfl) rfl rfl ?_
      refine gj_pfI (q := 23) (j := 1) (gj_dk okX11_way 12 rfl) ff_X11_254 (sh21 hst) (by decide) rfl rfl ?_
      refine gj_abs (fun M6 e8 => ?_)
      have w7 : w_CW M0 M6 := by rw [e8]; exact h.up (by decide) rfl
      clear e8
      refine gj_iconst (q := 24) (gj_dk okX11_way 13 rfl) (by decide) rfl ?_
      exact gj_zret (gj_dk okX11_way 14 rfl) rfl (by first | decide | assumption | omega) ⟨_, rfl, (by first | decide | assumption | omega), rfl, w7⟩
    · -- 9
      refine gj_aload_n (q := 10) (gj_dk okX11_way 5 rfl) rfl rfl ?_
      refine gj_iconst (q := 11) (gj_dk okX11_way 6 rfl) (by decide) rfl ?_
      refine gj_callV (q := 14) (z := 0) (ci := 9) [jI 0] rfl (w_X11_refuse hst h  _) (gj_dk okX11_way 7 rfl) ml_X11_92 me_X11_refuse (sh0 hst) rfl (gj_nm rfl) rfl (gj_kI fun x10 S2 M2 h9 => ?_)
      obtain ⟨bx10, eS, w12⟩ := h9; subst eS
      revert w12; generalize M2 = M13; intro w12
      exact gj_zret (gj_dk okX11_way 8 rfl) rfl (by first | decide | assumption | omega) ⟨_, rfl, (by first | decide | assumption | omega), rfl, w12⟩

set_option maxHeartbeats 4000000 in
set_option maxRecDepth 20000 in
theorem w_X11_seed (hst : gj_Stat S) (h : w_CW M0 M) (a1 : Int)  : gj_C G l 3 0 0 yX11_seed cX11_seed 2 (some .boolean) [jR 0, jI a1] S M (gj_qI fun x S' M' => (x = 0 ∨ x = 1) ∧ S = S' ∧ w_CW M0 M') := by
  refine gj_Cof (by decide +kernel) (Nat.le_of_ble_eq_true rfl) ?_
  change gj_W G l 3 0 0 yX11_seed cX11_seed 2 (some .boolean) (gj_qI fun x S' M' => (x = 0 ∨ x = 1) ∧ S = S' ∧ w_CW M0 M') 0 0 0 [(0, jR 0), (1, jI a1)] [] S M
  refine gj_iload_n (q := 1) (gj_dk okX11_seed 0 rfl) rfl rfl ?_
  refine gj_if_lt (q := 4) (tgt := 11) (gj_dk okX11_seed 1 rfl) (by decide) rfl (fun c1 => ?_) (fun c1 => ?_)
  · -- 11
    refine gj_aload_n (q := 12) (gj_dk okX11_seed 5 rfl) rfl rfl ?_
    refine gj_iconst (q := 13) (gj_dk okX11_seed 6 rfl) (by decide) rfl ?_
    refine gj_callV (q := 16) (z := 0) (ci := 9) [jI 2] rfl (w_X11_refuse hst h  _) (gj_dk okX11_seed 7 rfl) ml_X11_92 me_X11_refuse (sh0 hst) rfl (gj_nm rfl) rfl (gj_kI fun x2 S2 M2 h1 => ?_)
    obtain ⟨bx2, eS, w4⟩ := h1; subst eS
    revert w4; generalize M2 = M5; intro w4
    exact gj_zret (gj_dk okX11_seed 8 rfl) rfl (by first | decide | assumption | omega) ⟨_, rfl, (by first | decide | assumption | omega), rfl, w4⟩
  · -- 4
    refine gj_iload_n (q := 5) (gj_dk okX11_seed 2 rfl) rfl rfl ?_
    refine gj_ldcw (q := 8) (z := 1000000) (gj_dk okX11_seed 3 rfl) kc_X11_257 (by decide) rfl ?_
    refine gj_icmp_le (q := 11) (tgt := 17) (gj_dk okX11_seed 4 rfl) (by decide) rfl (fun c8 => ?_) (fun c8 => ?_)
    · -- 17
      refine gj_aload_n (q := 18) (gj_dk okX11_seed 9 rfl) rfl rfl ?_
      refine gj_gR (q := 21) (j := 4) (gj_dk okX11_seed 10 rfl) ff_X11_38 (sh0 hst) (by decide) rfl (rf0_4 hst) rfl ?_
      refine gj_iload_n (q := 22) (gj_dk okX11_seed 11 rfl) rfl rfl ?_
      refine gj_pfI (q := 25) (j := 2) (gj_dk okX11_seed 12 rfl) ff_X11_258 (sh21 hst) (by decide) rfl rfl ?_
      refine gj_abs (fun M6 e8 => ?_)
      have w7 : w_CW M0 M6 := by rw [e8]; exact h.up (by decide) rfl
      clear e8
      refine gj_iconst (q := 26) (gj_dk okX11_seed 13 rfl) (by decide) rfl ?_
      exact gj_zret (gj_dk okX11_seed 14 rfl) rfl (by first | decide | assumption | omega) ⟨_, rfl, (by first | decide | assumption | omega), rfl, w7⟩
    · -- 11
      refine gj_aload_n (q := 12) (gj_dk okX11_seed 5 rfl) rfl rfl ?_
      refine gj_iconst (q := 13) (gj_dk okX11_seed 6 rfl) (by decide) rfl ?_
      refine gj_callV (q := 16) (z := 0) (ci := 9) [jI 2] rfl (w_X11_refuse hst h  _) (gj_dk okX11_seed 7 rfl) ml_X11_92 me_X11_refuse (sh0 hst) rfl (gj_nm rfl) rfl (gj_kI fun x10 S2 M2 h9 => ?_)
      obtain ⟨bx10, eS, w12⟩ := h9; subst eS
      revert w12; generalize M2 = M13; intro w12
      exact gj_zret (gj_dk okX11_seed 8 rfl) rfl (by first | decide | assumption | omega) ⟨_, rfl, (by first | decide | assumption | omega), rfl, w12⟩

set_option maxHeartbeats 4000000 in
set_option maxRecDepth 20000 in
theorem w_X2_gather (hst : gj_Stat S) (h : w_CW M0 M) (a1 : Int)  : gj_C G l 2 0 0 yX2_gather cX2_gather 4 none [jR 35, jI a1] S M (gj_qV fun S' M' => S = S' ∧ w_CW M0 M') := by
  refine gj_Cof (by decide +kernel) (Nat.le_of_ble_eq_true rfl) ?_
  change gj_W G l 2 0 0 yX2_gather cX2_gather 4 none (gj_qV fun S' M' => S = S' ∧ w_CW M0 M') 0 0 0 [(0, jR 35), (1, jI a1)] [] S M
  refine gj_iconst (q := 1) (gj_dk okX2_gather 0 rfl) (by decide) rfl ?_
  refine gj_istore_n (q := 2) (gj_dk okX2_gather 1 rfl) (by decide) rfl ?_
  have L2 : ∀ (k2 : Nat) (x1 : Int) (M3 : gj_M), (w_CW M0 M3) → (2147483647 - x1).toNat < k2 → gj_W G l 2 0 0 yX2_gather cX2_gather 4 none (gj_qV fun S' M' => S = S' ∧ w_CW M0 M') 0 0 2 [(0, jR 35), (1, jI a1), (2, jI x1)] [] S M3 := by
    intro k2
    induction k2 with
    | zero => intro x1 M3 w4 hk2; exact absurd hk2 (Nat.not_lt_zero _)
    | succ k2 ih2 =>
      intro x1 M3 w4 hk2
      refine gj_iload_n (q := 3) (gj_dk okX2_gather 2 rfl) rfl rfl ?_
      refine gj_bipush (q := 5) (gj_dk okX2_gather 3 rfl) (by decide) rfl rfl ?_
      refine gj_rng (fun ho5 _ _ => ?_)
      have ha5 : -2147483648 ≤ x1 ∧ x1 < 2147483648 := gj_o1 ho5
      clear ho5
      refine gj_icmp_ge (q := 8) (tgt := 67) (gj_dk okX2_gather 4 rfl) (by decide) rfl (fun c5 => ?_) (fun c5 => ?_)
      · -- 67
        exact gj_vret (gj_dk okX2_gather 34 rfl) rfl ⟨rfl, rfl, w4⟩
      · -- 8
        refine gj_iload_n (q := 9) (gj_dk okX2_gather 5 rfl) rfl rfl ?_
        have J32 : ∀ (x5 : Int), (x5 = 0 ∨ x5 = 1) → gj_W G l 2 0 0 yX2_gather cX2_gather 4 none (gj_qV fun S' M' => S = S' ∧ w_CW M0 M') 0 0 32 [(0, jR 35), (1, jI a1), (2, jI x1)] [jI x5] S M3 := by
          intro x5 bx5
          refine gj_istore_n (q := 33) (gj_dk okX2_gather 17 rfl) (by decide) rfl ?_
          refine gj_aload_n (q := 34) (gj_dk okX2_gather 18 rfl) rfl rfl ?_
          refine gj_gR (q := 37) (j := 4) (gj_dk okX2_gather 19 rfl) ff_X2_19 (sh35 hst) (by decide) rfl (rf35_4 hst) rfl ?_
          refine gj_iload_n (q := 38) (gj_dk okX2_gather 20 rfl) rfl rfl ?_
          refine gj_iload_n (q := 39) (gj_dk okX2_gather 21 rfl) rfl rfl ?_
          refine gj_if_eq (q := 42) (tgt := 57) (gj_dk okX2_gather 22 rfl) (by decide) rfl (fun c39 => ?_) (fun c39 => ?_)
          · -- 57
            refine gj_iconst (q := 58) (gj_dk okX2_gather 30 rfl) (by decide) rfl ?_
            refine gj_callS (q := 61) [jR 38, jI x1, jI 0] rfl (c_X7_mark (sh38 hst) (by decide) (by decide) _ _ (by first | decide | assumption | omega)) (gj_dk okX2_gather 31 rfl) ml_X2_51 me_X7_mark (gj_nm rfl) rfl (gj_kV fun S2 M2 h6 => ?_)
            obtain ⟨eS, eM⟩ := h6; subst eS
            have w9 : w_CW M0 M2 := by rw [← eM]; exact w_CW.put w4 (by decide) (by decide)
            clear eM
            revert w9; generalize M2 = M10; intro w9
            refine gj_iinc (q := 64) (v := x1 + 1) (gj_dk okX2_gather 32 rfl) rfl (by decide) (gj_wle (by omega) (by omega)) rfl ?_
            refine gj_goto (tgt := 2) (gj_dk okX2_gather 33 rfl) (by decide) ?_
            refine gj_sub [(0, jR 35), (1, jI a1), (2, jI (x1 + 1))] ⟨rfl, rfl, rfl, trivial⟩ ?_
            exact ih2 _ _ w9 (by omega)
          · -- 42
            refine gj_aload_n (q := 43) (gj_dk okX2_gather 23 rfl) rfl rfl ?_
            refine gj_gR (q := 46) (j := 0) (gj_dk okX2_gather 24 rfl) ff_X2_28 (sh35 hst) (by decide) rfl (rf35_0 hst) rfl ?_
            refine gj_iload_n (q := 47) (gj_dk okX2_gather 25 rfl) rfl rfl ?_
            refine gj_callV (q := 50) (z := 14) (ci := 5) [jI x1] rfl (w_X5_isPerson_14 hst  _) (gj_dk okX2_gather 26 rfl) ml_X2_45 me_X5_isPerson (sh14 hst) rfl (gj_nm rfl) rfl (gj_kI fun x12 S2 M2 h11 => ?_)
            obtain ⟨bx12, eS, eM⟩ := h11; subst eS; subst eM
            refine gj_if_eq (q := 53) (tgt := 57) (gj_dk okX2_gather 27 rfl) (by decide) rfl (fun c50 => ?_) (fun c50 => ?_)
            · -- 57
              refine gj_iconst (q := 58) (gj_dk okX2_gather 30 rfl) (by decide) rfl ?_
              refine gj_callS (q := 61) [jR 38, jI x1, jI 0] rfl (c_X7_mark (sh38 hst) (by decide) (by decide) _ _ (by first | decide | assumption | omega)) (gj_dk okX2_gather 31 rfl) ml_X2_51 me_X7_mark (gj_nm rfl) rfl (gj_kV fun S2 M2 h15 => ?_)
              obtain ⟨eS, eM⟩ := h15; subst eS
              have w18 : w_CW M0 M2 := by rw [← eM]; exact w_CW.put w4 (by decide) (by decide)
              clear eM
              revert w18; generalize M2 = M19; intro w18
              refine gj_iinc (q := 64) (v := x1 + 1) (gj_dk okX2_gather 32 rfl) rfl (by decide) (gj_wle (by omega) (by omega)) rfl ?_
              refine gj_goto (tgt := 2) (gj_dk okX2_gather 33 rfl) (by decide) ?_
              refine gj_sub [(0, jR 35), (1, jI a1), (2, jI (x1 + 1))] ⟨rfl, rfl, rfl, trivial⟩ ?_
              exact ih2 _ _ w18 (by omega)
            · -- 53
              refine gj_iconst (q := 54) (gj_dk okX2_gather 28 rfl) (by decide) rfl ?_
              refine gj_goto (tgt := 58) (gj_dk okX2_gather 29 rfl) (by decide) ?_
              refine gj_callS (q := 61) [jR 38, jI x1, jI 1] rfl (c_X7_mark (sh38 hst) (by decide) (by decide) _ _ (by first | decide | assumption | omega)) (gj_dk okX2_gather 31 rfl) ml_X2_51 me_X7_mark (gj_nm rfl) rfl (gj_kV fun S2 M2 h20 => ?_)
              obtain ⟨eS, eM⟩ := h20; subst eS
              have w23 : w_CW M0 M2 := by rw [← eM]; exact w_CW.put w4 (by decide) (by decide)
              clear eM
              revert w23; generalize M2 = M24; intro w23
              refine gj_iinc (q := 64) (v := x1 + 1) (gj_dk okX2_gather 32 rfl) rfl (by decide) (gj_wle (by omega) (by omega)) rfl ?_
              refine gj_goto (tgt := 2) (gj_dk okX2_gather 33 rfl) (by decide) ?_
              refine gj_sub [(0, jR 35), (1, jI a1), (2, jI (x1 + 1))] ⟨rfl, rfl, rfl, trivial⟩ ?_
              exact ih2 _ _ w23 (by omega)
        refine gj_if_ne (q := 12) (tgt := 27) (gj_dk okX2_gather 6 rfl) (by decide) rfl (fun c9 => ?_) (fun c9 => ?_)
        · -- 27
          refine gj_iconst (q := 28) (gj_dk okX2_gather 14 rfl) (by decide) rfl ?_
          refine gj_goto (tgt := 32) (gj_dk okX2_gather 15 rfl) (by decide) ?_
          refine gj_sub [(0, jR 35), (1, jI a1), (2, jI x1)] ⟨rfl, rfl, rfl, trivial⟩ ?_
          exact J32 _ (by first | decide | assumption | omega)
        · -- 12
          refine gj_aload_n (q := 13) (gj_dk okX2_gather 7 rfl) rfl rfl ?_
          refine gj_gR (q := 16) (j := 1) (gj_dk okX2_gather 8 rfl) ff_X2_32 (sh35 hst) (by decide) rfl (rf35_1 hst) rfl ?_
          refine gj_gR (q := 19) (j := 3) (gj_dk okX2_gather 9 rfl) ff_X2_36 (sh21 hst) (by decide) rfl (rf21_3 hst) rfl ?_
          refine gj_iload_n (q := 20) (gj_dk okX2_gather 10 rfl) rfl rfl ?_
          refine gj_callS (q := 23) [jR 22, jI x1] rfl (c_X7_at (sh22 hst) (by decide) (by decide) _) (gj_dk okX2_gather 11 rfl) ml_X2_39 me_X7_at (gj_nm rfl) rfl (gj_kI fun x26 S2 M2 h25 => ?_)
          obtain ⟨-, eS, eM⟩ := h25; subst eS; subst eM
          refine gj_iconst (q := 24) (gj_dk okX2_gather 12 rfl) (by decide) rfl ?_
          refine gj_rng (fun ho24 _ _ => ?_)
          have ha24 : -2147483648 ≤ x26 ∧ x26 < 2147483648 := gj_o1 ho24
          clear ho24
          refine gj_icmp_ne (q := 27) (tgt := 31) (gj_dk okX2_gather 13 rfl) (by decide) rfl (fun c24 => ?_) (fun c24 => ?_)
          · -- 31
            refine gj_iconst (q := 32) (gj_dk okX2_gather 16 rfl) (by decide) rfl ?_
            refine gj_sub [(0, jR 35), (1, jI a1), (2, jI x1)] ⟨rfl, rfl, rfl, trivial⟩ ?_
            exact J32 _ (by first | decide | assumption | omega)
          · -- 27
            refine gj_iconst (q := 28) (gj_dk okX2_gather 14 rfl) (by decide) rfl ?_
            refine gj_goto (tgt := 32) (gj_dk okX2_gather 15 rfl) (by decide) ?_
            refine gj_sub [(0, jR 35), (1, jI a1), (2, jI x1)] ⟨rfl, rfl, rfl, trivial⟩ ?_
            exact J32 _ (by first | decide | assumption | omega)
  refine gj_sub [(0, jR 35), (1, jI a1), (2, jI 0)] ⟨rfl, rfl, rfl, trivial⟩ ?_
  exact L2 _ _ _ h (Nat.lt_succ_self _)

set_option maxHeartbeats 4000000 in
set_option maxRecDepth 20000 in
theorem w_X2_canMeet (hst : gj_Stat S) (a1 a2 : Int)  : gj_C G l 2 0 0 yX2_canMeet cX2_canMeet 3 (some .boolean) [jR 35, jI a1, jI a2] S M (gj_qI fun x S' M' => (x = 0 ∨ x = 1) ∧ S = S' ∧ M = M') := by
  refine gj_Cof (by decide +kernel) (Nat.le_of_ble_eq_true rfl) ?_
  change gj_W G l 2 0 0 yX2_canMeet cX2_canMeet 3 (some .boolean) (gj_qI fun x S' M' => (x = 0 ∨ x = 1) ∧ S = S' ∧ M = M') 0 0 0 [(0, jR 35), (1, jI a1), (2, jI a2)] [] S M
  refine gj_aload_n (q := 1) (gj_dk okX2_canMeet 0 rfl) rfl rfl ?_
  refine gj_gR (q := 4) (j := 4) (gj_dk okX2_canMeet 1 rfl) ff_X2_19 (sh35 hst) (by decide) rfl (rf35_4 hst) rfl ?_
  refine gj_iload_n (q := 5) (gj_dk okX2_canMeet 2 rfl) rfl rfl ?_
  refine gj_callS (q := 8) [jR 38, jI a1] rfl (c_X7_is (sh38 hst) (by decide) (by decide) _) (gj_dk okX2_canMeet 3 rfl) ml_X2_97 me_X7_is (gj_nm rfl) rfl (gj_kI fun x2 S2 M2 h1 => ?_)
  obtain ⟨-, eS, eM⟩ := h1; subst eS; subst eM
  refine gj_if_eq (q := 11) (tgt := 41) (gj_dk okX2_canMeet 4 rfl) (by decide) rfl (fun c8 => ?_) (fun c8 => ?_)
  · -- 41
    refine gj_iconst (q := 42) (gj_dk okX2_canMeet 19 rfl) (by decide) rfl ?_
    exact gj_zret (gj_dk okX2_canMeet 20 rfl) rfl (by first | decide | assumption | omega) ⟨_, rfl, (by first | decide | assumption | omega), rfl, rfl⟩
  · -- 11
    refine gj_aload_n (q := 12) (gj_dk okX2_canMeet 5 rfl) rfl rfl ?_
    refine gj_gR (q := 15) (j := 4) (gj_dk okX2_canMeet 6 rfl) ff_X2_19 (sh35 hst) (by decide) rfl (rf35_4 hst) rfl ?_
    refine gj_iload_n (q := 16) (gj_dk okX2_canMeet 7 rfl) rfl rfl ?_
    refine gj_callS (q := 19) [jR 38, jI a2] rfl (c_X7_is (sh38 hst) (by decide) (by decide) _) (gj_dk okX2_canMeet 8 rfl) ml_X2_97 me_X7_is (gj_nm rfl) rfl (gj_kI fun x5 S2 M2 h4 => ?_)
    obtain ⟨-, eS, eM⟩ := h4; subst eS; subst eM
    refine gj_if_eq (q := 22) (tgt := 41) (gj_dk okX2_canMeet 9 rfl) (by decide) rfl (fun c19 => ?_) (fun c19 => ?_)
    · -- 41
      refine gj_iconst (q := 42) (gj_dk okX2_canMeet 19 rfl) (by decide) rfl ?_
      exact gj_zret (gj_dk okX2_canMeet 20 rfl) rfl (by first | decide | assumption | omega) ⟨_, rfl, (by first | decide | assumption | omega), rfl, rfl⟩
    · -- 22
      refine gj_aload_n (q := 23) (gj_dk okX2_canMeet 10 rfl) rfl rfl ?_
      refine gj_gR (q := 26) (j := 3) (gj_dk okX2_canMeet 11 rfl) ff_X2_15 (sh35 hst) (by decide) rfl (rf35_3 hst) rfl ?_
      refine gj_iload_n (q := 27) (gj_dk okX2_canMeet 12 rfl) rfl rfl ?_
      refine gj_iload_n (q := 28) (gj_dk okX2_canMeet 13 rfl) rfl rfl ?_
      refine gj_callS (q := 31) [jI a1, jI a2] rfl (c_X10_couple _ _) (gj_dk okX2_canMeet 14 rfl) ml_X2_69 me_X10_couple (gj_nm rfl) rfl (gj_kI fun x8 S2 M2 h7 => ?_)
      obtain ⟨-, eS, eM⟩ := h7; subst eS; subst eM
      refine gj_callS (q := 34) [jR 37, jI x8] rfl (c_X7_is (sh37 hst) (by decide) (by decide) _) (gj_dk okX2_canMeet 15 rfl) ml_X2_97 me_X7_is (gj_nm rfl) rfl (gj_kI fun x11 S2 M2 h10 => ?_)
      obtain ⟨-, eS, eM⟩ := h10; subst eS; subst eM
      refine gj_if_eq (q := 37) (tgt := 41) (gj_dk okX2_canMeet 16 rfl) (by decide) rfl (fun c34 => ?_) (fun c34 => ?_)
      · -- 41
        refine gj_iconst (q := 42) (gj_dk okX2_canMeet 19 rfl) (by decide) rfl ?_
        exact gj_zret (gj_dk okX2_canMeet 20 rfl) rfl (by first | decide | assumption | omega) ⟨_, rfl, (by first | decide | assumption | omega), rfl, rfl⟩
      · -- 37
        refine gj_iconst (q := 38) (gj_dk okX2_canMeet 17 rfl) (by decide) rfl ?_
        refine gj_goto (tgt := 42) (gj_dk okX2_canMeet 18 rfl) (by decide) ?_
        exact gj_zret (gj_dk okX2_canMeet 20 rfl) rfl (by first | decide | assumption | omega) ⟨_, rfl, (by first | decide | assumption | omega), rfl, rfl⟩

set_option maxHeartbeats 4000000 in
set_option maxRecDepth 20000 in
theorem w_X2_soonestToAsk (hst : gj_Stat S) (a1 : Int)  : gj_C G l 4 0 0 yX2_soonestToAsk cX2_soonestToAsk 6 (some .int) [jR 35, jI a1] S M (gj_qI fun x S' M' => S = S' ∧ M = M') := by
  refine gj_Cof (by decide +kernel) (Nat.le_of_ble_eq_true rfl) ?_
  change gj_W G l 4 0 0 yX2_soonestToAsk cX2_soonestToAsk 6 (some .int) (gj_qI fun x S' M' => S = S' ∧ M = M') 0 0 0 [(0, jR 35), (1, jI a1)] [] S M
  refine gj_iconst (q := 1) (gj_dk okX2_soonestToAsk 0 rfl) (by decide) rfl ?_
  refine gj_istore_n (q := 2) (gj_dk okX2_soonestToAsk 1 rfl) (by decide) rfl ?_
  refine gj_iconst (q := 3) (gj_dk okX2_soonestToAsk 2 rfl) (by decide) rfl ?_
  refine gj_istore_n (q := 4) (gj_dk okX2_soonestToAsk 3 rfl) (by decide) rfl ?_
  have L4 : ∀ (k3 : Nat) (x1 x2 : Int), (2147483647 - x2).toNat < k3 → gj_W G l 4 0 0 yX2_soonestToAsk cX2_soonestToAsk 6 (some .int) (gj_qI fun x S' M' => S = S' ∧ M = M') 0 0 4 [(0, jR 35), (1, jI a1), (2, jI x1), (3, jI x2)] [] S M := by
    intro k3
    induction k3 with
    | zero => intro x1 x2 hk4; exact absurd hk4 (Nat.not_lt_zero _)
    | succ k3 ih4 =>
      intro x1 x2 hk4
      refine gj_iload_n (q := 5) (gj_dk okX2_soonestToAsk 4 rfl) rfl rfl ?_
      refine gj_iconst (q := 6) (gj_dk okX2_soonestToAsk 5 rfl) (by decide) rfl ?_
      refine gj_rng (fun ho6 _ _ => ?_)
      have ha6 : -2147483648 ≤ x2 ∧ x2 < 2147483648 := gj_o1 ho6
      clear ho6
      refine gj_icmp_ge (q := 9) (tgt := 79) (gj_dk okX2_soonestToAsk 6 rfl) (by decide) rfl (fun c6 => ?_) (fun c6 => ?_)
      · -- 79
        refine gj_iload_n (q := 80) (gj_dk okX2_soonestToAsk 42 rfl) rfl rfl ?_
        exact gj_iret (gj_dk okX2_soonestToAsk 43 rfl) rfl ⟨_, rfl, rfl, rfl⟩
      · -- 9
        refine gj_iload_n (q := 10) (gj_dk okX2_soonestToAsk 7 rfl) rfl rfl ?_
        refine gj_iload_n (q := 11) (gj_dk okX2_soonestToAsk 8 rfl) rfl rfl ?_
        refine gj_callS (q := 14) [jI a1, jI x2] rfl (c_X10_facing _ _) (gj_dk okX2_soonestToAsk 9 rfl) ml_X2_139 me_X10_facing (gj_nm rfl) rfl (gj_kI fun x5 S2 M2 h4 => ?_)
        obtain ⟨-, eS, eM⟩ := h4; subst eS; subst eM
        refine gj_istore (q := 16) (gj_dk okX2_soonestToAsk 10 rfl) (by decide) rfl ?_
        refine gj_aload_n (q := 17) (gj_dk okX2_soonestToAsk 11 rfl) rfl rfl ?_
        refine gj_iload_n (q := 18) (gj_dk okX2_soonestToAsk 12 rfl) rfl rfl ?_
        refine gj_iload (q := 20) (gj_dk okX2_soonestToAsk 13 rfl) rfl rfl ?_
        refine gj_callV (q := 23) (z := 35) (ci := 2) [jI a1, jI x5] rfl (w_X2_canMeet hst  _ _) (gj_dk okX2_soonestToAsk 14 rfl) ml_X2_142 me_X2_canMeet (sh35 hst) rfl (gj_nm rfl) rfl (gj_kI fun x8 S2 M2 h7 => ?_)
        obtain ⟨bx8, eS, eM⟩ := h7; subst eS; subst eM
        have J47 : ∀ (x11 : Int), (x11 = 0 ∨ x11 = 1) → gj_W G l 4 0 0 yX2_soonestToAsk cX2_soonestToAsk 6 (some .int) (gj_qI fun x S' M' => S = S' ∧ M = M') 0 0 47 [(0, jR 35), (1, jI a1), (2, jI x1), (3, jI x2), (4, jI x5)] [jI x11] S M := by
          intro x11 bx11
          refine gj_istore (q := 49) (gj_dk okX2_soonestToAsk 26 rfl) (by decide) rfl ?_
          refine gj_iload (q := 51) (gj_dk okX2_soonestToAsk 27 rfl) rfl rfl ?_
          refine gj_if_eq (q := 54) (tgt := 73) (gj_dk okX2_soonestToAsk 28 rfl) (by decide) rfl (fun c51 => ?_) (fun c51 => ?_)
          · -- 73
            refine gj_iinc (q := 76) (v := x2 + 1) (gj_dk okX2_soonestToAsk 40 rfl) rfl (by decide) (gj_wle (by omega) (by omega)) rfl ?_
            refine gj_goto (tgt := 4) (gj_dk okX2_soonestToAsk 41 rfl) (by decide) ?_
            refine gj_sub [(0, jR 35), (1, jI a1), (2, jI x1), (3, jI (x2 + 1))] ⟨rfl, rfl, rfl, rfl, trivial⟩ ?_
            exact ih4 _ _ (by omega)
          · -- 54
            refine gj_iload_n (q := 55) (gj_dk okX2_soonestToAsk 29 rfl) rfl rfl ?_
            refine gj_iconst (q := 56) (gj_dk okX2_soonestToAsk 30 rfl) (by decide) rfl ?_
            refine gj_rng (fun ho56 _ _ => ?_)
            have ha56 : -2147483648 ≤ x1 ∧ x1 < 2147483648 := gj_o1 ho56
            clear ho56
            refine gj_icmp_eq (q := 59) (tgt := 70) (gj_dk okX2_soonestToAsk 31 rfl) (by decide) rfl (fun c56 => ?_) (fun c56 => ?_)
            · -- 70
              refine gj_iload (q := 72) (gj_dk okX2_soonestToAsk 38 rfl) rfl rfl ?_
              refine gj_istore_n (q := 73) (gj_dk okX2_soonestToAsk 39 rfl) (by decide) rfl ?_
              refine gj_iinc (q := 76) (v := x2 + 1) (gj_dk okX2_soonestToAsk 40 rfl) rfl (by decide) (gj_wle (by omega) (by omega)) rfl ?_
              refine gj_goto (tgt := 4) (gj_dk okX2_soonestToAsk 41 rfl) (by decide) ?_
              refine gj_sub [(0, jR 35), (1, jI a1), (2, jI x5), (3, jI (x2 + 1))] ⟨rfl, rfl, rfl, rfl, trivial⟩ ?_
              exact ih4 _ _ (by omega)
            · -- 59
              refine gj_aload_n (q := 60) (gj_dk okX2_soonestToAsk 32 rfl) rfl rfl ?_
              refine gj_iload_n (q := 61) (gj_dk okX2_soonestToAsk 33 rfl) rfl rfl ?_
              refine gj_iload (q := 63) (gj_dk okX2_soonestToAsk 34 rfl) rfl rfl ?_
              refine gj_iload_n (q := 64) (gj_dk okX2_soonestToAsk 35 rfl) rfl rfl ?_
              refine gj_callV (q := 67) (z := 35) (ci := 2) [jI a1, jI x5, jI x1] rfl (w_X2_soonerOf hst  _ _ _) (gj_dk okX2_soonestToAsk 36 rfl) ml_X2_107 me_X2_soonerOf (sh35 hst) rfl (gj_nm rfl) rfl (gj_kI fun x13 S2 M2 h12 => ?_)
              obtain ⟨bx13, eS, eM⟩ := h12; subst eS; subst eM
              refine gj_if_eq (q := 70) (tgt := 73) (gj_dk okX2_soonestToAsk 37 rfl) (by decide) rfl (fun c67 => ?_) (fun c67 => ?_)
              · -- 73
                refine gj_iinc (q := 76) (v := x2 + 1) (gj_dk okX2_soonestToAsk 40 rfl) rfl (by decide) (gj_wle (by omega) (by omega)) rfl ?_
                refine gj_goto (tgt := 4) (gj_dk okX2_soonestToAsk 41 rfl) (by decide) ?_
                refine gj_sub [(0, jR 35), (1, jI a1), (2, jI x1), (3, jI (x2 + 1))] ⟨rfl, rfl, rfl, rfl, trivial⟩ ?_
                exact ih4 _ _ (by omega)
              · -- 70
                refine gj_iload (q := 72) (gj_dk okX2_soonestToAsk 38 rfl) rfl rfl ?_
                refine gj_istore_n (q := 73) (gj_dk okX2_soonestToAsk 39 rfl) (by decide) rfl ?_
                refine gj_iinc (q := 76) (v := x2 + 1) (gj_dk okX2_soonestToAsk 40 rfl) rfl (by decide) (gj_wle (by omega) (by omega)) rfl ?_
                refine gj_goto (tgt := 4) (gj_dk okX2_soonestToAsk 41 rfl) (by decide) ?_
                refine gj_sub [(0, jR 35), (1, jI a1), (2, jI x5), (3, jI (x2 + 1))] ⟨rfl, rfl, rfl, rfl, trivial⟩ ?_
                exact ih4 _ _ (by omega)
        refine gj_if_eq (q := 26) (tgt := 46) (gj_dk okX2_soonestToAsk 15 rfl) (by decide) rfl (fun c23 => ?_) (fun c23 => ?_)
        · -- 46
          refine gj_iconst (q := 47) (gj_dk okX2_soonestToAsk 25 rfl) (by decide) rfl ?_
          refine gj_sub [(0, jR 35), (1, jI a1), (2, jI x1), (3, jI x2), (4, jI x5)] ⟨rfl, rfl, rfl, rfl, rfl, trivial⟩ ?_
          exact J47 _ (by first | decide | assumption | omega)
        · -- 26
          refine gj_aload_n (q := 27) (gj_dk okX2_soonestToAsk 16 rfl) rfl rfl ?_
          refine gj_gR (q := 30) (j := 5) (gj_dk okX2_soonestToAsk 17 rfl) ff_X2_22 (sh35 hst) (by decide) rfl (rf35_5 hst) rfl ?_
          refine gj_iload_n (q := 31) (gj_dk okX2_soonestToAsk 18 rfl) rfl rfl ?_
          refine gj_iload (q := 33) (gj_dk okX2_soonestToAsk 19 rfl) rfl rfl ?_
          refine gj_callS (q := 36) [jI a1, jI x5] rfl (c_X10_couple _ _) (gj_dk okX2_soonestToAsk 20 rfl) ml_X2_69 me_X10_couple (gj_nm rfl) rfl (gj_kI fun x17 S2 M2 h16 => ?_)
          obtain ⟨-, eS, eM⟩ := h16; subst eS; subst eM
          refine gj_callS (q := 39) [jR 39, jI x17] rfl (c_X7_is (sh39 hst) (by decide) (by decide) _) (gj_dk okX2_soonestToAsk 21 rfl) ml_X2_97 me_X7_is (gj_nm rfl) rfl (gj_kI fun x20 S2 M2 h19 => ?_)
          obtain ⟨-, eS, eM⟩ := h19; subst eS; subst eM
          refine gj_if_ne (q := 42) (tgt := 46) (gj_dk okX2_soonestToAsk 22 rfl) (by decide) rfl (fun c39 => ?_) (fun c39 => ?_)
          · -- 46
            refine gj_iconst (q := 47) (gj_dk okX2_soonestToAsk 25 rfl) (by decide) rfl ?_
            refine gj_sub [(0, jR 35), (1, jI a1), (2, jI x1), (3, jI x2), (4, jI x5)] ⟨rfl, rfl, rfl, rfl, rfl, trivial⟩ ?_
            exact J47 _ (by first | decide | assumption | omega)
          · -- 42
            refine gj_iconst (q := 43) (gj_dk okX2_soonestToAsk 23 rfl) (by decide) rfl ?_
            refine gj_goto (tgt := 47) (gj_dk okX2_soonestToAsk 24 rfl) (by decide) ?_
            refine gj_sub [(0, jR 35), (1, jI a1), (2, jI x1), (3, jI x2), (4, jI x5)] ⟨rfl, rfl, rfl, rfl, rfl, trivial⟩ ?_
            exact J47 _ (by first | decide | assumption | omega)
  refine gj_sub [(0, jR 35), (1, jI a1), (2, jI (-1)), (3, jI 0)] ⟨rfl, rfl, rfl, rfl, trivial⟩ ?_
  exact L4 _ _ _ (Nat.lt_succ_self _)

set_option maxHeartbeats 4000000 in
set_option maxRecDepth 20000 in
theorem w_X2_tie (hst : gj_Stat S) (h : w_CW M0 M) (a1 a2 : Int)  : gj_C G l 2 0 0 yX2_tie cX2_tie 3 none [jR 35, jI a1, jI a2] S M (gj_qV fun S' M' => S = S' ∧ w_CW M0 M') := by
  refine gj_Cof (by decide +kernel) (Nat.le_of_ble_eq_true rfl) ?_
  change gj_W G l 2 0 0 yX2_tie cX2_tie 3 none (gj_qV fun S' M' => S = S' ∧ w_CW M0 M') 0 0 0 [(0, jR 35), (1, jI a1), (2, jI a2)] [] S M
  refine gj_iload_n (q := 1) (gj_dk okX2_tie 0 rfl) rfl rfl ?_
  refine gj_iconst (q := 2) (gj_dk okX2_tie 1 rfl) (by decide) rfl ?_
  refine gj_icmp_eq (q := 5) (tgt := 23) (gj_dk okX2_tie 2 rfl) (by decide) rfl (fun c2 => ?_) (fun c2 => ?_)
  · -- 23
    exact gj_vret (gj_dk okX2_tie 13 rfl) rfl ⟨rfl, rfl, h⟩
  · -- 5
    refine gj_aload_n (q := 6) (gj_dk okX2_tie 3 rfl) rfl rfl ?_
    refine gj_gR (q := 9) (j := 6) (gj_dk okX2_tie 4 rfl) ff_X2_25 (sh35 hst) (by decide) rfl (rf35_6 hst) rfl ?_
    refine gj_iload_n (q := 10) (gj_dk okX2_tie 5 rfl) rfl rfl ?_
    refine gj_iload_n (q := 11) (gj_dk okX2_tie 6 rfl) rfl rfl ?_
    refine gj_callS (q := 14) [jR 40, jI a1, jI a2] rfl (c_X7_put (sh40 hst) (by decide) (by decide) _ _) (gj_dk okX2_tie 7 rfl) ml_X2_65 me_X7_put (gj_nm rfl) rfl (gj_kV fun S2 M2 h1 => ?_)
    obtain ⟨eS, eM⟩ := h1; subst eS
    have w4 : w_CW M0 M2 := by rw [← eM]; exact w_CW.put h (by decide) (by decide)
    clear eM
    revert w4; generalize M2 = M5; intro w4
    refine gj_aload_n (q := 15) (gj_dk okX2_tie 8 rfl) rfl rfl ?_
    refine gj_gR (q := 18) (j := 6) (gj_dk okX2_tie 9 rfl) ff_X2_25 (sh35 hst) (by decide) rfl (rf35_6 hst) rfl ?_
    refine gj_iload_n (q := 19) (gj_dk okX2_tie 10 rfl) rfl rfl ?_
    refine gj_iload_n (q := 20) (gj_dk okX2_tie 11 rfl) rfl rfl ?_
    refine gj_callS (q := 23) [jR 40, jI a2, jI a1] rfl (c_X7_put (sh40 hst) (by decide) (by decide) _ _) (gj_dk okX2_tie 12 rfl) ml_X2_65 me_X7_put (gj_nm rfl) rfl (gj_kV fun S2 M2 h6 => ?_)
    obtain ⟨eS, eM⟩ := h6; subst eS
    have w9 : w_CW M0 M2 := by rw [← eM]; exact w_CW.put w4 (by decide) (by decide)
    clear eM
    revert w9; generalize M2 = M10; intro w9
    exact gj_vret (gj_dk okX2_tie 13 rfl) rfl ⟨rfl, rfl, w9⟩

set_option maxHeartbeats 4000000 in
set_option maxRecDepth 20000 in
theorem w_X2_ask (hst : gj_Stat S) (h : w_CW M0 M) (a1 a2 : Int)  : gj_C G l 4 0 0 yX2_ask cX2_ask 4 none [jR 35, jI a1, jI a2] S M (gj_qV fun S' M' => S = S' ∧ w_CW M0 M') := by
  refine gj_Cof (by decide +kernel) (Nat.le_of_ble_eq_true rfl) ?_
  change gj_W G l 4 0 0 yX2_ask cX2_ask 4 none (gj_qV fun S' M' => S = S' ∧ w_CW M0 M') 0 0 0 [(0, jR 35), (1, jI a1), (2, jI a2)] [] S M
  refine gj_iload_n (q := 1) (gj_dk okX2_ask 0 rfl) rfl rfl ?_
  refine gj_iconst (q := 2) (gj_dk okX2_ask 1 rfl) (by decide) rfl ?_
  refine gj_icmp_ne (q := 5) (tgt := 6) (gj_dk okX2_ask 2 rfl) (by decide) rfl (fun c2 => ?_) (fun c2 => ?_)
  · -- 6
    refine gj_aload_n (q := 7) (gj_dk okX2_ask 4 rfl) rfl rfl ?_
    refine gj_gR (q := 10) (j := 6) (gj_dk okX2_ask 5 rfl) ff_X2_25 (sh35 hst) (by decide) rfl (rf35_6 hst) rfl ?_
    refine gj_iload_n (q := 11) (gj_dk okX2_ask 6 rfl) rfl rfl ?_
    refine gj_callS (q := 14) [jR 40, jI a2] rfl (c_X7_at (sh40 hst) (by decide) (by decide) _) (gj_dk okX2_ask 7 rfl) ml_X2_39 me_X7_at (gj_nm rfl) rfl (gj_kI fun x2 S2 M2 h1 => ?_)
    obtain ⟨-, eS, eM⟩ := h1; subst eS; subst eM
    refine gj_istore_n (q := 15) (gj_dk okX2_ask 8 rfl) (by decide) rfl ?_
    refine gj_iload_n (q := 16) (gj_dk okX2_ask 9 rfl) rfl rfl ?_
    refine gj_iconst (q := 17) (gj_dk okX2_ask 10 rfl) (by decide) rfl ?_
    refine gj_icmp_eq (q := 20) (tgt := 44) (gj_dk okX2_ask 11 rfl) (by decide) rfl (fun c17 => ?_) (fun c17 => ?_)
    · -- 44
      refine gj_iload_n (q := 45) (gj_dk okX2_ask 26 rfl) rfl rfl ?_
      refine gj_iconst (q := 46) (gj_dk okX2_ask 27 rfl) (by decide) rfl ?_
      refine gj_icmp_eq (q := 49) (tgt := 71) (gj_dk okX2_ask 28 rfl) (by decide) rfl (fun c46 => ?_) (fun c46 => ?_)
      · -- 71
        refine gj_aload_n (q := 72) (gj_dk okX2_ask 41 rfl) rfl rfl ?_
        refine gj_iload_n (q := 73) (gj_dk okX2_ask 42 rfl) rfl rfl ?_
        refine gj_iload_n (q := 74) (gj_dk okX2_ask 43 rfl) rfl rfl ?_
        refine gj_callV (q := 77) (z := 35) (ci := 2) [jI a1, jI a2] rfl (w_X2_tie hst h  _ _) (gj_dk okX2_ask 44 rfl) ml_X2_145 me_X2_tie (sh35 hst) rfl (gj_nm rfl) rfl (gj_kV fun S2 M2 h4 => ?_)
        obtain ⟨eS, w7⟩ := h4; subst eS
        revert w7; generalize M2 = M8; intro w7
        exact gj_vret (gj_dk okX2_ask 45 rfl) rfl ⟨rfl, rfl, w7⟩
      · -- 49
        refine gj_aload_n (q := 50) (gj_dk okX2_ask 29 rfl) rfl rfl ?_
        refine gj_gR (q := 53) (j := 5) (gj_dk okX2_ask 30 rfl) ff_X2_22 (sh35 hst) (by decide) rfl (rf35_5 hst) rfl ?_
        refine gj_iload_n (q := 54) (gj_dk okX2_ask 31 rfl) rfl rfl ?_
        refine gj_iload_n (q := 55) (gj_dk okX2_ask 32 rfl) rfl rfl ?_
        refine gj_callS (q := 58) [jI x2, jI a2] rfl (c_X10_couple _ _) (gj_dk okX2_ask 33 rfl) ml_X2_69 me_X10_couple (gj_nm rfl) rfl (gj_kI fun x10 S2 M2 h9 => ?_)
        obtain ⟨-, eS, eM⟩ := h9; subst eS; subst eM
        refine gj_iconst (q := 59) (gj_dk okX2_ask 34 rfl) (by decide) rfl ?_
        refine gj_callS (q := 62) [jR 39, jI x10, jI 1] rfl (c_X7_mark (sh39 hst) (by decide) (by decide) _ _ (by first | decide | assumption | omega)) (gj_dk okX2_ask 35 rfl) ml_X2_51 me_X7_mark (gj_nm rfl) rfl (gj_kV fun S2 M2 h12 => ?_)
        obtain ⟨eS, eM⟩ := h12; subst eS
        have w15 : w_CW M0 M2 := by rw [← eM]; exact w_CW.put h (by decide) (by decide)
        clear eM
        revert w15; generalize M2 = M16; intro w15
        refine gj_aload_n (q := 63) (gj_dk okX2_ask 36 rfl) rfl rfl ?_
        refine gj_gR (q := 66) (j := 6) (gj_dk okX2_ask 37 rfl) ff_X2_25 (sh35 hst) (by decide) rfl (rf35_6 hst) rfl ?_
        refine gj_iload_n (q := 67) (gj_dk okX2_ask 38 rfl) rfl rfl ?_
        refine gj_iconst (q := 68) (gj_dk okX2_ask 39 rfl) (by decide) rfl ?_
        refine gj_callS (q := 71) [jR 40, jI x2, jI (-1)] rfl (c_X7_put (sh40 hst) (by decide) (by decide) _ _) (gj_dk okX2_ask 40 rfl) ml_X2_65 me_X7_put (gj_nm rfl) rfl (gj_kV fun S2 M2 h17 => ?_)
        obtain ⟨eS, eM⟩ := h17; subst eS
        have w20 : w_CW M0 M2 := by rw [← eM]; exact w_CW.put w15 (by decide) (by decide)
        clear eM
        revert w20; generalize M2 = M21; intro w20
        refine gj_aload_n (q := 72) (gj_dk okX2_ask 41 rfl) rfl rfl ?_
        refine gj_iload_n (q := 73) (gj_dk okX2_ask 42 rfl) rfl rfl ?_
        refine gj_iload_n (q := 74) (gj_dk okX2_ask 43 rfl) rfl rfl ?_
        refine gj_callV (q := 77) (z := 35) (ci := 2) [jI a1, jI a2] rfl (w_X2_tie hst w20  _ _) (gj_dk okX2_ask 44 rfl) ml_X2_145 me_X2_tie (sh35 hst) rfl (gj_nm rfl) rfl (gj_kV fun S2 M2 h22 => ?_)
        obtain ⟨eS, w25⟩ := h22; subst eS
        revert w25; generalize M2 = M26; intro w25
        exact gj_vret (gj_dk okX2_ask 45 rfl) rfl ⟨rfl, rfl, w25⟩
    · -- 20
      refine gj_aload_n (q := 21) (gj_dk okX2_ask 12 rfl) rfl rfl ?_
      refine gj_iload_n (q := 22) (gj_dk okX2_ask 13 rfl) rfl rfl ?_
      refine gj_iload_n (q := 23) (gj_dk okX2_ask 14 rfl) rfl rfl ?_
      refine gj_iload_n (q := 24) (gj_dk okX2_ask 15 rfl) rfl rfl ?_
      refine gj_callV (q := 27) (z := 35) (ci := 2) [jI a2, jI a1, jI x2] rfl (w_X2_soonerOf hst  _ _ _) (gj_dk okX2_ask 16 rfl) ml_X2_107 me_X2_soonerOf (sh35 hst) rfl (gj_nm rfl) rfl (gj_kI fun x28 S2 M2 h27 => ?_)
      obtain ⟨bx28, eS, eM⟩ := h27; subst eS; subst eM
      refine gj_if_ne (q := 30) (tgt := 44) (gj_dk okX2_ask 17 rfl) (by decide) rfl (fun c27 => ?_) (fun c27 => ?_)
      · -- 44
        refine gj_iload_n (q := 45) (gj_dk okX2_ask 26 rfl) rfl rfl ?_
        refine gj_iconst (q := 46) (gj_dk okX2_ask 27 rfl) (by decide) rfl ?_
        refine gj_icmp_eq (q := 49) (tgt := 71) (gj_dk okX2_ask 28 rfl) (by decide) rfl (fun c46 => ?_) (fun c46 => ?_)
        · -- 71
          refine gj_aload_n (q := 72) (gj_dk okX2_ask 41 rfl) rfl rfl ?_
          refine gj_iload_n (q := 73) (gj_dk okX2_ask 42 rfl) rfl rfl ?_
          refine gj_iload_n (q := 74) (gj_dk okX2_ask 43 rfl) rfl rfl ?_
          refine gj_callV (q := 77) (z := 35) (ci := 2) [jI a1, jI a2] rfl (w_X2_tie hst h  _ _) (gj_dk okX2_ask 44 rfl) ml_X2_145 me_X2_tie (sh35 hst) rfl (gj_nm rfl) rfl (gj_kV fun S2 M2 h31 => ?_)
          obtain ⟨eS, w34⟩ := h31; subst eS
          revert w34; generalize M2 = M35; intro w34
          exact gj_vret (gj_dk okX2_ask 45 rfl) rfl ⟨rfl, rfl, w34⟩
        · -- 49
          refine gj_aload_n (q := 50) (gj_dk okX2_ask 29 rfl) rfl rfl ?_
          refine gj_gR (q := 53) (j := 5) (gj_dk okX2_ask 30 rfl) ff_X2_22 (sh35 hst) (by decide) rfl (rf35_5 hst) rfl ?_
          refine gj_iload_n (q := 54) (gj_dk okX2_ask 31 rfl) rfl rfl ?_
          refine gj_iload_n (q := 55) (gj_dk okX2_ask 32 rfl) rfl rfl ?_
          refine gj_callS (q := 58) [jI x2, jI a2] rfl (c_X10_couple _ _) (gj_dk okX2_ask 33 rfl) ml_X2_69 me_X10_couple (gj_nm rfl) rfl (gj_kI fun x37 S2 M2 h36 => ?_)
          obtain ⟨-, eS, eM⟩ := h36; subst eS; subst eM
          refine gj_iconst (q := 59) (gj_dk okX2_ask 34 rfl) (by decide) rfl ?_
          refine gj_callS (q := 62) [jR 39, jI x37, jI 1] rfl (c_X7_mark (sh39 hst) (by decide) (by decide) _ _ (by first | decide | assumption | omega)) (gj_dk okX2_ask 35 rfl) ml_X2_51 me_X7_mark (gj_nm rfl) rfl (gj_kV fun S2 M2 h39 => ?_)
          obtain ⟨eS, eM⟩ := h39; subst eS
          have w42 : w_CW M0 M2 := by rw [← eM]; exact w_CW.put h (by decide) (by decide)
          clear eM
          revert w42; generalize M2 = M43; intro w42
          refine gj_aload_n (q := 63) (gj_dk okX2_ask 36 rfl) rfl rfl ?_
          refine gj_gR (q := 66) (j := 6) (gj_dk okX2_ask 37 rfl) ff_X2_25 (sh35 hst) (by decide) rfl (rf35_6 hst) rfl ?_
          refine gj_iload_n (q := 67) (gj_dk okX2_ask 38 rfl) rfl rfl ?_
          refine gj_iconst (q := 68) (gj_dk okX2_ask 39 rfl) (by decide) rfl ?_
          refine gj_callS (q := 71) [jR 40, jI x2, jI (-1)] rfl (c_X7_put (sh40 hst) (by decide) (by decide) _ _) (gj_dk okX2_ask 40 rfl) ml_X2_65 me_X7_put (gj_nm rfl) rfl (gj_kV fun S2 M2 h44 => ?_)
          obtain ⟨eS, eM⟩ := h44; subst eS
          have w47 : w_CW M0 M2 := by rw [← eM]; exact w_CW.put w42 (by decide) (by decide)
          clear eM
          revert w47; generalize M2 = M48; intro w47
          refine gj_aload_n (q := 72) (gj_dk okX2_ask 41 rfl) rfl rfl ?_
          refine gj_iload_n (q := 73) (gj_dk okX2_ask 42 rfl) rfl rfl ?_
          refine gj_iload_n (q := 74) (gj_dk okX2_ask 43 rfl) rfl rfl ?_
          refine gj_callV (q := 77) (z := 35) (ci := 2) [jI a1, jI a2] rfl (w_X2_tie hst w47  _ _) (gj_dk okX2_ask 44 rfl) ml_X2_145 me_X2_tie (sh35 hst) rfl (gj_nm rfl) rfl (gj_kV fun S2 M2 h49 => ?_)
          obtain ⟨eS, w52⟩ := h49; subst eS
          revert w52; generalize M2 = M53; intro w52
          exact gj_vret (gj_dk okX2_ask 45 rfl) rfl ⟨rfl, rfl, w52⟩
      · -- 30
        refine gj_aload_n (q := 31) (gj_dk okX2_ask 18 rfl) rfl rfl ?_
        refine gj_gR (q := 34) (j := 5) (gj_dk okX2_ask 19 rfl) ff_X2_22 (sh35 hst) (by decide) rfl (rf35_5 hst) rfl ?_
        refine gj_iload_n (q := 35) (gj_dk okX2_ask 20 rfl) rfl rfl ?_
        refine gj_iload_n (q := 36) (gj_dk okX2_ask 21 rfl) rfl rfl ?_
        refine gj_callS (q := 39) [jI a1, jI a2] rfl (c_X10_couple _ _) (gj_dk okX2_ask 22 rfl) ml_X2_69 me_X10_couple (gj_nm rfl) rfl (gj_kI fun x55 S2 M2 h54 => ?_)
        obtain ⟨-, eS, eM⟩ := h54; subst eS; subst eM
        refine gj_iconst (q := 40) (gj_dk okX2_ask 23 rfl) (by decide) rfl ?_
        refine gj_callS (q := 43) [jR 39, jI x55, jI 1] rfl (c_X7_mark (sh39 hst) (by decide) (by decide) _ _ (by first | decide | assumption | omega)) (gj_dk okX2_ask 24 rfl) ml_X2_51 me_X7_mark (gj_nm rfl) rfl (gj_kV fun S2 M2 h57 => ?_)
        obtain ⟨eS, eM⟩ := h57; subst eS
        have w60 : w_CW M0 M2 := by rw [← eM]; exact w_CW.put h (by decide) (by decide)
        clear eM
        revert w60; generalize M2 = M61; intro w60
        exact gj_vret (gj_dk okX2_ask 25 rfl) rfl ⟨rfl, rfl, w60⟩
  · -- 5
    exact gj_vret (gj_dk okX2_ask 3 rfl) rfl ⟨rfl, rfl, h⟩

set_option maxHeartbeats 4000000 in
set_option maxRecDepth 20000 in
theorem w_X2_askAll (hst : gj_Stat S) (h : w_CW M0 M) (a1 : Int)  : gj_C G l 5 0 0 yX2_askAll cX2_askAll 4 none [jR 35, jI a1] S M (gj_qV fun S' M' => S = S' ∧ w_CW M0 M') := by
  refine gj_Cof (by decide +kernel) (Nat.le_of_ble_eq_true rfl) ?_
  change gj_W G l 5 0 0 yX2_askAll cX2_askAll 4 none (gj_qV fun S' M' => S = S' ∧ w_CW M0 M') 0 0 0 [(0, jR 35), (1, jI a1)] [] S M
  refine gj_iconst (q := 1) (gj_dk okX2_askAll 0 rfl) (by decide) rfl ?_
  refine gj_istore_n (q := 2) (gj_dk okX2_askAll 1 rfl) (by decide) rfl ?_
  have L2 : ∀ (k2 : Nat) (x1 : Int) (M3 : gj_M), (w_CW M0 M3) → (2147483647 - x1).toNat < k2 → gj_W G l 5 0 0 yX2_askAll cX2_askAll 4 none (gj_qV fun S' M' => S = S' ∧ w_CW M0 M') 0 0 2 [(0, jR 35), (1, jI a1), (2, jI x1)] [] S M3 := by
    intro k2
    induction k2 with
    | zero => intro x1 M3 w4 hk2; exact absurd hk2 (Nat.not_lt_zero _)
    | succ k2 ih2 =>
      intro x1 M3 w4 hk2
      refine gj_iload_n (q := 3) (gj_dk okX2_askAll 2 rfl) rfl rfl ?_
      refine gj_bipush (q := 5) (gj_dk okX2_askAll 3 rfl) (by decide) rfl rfl ?_
      refine gj_rng (fun ho5 _ _ => ?_)
      have ha5 : -2147483648 ≤ x1 ∧ x1 < 2147483648 := gj_o1 ho5
      clear ho5
      refine gj_icmp_gt (q := 8) (tgt := 51) (gj_dk okX2_askAll 4 rfl) (by decide) rfl (fun c5 => ?_) (fun c5 => ?_)
      · -- 51
        exact gj_vret (gj_dk okX2_askAll 28 rfl) rfl ⟨rfl, rfl, w4⟩
      · -- 8
        refine gj_iload_n (q := 9) (gj_dk okX2_askAll 5 rfl) rfl rfl ?_
        refine gj_istore_n (q := 10) (gj_dk okX2_askAll 6 rfl) (by decide) rfl ?_
        have L10 : ∀ (k6 : Nat) (x5 : Int) (M7 : gj_M), (w_CW M0 M7) → (2147483647 - x5).toNat < k6 → gj_W G l 5 0 0 yX2_askAll cX2_askAll 4 none (gj_qV fun S' M' => S = S' ∧ w_CW M0 M') 0 0 10 [(0, jR 35), (1, jI a1), (2, jI x1), (3, jI x5)] [] S M7 := by
          intro k6
          induction k6 with
          | zero => intro x5 M7 w8 hk10; exact absurd hk10 (Nat.not_lt_zero _)
          | succ k6 ih10 =>
            intro x5 M7 w8 hk10
            refine gj_iload_n (q := 11) (gj_dk okX2_askAll 7 rfl) rfl rfl ?_
            refine gj_iload_n (q := 12) (gj_dk okX2_askAll 8 rfl) rfl rfl ?_
            refine gj_iconst (q := 13) (gj_dk okX2_askAll 9 rfl) (by decide) rfl ?_
            refine gj_iadd (q := 14) (gj_dk okX2_askAll 10 rfl) rfl ?_
            refine gj_rng (fun ho14 _ _ => ?_)
            have hb14 : -2147483648 ≤ gj_w (a1 + 4) ∧ gj_w (a1 + 4) < 2147483648 := gj_o0 ho14
            have ha14 : -2147483648 ≤ x5 ∧ x5 < 2147483648 := gj_o1 ho14
            clear ho14
            refine gj_icmp_ge (q := 17) (tgt := 45) (gj_dk okX2_askAll 11 rfl) (by decide) rfl (fun c14 => ?_) (fun c14 => ?_)
            · -- 45
              refine gj_iinc (q := 48) (v := x1 + 1) (gj_dk okX2_askAll 26 rfl) rfl (by decide) (gj_wle (by omega) (by omega)) rfl ?_
              refine gj_goto (tgt := 2) (gj_dk okX2_askAll 27 rfl) (by decide) ?_
              refine gj_sub [(0, jR 35), (1, jI a1), (2, jI (x1 + 1))] ⟨rfl, rfl, rfl, trivial⟩ ?_
              exact ih2 _ _ w8 (by omega)
            · -- 17
              refine gj_aload_n (q := 18) (gj_dk okX2_askAll 12 rfl) rfl rfl ?_
              refine gj_gR (q := 21) (j := 6) (gj_dk okX2_askAll 13 rfl) ff_X2_25 (sh35 hst) (by decide) rfl (rf35_6 hst) rfl ?_
              refine gj_iload_n (q := 22) (gj_dk okX2_askAll 14 rfl) rfl rfl ?_
              refine gj_callS (q := 25) [jR 40, jI x5] rfl (c_X7_at (sh40 hst) (by decide) (by decide) _) (gj_dk okX2_askAll 15 rfl) ml_X2_39 me_X7_at (gj_nm rfl) rfl (gj_kI fun x10 S2 M2 h9 => ?_)
              obtain ⟨-, eS, eM⟩ := h9; subst eS; subst eM
              refine gj_iconst (q := 26) (gj_dk okX2_askAll 16 rfl) (by decide) rfl ?_
              refine gj_rng (fun ho26 _ _ => ?_)
              have ha26 : -2147483648 ≤ x10 ∧ x10 < 2147483648 := gj_o1 ho26
              clear ho26
              refine gj_icmp_ne (q := 29) (tgt := 39) (gj_dk okX2_askAll 17 rfl) (by decide) rfl (fun c26 => ?_) (fun c26 => ?_)
              · -- 39
                refine gj_iinc (q := 42) (v := x5 + 1) (gj_dk okX2_askAll 24 rfl) rfl (by decide) (gj_wle (by omega) (by omega)) rfl ?_
                refine gj_goto (tgt := 10) (gj_dk okX2_askAll 25 rfl) (by decide) ?_
                refine gj_sub [(0, jR 35), (1, jI a1), (2, jI x1), (3, jI (x5 + 1))] ⟨rfl, rfl, rfl, rfl, trivial⟩ ?_
                exact ih10 _ _ w8 (by omega)
              · -- 29
                refine gj_aload_n (q := 30) (gj_dk okX2_askAll 18 rfl) rfl rfl ?_
                refine gj_iload_n (q := 31) (gj_dk okX2_askAll 19 rfl) rfl rfl ?_
                refine gj_aload_n (q := 32) (gj_dk okX2_askAll 20 rfl) rfl rfl ?_
                refine gj_iload_n (q := 33) (gj_dk okX2_askAll 21 rfl) rfl rfl ?_
                refine gj_callV (q := 36) (z := 35) (ci := 2) [jI x5] rfl (w_X2_soonestToAsk hst  _) (gj_dk okX2_askAll 22 rfl) ml_X2_131 me_X2_soonestToAsk (sh35 hst) rfl (gj_nm rfl) rfl (gj_kI fun x13 S2 M2 h12 => ?_)
                obtain ⟨eS, eM⟩ := h12; subst eS; subst eM
                refine gj_callV (q := 39) (z := 35) (ci := 2) [jI x5, jI x13] rfl (w_X2_ask hst w8  _ _) (gj_dk okX2_askAll 23 rfl) ml_X2_135 me_X2_ask (sh35 hst) rfl (gj_nm rfl) rfl (gj_kV fun S2 M2 h16 => ?_)
                obtain ⟨eS, w19⟩ := h16; subst eS
                revert w19; generalize M2 = M20; intro w19
                refine gj_iinc (q := 42) (v := x5 + 1) (gj_dk okX2_askAll 24 rfl) rfl (by decide) (gj_wle (by omega) (by omega)) rfl ?_
                refine gj_goto (tgt := 10) (gj_dk okX2_askAll 25 rfl) (by decide) ?_
                refine gj_sub [(0, jR 35), (1, jI a1), (2, jI x1), (3, jI (x5 + 1))] ⟨rfl, rfl, rfl, rfl, trivial⟩ ?_
                exact ih10 _ _ w19 (by omega)
        refine gj_sub [(0, jR 35), (1, jI a1), (2, jI x1), (3, jI a1)] ⟨rfl, rfl, rfl, rfl, trivial⟩ ?_
        exact L10 _ _ _ w4 (Nat.lt_succ_self _)
  refine gj_sub [(0, jR 35), (1, jI a1), (2, jI 0)] ⟨rfl, rfl, rfl, trivial⟩ ?_
  exact L2 _ _ _ h (Nat.lt_succ_self _)

set_option maxHeartbeats 4000000 in
set_option maxRecDepth 20000 in
theorem w_X2_isLeftFor (hst : gj_Stat S) (a1 a2 : Int)  : gj_C G l 3 0 0 yX2_isLeftFor cX2_isLeftFor 3 (some .boolean) [jR 35, jI a1, jI a2] S M (gj_qI fun x S' M' => (x = 0 ∨ x = 1) ∧ S = S' ∧ M = M') := by
  refine gj_Cof (by decide +kernel) (Nat.le_of_ble_eq_true rfl) ?_
  change gj_W G l 3 0 0 yX2_isLeftFor cX2_isLeftFor 3 (some .boolean) (gj_qI fun x S' M' => (x = 0 ∨ x = 1) ∧ S = S' ∧ M = M') 0 0 0 [(0, jR 35), (1, jI a1), (2, jI a2)] [] S M
  refine gj_aload_n (q := 1) (gj_dk okX2_isLeftFor 0 rfl) rfl rfl ?_
  refine gj_iload_n (q := 2) (gj_dk okX2_isLeftFor 1 rfl) rfl rfl ?_
  refine gj_iload_n (q := 3) (gj_dk okX2_isLeftFor 2 rfl) rfl rfl ?_
  refine gj_callV (q := 6) (z := 35) (ci := 2) [jI a1, jI a2] rfl (w_X2_canMeet hst  _ _) (gj_dk okX2_isLeftFor 3 rfl) ml_X2_142 me_X2_canMeet (sh35 hst) rfl (gj_nm rfl) rfl (gj_kI fun x2 S2 M2 h1 => ?_)
  obtain ⟨bx2, eS, eM⟩ := h1; subst eS; subst eM
  refine gj_if_eq (q := 9) (tgt := 25) (gj_dk okX2_isLeftFor 4 rfl) (by decide) rfl (fun c6 => ?_) (fun c6 => ?_)
  · -- 25
    refine gj_iconst (q := 26) (gj_dk okX2_isLeftFor 13 rfl) (by decide) rfl ?_
    exact gj_zret (gj_dk okX2_isLeftFor 14 rfl) rfl (by first | decide | assumption | omega) ⟨_, rfl, (by first | decide | assumption | omega), rfl, rfl⟩
  · -- 9
    refine gj_aload_n (q := 10) (gj_dk okX2_isLeftFor 5 rfl) rfl rfl ?_
    refine gj_gR (q := 13) (j := 6) (gj_dk okX2_isLeftFor 6 rfl) ff_X2_25 (sh35 hst) (by decide) rfl (rf35_6 hst) rfl ?_
    refine gj_iload_n (q := 14) (gj_dk okX2_isLeftFor 7 rfl) rfl rfl ?_
    refine gj_callS (q := 17) [jR 40, jI a2] rfl (c_X7_at (sh40 hst) (by decide) (by decide) _) (gj_dk okX2_isLeftFor 8 rfl) ml_X2_39 me_X7_at (gj_nm rfl) rfl (gj_kI fun x6 S2 M2 h5 => ?_)
    obtain ⟨-, eS, eM⟩ := h5; subst eS; subst eM
    refine gj_iconst (q := 18) (gj_dk okX2_isLeftFor 9 rfl) (by decide) rfl ?_
    refine gj_icmp_ne (q := 21) (tgt := 25) (gj_dk okX2_isLeftFor 10 rfl) (by decide) rfl (fun c18 => ?_) (fun c18 => ?_)
    · -- 25
      refine gj_iconst (q := 26) (gj_dk okX2_isLeftFor 13 rfl) (by decide) rfl ?_
      exact gj_zret (gj_dk okX2_isLeftFor 14 rfl) rfl (by first | decide | assumption | omega) ⟨_, rfl, (by first | decide | assumption | omega), rfl, rfl⟩
    · -- 21
      refine gj_iconst (q := 22) (gj_dk okX2_isLeftFor 11 rfl) (by decide) rfl ?_
      refine gj_goto (tgt := 26) (gj_dk okX2_isLeftFor 12 rfl) (by decide) ?_
      exact gj_zret (gj_dk okX2_isLeftFor 14 rfl) rfl (by first | decide | assumption | omega) ⟨_, rfl, (by first | decide | assumption | omega), rfl, rfl⟩

set_option maxHeartbeats 4000000 in
set_option maxRecDepth 20000 in
theorem w_X2_takeTurns (hst : gj_Stat S) (h : w_CW M0 M)   : gj_C G l 4 0 0 yX2_takeTurns cX2_takeTurns 4 none [jR 35] S M (gj_qV fun S' M' => S = S' ∧ w_CW M0 M') := by
  refine gj_Cof (by decide +kernel) (Nat.le_of_ble_eq_true rfl) ?_
  change gj_W G l 4 0 0 yX2_takeTurns cX2_takeTurns 4 none (gj_qV fun S' M' => S = S' ∧ w_CW M0 M') 0 0 0 [(0, jR 35)] [] S M
  refine gj_iconst (q := 1) (gj_dk okX2_takeTurns 0 rfl) (by decide) rfl ?_
  refine gj_istore_n (q := 2) (gj_dk okX2_takeTurns 1 rfl) (by decide) rfl ?_
  have L2 : ∀ (k2 : Nat) (x1 : Int) (M3 : gj_M), (w_CW M0 M3) → (2147483647 - x1).toNat < k2 → gj_W G l 4 0 0 yX2_takeTurns cX2_takeTurns 4 none (gj_qV fun S' M' => S = S' ∧ w_CW M0 M') 0 0 2 [(0, jR 35), (1, jI x1)] [] S M3 := by
    intro k2
    induction k2 with
    | zero => intro x1 M3 w4 hk2; exact absurd hk2 (Nat.not_lt_zero _)
    | succ k2 ih2 =>
      intro x1 M3 w4 hk2
      refine gj_iload_n (q := 3) (gj_dk okX2_takeTurns 2 rfl) rfl rfl ?_
      refine gj_iconst (q := 4) (gj_dk okX2_takeTurns 3 rfl) (by decide) rfl ?_
      refine gj_rng (fun ho4 _ _ => ?_)
      have ha4 : -2147483648 ≤ x1 ∧ x1 < 2147483648 := gj_o1 ho4
      clear ho4
      refine gj_icmp_ge (q := 7) (tgt := 61) (gj_dk okX2_takeTurns 4 rfl) (by decide) rfl (fun c4 => ?_) (fun c4 => ?_)
      · -- 61
        exact gj_vret (gj_dk okX2_takeTurns 36 rfl) rfl ⟨rfl, rfl, w4⟩
      · -- 7
        refine gj_iconst (q := 8) (gj_dk okX2_takeTurns 5 rfl) (by decide) rfl ?_
        refine gj_istore_n (q := 9) (gj_dk okX2_takeTurns 6 rfl) (by decide) rfl ?_
        refine gj_iconst (q := 10) (gj_dk okX2_takeTurns 7 rfl) (by decide) rfl ?_
        refine gj_istore_n (q := 11) (gj_dk okX2_takeTurns 8 rfl) (by decide) rfl ?_
        have L11 : ∀ (k7 : Nat) (x5 x6 : Int), (2147483647 - x6).toNat < k7 → gj_W G l 4 0 0 yX2_takeTurns cX2_takeTurns 4 none (gj_qV fun S' M' => S = S' ∧ w_CW M0 M') 0 0 11 [(0, jR 35), (1, jI x1), (2, jI x5), (3, jI x6)] [] S M3 := by
          intro k7
          induction k7 with
          | zero => intro x5 x6 hk11; exact absurd hk11 (Nat.not_lt_zero _)
          | succ k7 ih11 =>
            intro x5 x6 hk11
            refine gj_iload_n (q := 12) (gj_dk okX2_takeTurns 9 rfl) rfl rfl ?_
            refine gj_bipush (q := 14) (gj_dk okX2_takeTurns 10 rfl) (by decide) rfl rfl ?_
            refine gj_rng (fun ho14 _ _ => ?_)
            have ha14 : -2147483648 ≤ x6 ∧ x6 < 2147483648 := gj_o1 ho14
            clear ho14
            refine gj_icmp_ge (q := 17) (tgt := 49) (gj_dk okX2_takeTurns 11 rfl) (by decide) rfl (fun c14 => ?_) (fun c14 => ?_)
            · -- 49
              refine gj_aload_n (q := 50) (gj_dk okX2_takeTurns 30 rfl) rfl rfl ?_
              refine gj_iload_n (q := 51) (gj_dk okX2_takeTurns 31 rfl) rfl rfl ?_
              refine gj_iload_n (q := 52) (gj_dk okX2_takeTurns 32 rfl) rfl rfl ?_
              refine gj_callV (q := 55) (z := 35) (ci := 2) [jI x1, jI x5] rfl (w_X2_tie hst w4  _ _) (gj_dk okX2_takeTurns 33 rfl) ml_X2_145 me_X2_tie (sh35 hst) rfl (gj_nm rfl) rfl (gj_kV fun S2 M2 h8 => ?_)
              obtain ⟨eS, w11⟩ := h8; subst eS
              revert w11; generalize M2 = M12; intro w11
              refine gj_iinc (q := 58) (v := x1 + 1) (gj_dk okX2_takeTurns 34 rfl) rfl (by decide) (gj_wle (by omega) (by omega)) rfl ?_
              refine gj_goto (tgt := 2) (gj_dk okX2_takeTurns 35 rfl) (by decide) ?_
              refine gj_sub [(0, jR 35), (1, jI (x1 + 1))] ⟨rfl, rfl, trivial⟩ ?_
              exact ih2 _ _ w11 (by omega)
            · -- 17
              refine gj_aload_n (q := 18) (gj_dk okX2_takeTurns 12 rfl) rfl rfl ?_
              refine gj_iload_n (q := 19) (gj_dk okX2_takeTurns 13 rfl) rfl rfl ?_
              refine gj_iload_n (q := 20) (gj_dk okX2_takeTurns 14 rfl) rfl rfl ?_
              refine gj_callV (q := 23) (z := 35) (ci := 2) [jI x1, jI x6] rfl (w_X2_isLeftFor hst  _ _) (gj_dk okX2_takeTurns 15 rfl) ml_X2_148 me_X2_isLeftFor (sh35 hst) rfl (gj_nm rfl) rfl (gj_kI fun x14 S2 M2 h13 => ?_)
              obtain ⟨bx14, eS, eM⟩ := h13; subst eS; subst eM
              refine gj_if_eq (q := 26) (tgt := 43) (gj_dk okX2_takeTurns 16 rfl) (by decide) rfl (fun c23 => ?_) (fun c23 => ?_)
              · -- 43
                refine gj_iinc (q := 46) (v := x6 + 1) (gj_dk okX2_takeTurns 28 rfl) rfl (by decide) (gj_wle (by omega) (by omega)) rfl ?_
                refine gj_goto (tgt := 11) (gj_dk okX2_takeTurns 29 rfl) (by decide) ?_
                refine gj_sub [(0, jR 35), (1, jI x1), (2, jI x5), (3, jI (x6 + 1))] ⟨rfl, rfl, rfl, rfl, trivial⟩ ?_
                exact ih11 _ _ (by omega)
              · -- 26
                refine gj_iload_n (q := 27) (gj_dk okX2_takeTurns 17 rfl) rfl rfl ?_
                refine gj_iconst (q := 28) (gj_dk okX2_takeTurns 18 rfl) (by decide) rfl ?_
                refine gj_rng (fun ho28 _ _ => ?_)
                have ha28 : -2147483648 ≤ x5 ∧ x5 < 2147483648 := gj_o1 ho28
                clear ho28
                refine gj_icmp_eq (q := 31) (tgt := 41) (gj_dk okX2_takeTurns 19 rfl) (by decide) rfl (fun c28 => ?_) (fun c28 => ?_)
                · -- 41
                  refine gj_iload_n (q := 42) (gj_dk okX2_takeTurns 26 rfl) rfl rfl ?_
                  refine gj_istore_n (q := 43) (gj_dk okX2_takeTurns 27 rfl) (by decide) rfl ?_
                  refine gj_iinc (q := 46) (v := x6 + 1) (gj_dk okX2_takeTurns 28 rfl) rfl (by decide) (gj_wle (by omega) (by omega)) rfl ?_
                  refine gj_goto (tgt := 11) (gj_dk okX2_takeTurns 29 rfl) (by decide) ?_
                  refine gj_sub [(0, jR 35), (1, jI x1), (2, jI x6), (3, jI (x6 + 1))] ⟨rfl, rfl, rfl, rfl, trivial⟩ ?_
                  exact ih11 _ _ (by omega)
                · -- 31
                  refine gj_aload_n (q := 32) (gj_dk okX2_takeTurns 20 rfl) rfl rfl ?_
                  refine gj_iload_n (q := 33) (gj_dk okX2_takeTurns 21 rfl) rfl rfl ?_
                  refine gj_iload_n (q := 34) (gj_dk okX2_takeTurns 22 rfl) rfl rfl ?_
                  refine gj_iload_n (q := 35) (gj_dk okX2_takeTurns 23 rfl) rfl rfl ?_
                  refine gj_callV (q := 38) (z := 35) (ci := 2) [jI x1, jI x6, jI x5] rfl (w_X2_soonerOf hst  _ _ _) (gj_dk okX2_takeTurns 24 rfl) ml_X2_107 me_X2_soonerOf (sh35 hst) rfl (gj_nm rfl) rfl (gj_kI fun x18 S2 M2 h17 => ?_)
                  obtain ⟨bx18, eS, eM⟩ := h17; subst eS; subst eM
                  refine gj_if_eq (q := 41) (tgt := 43) (gj_dk okX2_takeTurns 25 rfl) (by decide) rfl (fun c38 => ?_) (fun c38 => ?_)
                  · -- 43
                    refine gj_iinc (q := 46) (v := x6 + 1) (gj_dk okX2_takeTurns 28 rfl) rfl (by decide) (gj_wle (by omega) (by omega)) rfl ?_
                    refine gj_goto (tgt := 11) (gj_dk okX2_takeTurns 29 rfl) (by decide) ?_
                    refine gj_sub [(0, jR 35), (1, jI x1), (2, jI x5), (3, jI (x6 + 1))] ⟨rfl, rfl, rfl, rfl, trivial⟩ ?_
                    exact ih11 _ _ (by omega)
                  · -- 41
                    refine gj_iload_n (q := 42) (gj_dk okX2_takeTurns 26 rfl) rfl rfl ?_
                    refine gj_istore_n (q := 43) (gj_dk okX2_takeTurns 27 rfl) (by decide) rfl ?_
                    refine gj_iinc (q := 46) (v := x6 + 1) (gj_dk okX2_takeTurns 28 rfl) rfl (by decide) (gj_wle (by omega) (by omega)) rfl ?_
                    refine gj_goto (tgt := 11) (gj_dk okX2_takeTurns 29 rfl) (by decide) ?_
                    refine gj_sub [(0, jR 35), (1, jI x1), (2, jI x6), (3, jI (x6 + 1))] ⟨rfl, rfl, rfl, rfl, trivial⟩ ?_
                    exact ih11 _ _ (by omega)
        refine gj_sub [(0, jR 35), (1, jI x1), (2, jI (-1)), (3, jI 4)] ⟨rfl, rfl, rfl, rfl, trivial⟩ ?_
        exact L11 _ _ _ (Nat.lt_succ_self _)
  refine gj_sub [(0, jR 35), (1, jI 0)] ⟨rfl, rfl, trivial⟩ ?_
  exact L2 _ _ _ h (Nat.lt_succ_self _)

set_option maxHeartbeats 4000000 in
set_option maxRecDepth 20000 in
theorem w_X3_lot (hst : gj_Stat S) (h : w_CW M0 M) (a1 : Int)  : gj_C G l 1 0 0 yX3_lot cX3_lot 2 (some .int) [jR 21, jI a1] S M (gj_qI fun x S' M' => S = S' ∧ w_CW M0 M') := by
  refine gj_Cof (by decide +kernel) (Nat.le_of_ble_eq_true rfl) ?_
  change gj_W G l 1 0 0 yX3_lot cX3_lot 2 (some .int) (gj_qI fun x S' M' => S = S' ∧ w_CW M0 M') 0 0 0 [(0, jR 21), (1, jI a1)] [] S M
  refine gj_aload_n (q := 1) (gj_dk okX3_lot 0 rfl) rfl rfl ?_
  refine gj_aload_n (q := 2) (gj_dk okX3_lot 1 rfl) rfl rfl ?_
  refine gj_gI (q := 5) (j := 2) (gj_dk okX3_lot 2 rfl) ff_X3_53 (sh21 hst) (by decide) rfl rfl ?_
  refine gj_i2l (q := 6) (gj_dk okX3_lot 3 rfl) rfl ?_
  refine gj_ldc2 (q := 9) (z := 1103515245) (gj_dk okX3_lot 4 rfl) kl_X3_79 (by decide) rfl ?_
  refine gj_lmul (q := 10) (gj_dk okX3_lot 5 rfl) rfl ?_
  refine gj_ldc2 (q := 13) (z := 12345) (gj_dk okX3_lot 6 rfl) kl_X3_81 (by decide) rfl ?_
  refine gj_ladd (q := 14) (gj_dk okX3_lot 7 rfl) rfl ?_
  refine gj_ldc2 (q := 17) (z := 2147483647) (gj_dk okX3_lot 8 rfl) kl_X3_83 (by decide) rfl ?_
  refine gj_landR (q := 18) (gj_dk okX3_lot 9 rfl) rfl ?_
  refine gj_l2i (q := 19) (gj_dk okX3_lot 10 rfl) rfl ?_
  refine gj_pfI (q := 22) (j := 2) (gj_dk okX3_lot 11 rfl) ff_X3_53 (sh21 hst) (by decide) rfl rfl ?_
  refine gj_abs (fun M1 e3 => ?_)
  have w2 : w_CW M0 M1 := by rw [e3]; exact h.up (by decide) rfl
  clear e3
  refine gj_iload_n (q := 23) (gj_dk okX3_lot 12 rfl) rfl rfl ?_
  refine gj_if_le (q := 26) (tgt := 39) (gj_dk okX3_lot 13 rfl) (by decide) rfl (fun c23 => ?_) (fun c23 => ?_)
  · -- 39
    refine gj_iconst (q := 40) (gj_dk okX3_lot 21 rfl) (by decide) rfl ?_
    exact gj_iret (gj_dk okX3_lot 22 rfl) rfl ⟨_, rfl, rfl, w2⟩
  · -- 26
    refine gj_aload_n (q := 27) (gj_dk okX3_lot 14 rfl) rfl rfl ?_
    refine gj_gI (q := 30) (j := 2) (gj_dk okX3_lot 15 rfl) ff_X3_53 (sh21 hst) (by decide) rfl rfl ?_
    refine gj_sipush (q := 33) (gj_dk okX3_lot 16 rfl) (by decide) rfl rfl ?_
    refine gj_idiv (q := 34) (gj_dk okX3_lot 17 rfl) (by decide) rfl ?_
    refine gj_iload_n (q := 35) (gj_dk okX3_lot 18 rfl) rfl rfl ?_
    refine gj_irem (q := 36) (gj_dk okX3_lot 19 rfl) (by omega) rfl ?_
    refine gj_goto (tgt := 40) (gj_dk okX3_lot 20 rfl) (by decide) ?_
    exact gj_iret (gj_dk okX3_lot 22 rfl) rfl ⟨_, rfl, rfl, w2⟩

set_option maxHeartbeats 4000000 in
set_option maxRecDepth 20000 in
theorem w_X2_openOne (hst : gj_Stat S) (a1 a2 : Int)  : gj_C G l 4 0 0 yX2_openOne cX2_openOne 5 (some .int) [jR 35, jI a1, jI a2] S M (gj_qI fun x S' M' => S = S' ∧ M = M') := by
  refine gj_Cof (by decide +kernel) (Nat.le_of_ble_eq_true rfl) ?_
  change gj_W G l 4 0 0 yX2_openOne cX2_openOne 5 (some .int) (gj_qI fun x S' M' => S = S' ∧ M = M') 0 0 0 [(0, jR 35), (1, jI a1), (2, jI a2)] [] S M
  refine gj_iload_n (q := 1) (gj_dk okX2_openOne 0 rfl) rfl rfl ?_
  refine gj_istore_n (q := 2) (gj_dk okX2_openOne 1 rfl) (by decide) rfl ?_
  refine gj_iconst (q := 3) (gj_dk okX2_openOne 2 rfl) (by decide) rfl ?_
  refine gj_istore (q := 5) (gj_dk okX2_openOne 3 rfl) (by decide) rfl ?_
  have L5 : ∀ (k3 : Nat) (x1 x2 : Int), (2147483647 - x2).toNat < k3 → gj_W G l 4 0 0 yX2_openOne cX2_openOne 5 (some .int) (gj_qI fun x S' M' => S = S' ∧ M = M') 0 0 5 [(0, jR 35), (1, jI a1), (2, jI a2), (3, jI x1), (4, jI x2)] [] S M := by
    intro k3
    induction k3 with
    | zero => intro x1 x2 hk5; exact absurd hk5 (Nat.not_lt_zero _)
    | succ k3 ih5 =>
      intro x1 x2 hk5
      refine gj_iload (q := 7) (gj_dk okX2_openOne 4 rfl) rfl rfl ?_
      refine gj_bipush (q := 9) (gj_dk okX2_openOne 5 rfl) (by decide) rfl rfl ?_
      refine gj_rng (fun ho9 _ _ => ?_)
      have ha9 : -2147483648 ≤ x2 ∧ x2 < 2147483648 := gj_o1 ho9
      clear ho9
      refine gj_icmp_ge (q := 12) (tgt := 38) (gj_dk okX2_openOne 6 rfl) (by decide) rfl (fun c9 => ?_) (fun c9 => ?_)
      · -- 38
        refine gj_iconst (q := 39) (gj_dk okX2_openOne 19 rfl) (by decide) rfl ?_
        exact gj_iret (gj_dk okX2_openOne 20 rfl) rfl ⟨_, rfl, rfl, rfl⟩
      · -- 12
        refine gj_aload_n (q := 13) (gj_dk okX2_openOne 7 rfl) rfl rfl ?_
        refine gj_iload_n (q := 14) (gj_dk okX2_openOne 8 rfl) rfl rfl ?_
        refine gj_iload (q := 16) (gj_dk okX2_openOne 9 rfl) rfl rfl ?_
        refine gj_callV (q := 19) (z := 35) (ci := 2) [jI a1, jI x2] rfl (w_X2_isLeftFor hst  _ _) (gj_dk okX2_openOne 10 rfl) ml_X2_148 me_X2_isLeftFor (sh35 hst) rfl (gj_nm rfl) rfl (gj_kI fun x5 S2 M2 h4 => ?_)
        obtain ⟨bx5, eS, eM⟩ := h4; subst eS; subst eM
        refine gj_if_eq (q := 22) (tgt := 32) (gj_dk okX2_openOne 11 rfl) (by decide) rfl (fun c19 => ?_) (fun c19 => ?_)
        · -- 32
          refine gj_iinc (q := 35) (v := x2 + 1) (gj_dk okX2_openOne 17 rfl) rfl (by decide) (gj_wle (by omega) (by omega)) rfl ?_
          refine gj_goto (tgt := 5) (gj_dk okX2_openOne 18 rfl) (by decide) ?_
          refine gj_sub [(0, jR 35), (1, jI a1), (2, jI a2), (3, jI x1), (4, jI (x2 + 1))] ⟨rfl, rfl, rfl, rfl, rfl, trivial⟩ ?_
          exact ih5 _ _ (by omega)
        · -- 22
          refine gj_iload_n (q := 23) (gj_dk okX2_openOne 12 rfl) rfl rfl ?_
          refine gj_if_ne (q := 26) (tgt := 29) (gj_dk okX2_openOne 13 rfl) (by decide) rfl (fun c23 => ?_) (fun c23 => ?_)
          · -- 29
            refine gj_iinc (q := 32) (v := gj_w (x1 + (-1))) (gj_dk okX2_openOne 16 rfl) rfl (by decide) rfl rfl ?_
            refine gj_iinc (q := 35) (v := x2 + 1) (gj_dk okX2_openOne 17 rfl) rfl (by decide) (gj_wle (by omega) (by omega)) rfl ?_
            refine gj_goto (tgt := 5) (gj_dk okX2_openOne 18 rfl) (by decide) ?_
            refine gj_sub [(0, jR 35), (1, jI a1), (2, jI a2), (3, jI (gj_w (x1 + (-1)))), (4, jI (x2 + 1))] ⟨rfl, rfl, rfl, rfl, rfl, trivial⟩ ?_
            exact ih5 _ _ (by omega)
          · -- 26
            refine gj_iload (q := 28) (gj_dk okX2_openOne 14 rfl) rfl rfl ?_
            exact gj_iret (gj_dk okX2_openOne 15 rfl) rfl ⟨_, rfl, rfl, rfl⟩
  refine gj_sub [(0, jR 35), (1, jI a1), (2, jI a2), (3, jI a2), (4, jI 4)] ⟨rfl, rfl, rfl, rfl, rfl, trivial⟩ ?_
  exact L5 _ _ _ (Nat.lt_succ_self _)

set_option maxHeartbeats 4000000 in
set_option maxRecDepth 20000 in
theorem w_X2_drawLots (hst : gj_Stat S) (h : w_CW M0 M)   : gj_C G l 5 0 0 yX2_drawLots cX2_drawLots 4 none [jR 35] S M (gj_qV fun S' M' => S = S' ∧ w_CW M0 M') := by
  refine gj_Cof (by decide +kernel) (Nat.le_of_ble_eq_true rfl) ?_
  change gj_W G l 5 0 0 yX2_drawLots cX2_drawLots 4 none (gj_qV fun S' M' => S = S' ∧ w_CW M0 M') 0 0 0 [(0, jR 35)] [] S M
  refine gj_iconst (q := 1) (gj_dk okX2_drawLots 0 rfl) (by decide) rfl ?_
  refine gj_istore_n (q := 2) (gj_dk okX2_drawLots 1 rfl) (by decide) rfl ?_
  have L2 : ∀ (k2 : Nat) (x1 : Int) (M3 : gj_M), (w_CW M0 M3) → (2147483647 - x1).toNat < k2 → gj_W G l 5 0 0 yX2_drawLots cX2_drawLots 4 none (gj_qV fun S' M' => S = S' ∧ w_CW M0 M') 0 0 2 [(0, jR 35), (1, jI x1)] [] S M3 := by
    intro k2
    induction k2 with
    | zero => intro x1 M3 w4 hk2; exact absurd hk2 (Nat.not_lt_zero _)
    | succ k2 ih2 =>
      intro x1 M3 w4 hk2
      refine gj_iload_n (q := 3) (gj_dk okX2_drawLots 2 rfl) rfl rfl ?_
      refine gj_iconst (q := 4) (gj_dk okX2_drawLots 3 rfl) (by decide) rfl ?_
      refine gj_rng (fun ho4 _ _ => ?_)
      have ha4 : -2147483648 ≤ x1 ∧ x1 < 2147483648 := gj_o1 ho4
      clear ho4
      refine gj_icmp_ge (q := 7) (tgt := 68) (gj_dk okX2_drawLots 4 rfl) (by decide) rfl (fun c4 => ?_) (fun c4 => ?_)
      · -- 68
        exact gj_vret (gj_dk okX2_drawLots 39 rfl) rfl ⟨rfl, rfl, w4⟩
      · -- 7
        refine gj_iconst (q := 8) (gj_dk okX2_drawLots 5 rfl) (by decide) rfl ?_
        refine gj_istore_n (q := 9) (gj_dk okX2_drawLots 6 rfl) (by decide) rfl ?_
        refine gj_iconst (q := 10) (gj_dk okX2_drawLots 7 rfl) (by decide) rfl ?_
        refine gj_istore_n (q := 11) (gj_dk okX2_drawLots 8 rfl) (by decide) rfl ?_
        have L11 : ∀ (k7 : Nat) (x5 x6 : Int), (2147483647 - x6).toNat < k7 → gj_W G l 5 0 0 yX2_drawLots cX2_drawLots 4 none (gj_qV fun S' M' => S = S' ∧ w_CW M0 M') 0 0 11 [(0, jR 35), (1, jI x1), (2, jI x5), (3, jI x6)] [] S M3 := by
          intro k7
          induction k7 with
          | zero => intro x5 x6 hk11; exact absurd hk11 (Nat.not_lt_zero _)
          | succ k7 ih11 =>
            intro x5 x6 hk11
            refine gj_iload_n (q := 12) (gj_dk okX2_drawLots 9 rfl) rfl rfl ?_
            refine gj_bipush (q := 14) (gj_dk okX2_drawLots 10 rfl) (by decide) rfl rfl ?_
            refine gj_rng (fun ho14 _ _ => ?_)
            have ha14 : -2147483648 ≤ x6 ∧ x6 < 2147483648 := gj_o1 ho14
            clear ho14
            have J40 : ∀ (x8 : Int), gj_W G l 5 0 0 yX2_drawLots cX2_drawLots 4 none (gj_qV fun S' M' => S = S' ∧ w_CW M0 M') 0 0 40 [(0, jR 35), (1, jI x1), (2, jI x8)] [] S M3 := by
              intro x8
              refine gj_iload_n (q := 41) (gj_dk okX2_drawLots 25 rfl) rfl rfl ?_
              refine gj_if_le (q := 44) (tgt := 62) (gj_dk okX2_drawLots 26 rfl) (by decide) rfl (fun c41 => ?_) (fun c41 => ?_)
              · -- 62
                refine gj_iinc (q := 65) (v := x1 + 1) (gj_dk okX2_drawLots 37 rfl) rfl (by decide) (gj_wle (by omega) (by omega)) rfl ?_
                refine gj_goto (tgt := 2) (gj_dk okX2_drawLots 38 rfl) (by decide) ?_
                refine gj_sub [(0, jR 35), (1, jI (x1 + 1))] ⟨rfl, rfl, trivial⟩ ?_
                exact ih2 _ _ w4 (by omega)
              · -- 44
                refine gj_aload_n (q := 45) (gj_dk okX2_drawLots 27 rfl) rfl rfl ?_
                refine gj_iload_n (q := 46) (gj_dk okX2_drawLots 28 rfl) rfl rfl ?_
                refine gj_aload_n (q := 47) (gj_dk okX2_drawLots 29 rfl) rfl rfl ?_
                refine gj_iload_n (q := 48) (gj_dk okX2_drawLots 30 rfl) rfl rfl ?_
                refine gj_aload_n (q := 49) (gj_dk okX2_drawLots 31 rfl) rfl rfl ?_
                refine gj_gR (q := 52) (j := 1) (gj_dk okX2_drawLots 32 rfl) ff_X2_32 (sh35 hst) (by decide) rfl (rf35_1 hst) rfl ?_
                refine gj_iload_n (q := 53) (gj_dk okX2_drawLots 33 rfl) rfl rfl ?_
                refine gj_callV (q := 56) (z := 21) (ci := 3) [jI x8] rfl (w_X3_lot hst w4  _) (gj_dk okX2_drawLots 34 rfl) ml_X2_151 me_X3_lot (sh21 hst) rfl (gj_nm rfl) rfl (gj_kI fun x10 S2 M2 h9 => ?_)
                obtain ⟨eS, w12⟩ := h9; subst eS
                revert w12; generalize M2 = M13; intro w12
                refine gj_callV (q := 59) (z := 35) (ci := 2) [jI x1, jI x10] rfl (w_X2_openOne hst  _ _) (gj_dk okX2_drawLots 35 rfl) ml_X2_154 me_X2_openOne (sh35 hst) rfl (gj_nm rfl) rfl (gj_kI fun x15 S2 M2 h14 => ?_)
                obtain ⟨eS, eM⟩ := h14; subst eS; subst eM
                refine gj_callV (q := 62) (z := 35) (ci := 2) [jI x1, jI x15] rfl (w_X2_tie hst w12  _ _) (gj_dk okX2_drawLots 36 rfl) ml_X2_145 me_X2_tie (sh35 hst) rfl (gj_nm rfl) rfl (gj_kV fun S2 M2 h18 => ?_)
                obtain ⟨eS, w21⟩ := h18; subst eS
                revert w21; generalize M2 = M22; intro w21
                refine gj_iinc (q := 65) (v := x1 + 1) (gj_dk okX2_drawLots 37 rfl) rfl (by decide) (gj_wle (by omega) (by omega)) rfl ?_
                refine gj_goto (tgt := 2) (gj_dk okX2_drawLots 38 rfl) (by decide) ?_
                refine gj_sub [(0, jR 35), (1, jI (x1 + 1))] ⟨rfl, rfl, trivial⟩ ?_
                exact ih2 _ _ w21 (by omega)
            refine gj_icmp_ge (q := 17) (tgt := 40) (gj_dk okX2_drawLots 11 rfl) (by decide) rfl (fun c14 => ?_) (fun c14 => ?_)
            · -- 40
              refine gj_sub [(0, jR 35), (1, jI x1), (2, jI x5)] ⟨rfl, rfl, rfl, trivial⟩ ?_
              exact J40 _
            · -- 17
              refine gj_iload_n (q := 18) (gj_dk okX2_drawLots 12 rfl) rfl rfl ?_
              refine gj_aload_n (q := 19) (gj_dk okX2_drawLots 13 rfl) rfl rfl ?_
              refine gj_iload_n (q := 20) (gj_dk okX2_drawLots 14 rfl) rfl rfl ?_
              refine gj_iload_n (q := 21) (gj_dk okX2_drawLots 15 rfl) rfl rfl ?_
              refine gj_callV (q := 24) (z := 35) (ci := 2) [jI x1, jI x6] rfl (w_X2_isLeftFor hst  _ _) (gj_dk okX2_drawLots 16 rfl) ml_X2_148 me_X2_isLeftFor (sh35 hst) rfl (gj_nm rfl) rfl (gj_kI fun x24 S2 M2 h23 => ?_)
              obtain ⟨bx24, eS, eM⟩ := h23; subst eS; subst eM
              refine gj_if_eq (q := 27) (tgt := 31) (gj_dk okX2_drawLots 17 rfl) (by decide) rfl (fun c24 => ?_) (fun c24 => ?_)
              · -- 31
                refine gj_iconst (q := 32) (gj_dk okX2_drawLots 20 rfl) (by decide) rfl ?_
                refine gj_iadd (q := 33) (gj_dk okX2_drawLots 21 rfl) rfl ?_
                refine gj_istore_n (q := 34) (gj_dk okX2_drawLots 22 rfl) (by decide) rfl ?_
                refine gj_iinc (q := 37) (v := x6 + 1) (gj_dk okX2_drawLots 23 rfl) rfl (by decide) (gj_wle (by omega) (by omega)) rfl ?_
                refine gj_goto (tgt := 11) (gj_dk okX2_drawLots 24 rfl) (by decide) ?_
                refine gj_sub [(0, jR 35), (1, jI x1), (2, jI (gj_w (x5 + 0))), (3, jI (x6 + 1))] ⟨rfl, rfl, rfl, rfl, trivial⟩ ?_
                exact ih11 _ _ (by omega)
              · -- 27
                refine gj_iconst (q := 28) (gj_dk okX2_drawLots 18 rfl) (by decide) rfl ?_
                refine gj_goto (tgt := 32) (gj_dk okX2_drawLots 19 rfl) (by decide) ?_
                refine gj_iadd (q := 33) (gj_dk okX2_drawLots 21 rfl) rfl ?_
                refine gj_istore_n (q := 34) (gj_dk okX2_drawLots 22 rfl) (by decide) rfl ?_
                refine gj_iinc (q := 37) (v := x6 + 1) (gj_dk okX2_drawLots 23 rfl) rfl (by decide) (gj_wle (by omega) (by omega)) rfl ?_
                refine gj_goto (tgt := 11) (gj_dk okX2_drawLots 24 rfl) (by decide) ?_
                refine gj_sub [(0, jR 35), (1, jI x1), (2, jI (gj_w (x5 + 1))), (3, jI (x6 + 1))] ⟨rfl, rfl, rfl, rfl, trivial⟩ ?_
                exact ih11 _ _ (by omega)
        refine gj_sub [(0, jR 35), (1, jI x1), (2, jI 0), (3, jI 4)] ⟨rfl, rfl, rfl, rfl, trivial⟩ ?_
        exact L11 _ _ _ (Nat.lt_succ_self _)
  refine gj_sub [(0, jR 35), (1, jI 0)] ⟨rfl, rfl, trivial⟩ ?_
  exact L2 _ _ _ h (Nat.lt_succ_self _)

set_option maxHeartbeats 4000000 in
set_option maxRecDepth 20000 in
theorem w_X2_pairUp (hst : gj_Stat S) (h : w_CW M0 M) (a1 : Int)  : gj_C G l 6 0 0 yX2_pairUp cX2_pairUp 2 none [jR 35, jI a1] S M (gj_qV fun S' M' => S = S' ∧ w_CW M0 M') := by
  refine gj_Cof (by decide +kernel) (Nat.le_of_ble_eq_true rfl) ?_
  change gj_W G l 6 0 0 yX2_pairUp cX2_pairUp 2 none (gj_qV fun S' M' => S = S' ∧ w_CW M0 M') 0 0 0 [(0, jR 35), (1, jI a1)] [] S M
  refine gj_aload_n (q := 1) (gj_dk okX2_pairUp 0 rfl) rfl rfl ?_
  refine gj_gR (q := 4) (j := 6) (gj_dk okX2_pairUp 1 rfl) ff_X2_25 (sh35 hst) (by decide) rfl (rf35_6 hst) rfl ?_
  refine gj_iconst (q := 5) (gj_dk okX2_pairUp 2 rfl) (by decide) rfl ?_
  refine gj_callS (q := 8) [jR 40, jI (-1)] rfl (c_X7_fill (sh40 hst) (by decide) (by decide) _) (gj_dk okX2_pairUp 3 rfl) ml_X2_76 me_X7_fill (gj_nm rfl) rfl (gj_kV fun S2 M2 h1 => ?_)
  obtain ⟨eS, eM⟩ := h1; subst eS
  have w4 : w_CW M0 M2 := by rw [← eM]; exact w_CW.fill h (by decide) (by decide)
  clear eM
  revert w4; generalize M2 = M5; intro w4
  refine gj_aload_n (q := 9) (gj_dk okX2_pairUp 4 rfl) rfl rfl ?_
  refine gj_gR (q := 12) (j := 5) (gj_dk okX2_pairUp 5 rfl) ff_X2_22 (sh35 hst) (by decide) rfl (rf35_5 hst) rfl ?_
  refine gj_callS (q := 15) [jR 39] rfl (c_X7_unmark (sh39 hst) (by decide) (by decide)) (gj_dk okX2_pairUp 6 rfl) ml_X2_80 me_X7_unmark (gj_nm rfl) rfl (gj_kV fun S2 M2 h6 => ?_)
  obtain ⟨eS, eM⟩ := h6; subst eS
  have w9 : w_CW M0 M2 := by rw [← eM]; exact w_CW.fill w4 (by decide) (by decide)
  clear eM
  revert w9; generalize M2 = M10; intro w9
  refine gj_iload_n (q := 16) (gj_dk okX2_pairUp 7 rfl) rfl rfl ?_
  by_cases c16_0 : a1 = 0
  · refine gj_tabIn (tgt := 44) (off := 28) 0 (gj_dk okX2_pairUp 8 rfl) c16_0 ⟨by decide, by decide, rfl⟩ (by decide) ?_
    refine gj_aload_n (q := 45) (gj_dk okX2_pairUp 9 rfl) rfl rfl ?_
    refine gj_iconst (q := 46) (gj_dk okX2_pairUp 10 rfl) (by decide) rfl ?_
    refine gj_callV (q := 49) (z := 35) (ci := 2) [jI 0] rfl (w_X2_askAll hst w9  _) (gj_dk okX2_pairUp 11 rfl) ml_X2_84 me_X2_askAll (sh35 hst) rfl (gj_nm rfl) rfl (gj_kV fun S2 M2 h11 => ?_)
    obtain ⟨eS, w14⟩ := h11; subst eS
    revert w14; generalize M2 = M15; intro w14
    refine gj_goto (tgt := 71) (gj_dk okX2_pairUp 12 rfl) (by decide) ?_
    exact gj_vret (gj_dk okX2_pairUp 22 rfl) rfl ⟨rfl, rfl, w14⟩
  by_cases c16_1 : a1 = 1
  · refine gj_tabIn (tgt := 52) (off := 36) 1 (gj_dk okX2_pairUp 8 rfl) c16_1 ⟨by decide, by decide, rfl⟩ (by decide) ?_
    refine gj_aload_n (q := 53) (gj_dk okX2_pairUp 13 rfl) rfl rfl ?_
    refine gj_iconst (q := 54) (gj_dk okX2_pairUp 14 rfl) (by decide) rfl ?_
    refine gj_callV (q := 57) (z := 35) (ci := 2) [jI 4] rfl (w_X2_askAll hst w9  _) (gj_dk okX2_pairUp 15 rfl) ml_X2_84 me_X2_askAll (sh35 hst) rfl (gj_nm rfl) rfl (gj_kV fun S2 M2 h16 => ?_)
    obtain ⟨eS, w19⟩ := h16; subst eS
    revert w19; generalize M2 = M20; intro w19
    refine gj_goto (tgt := 71) (gj_dk okX2_pairUp 16 rfl) (by decide) ?_
    exact gj_vret (gj_dk okX2_pairUp 22 rfl) rfl ⟨rfl, rfl, w19⟩
  by_cases c16_2 : a1 = 2
  · refine gj_tabIn (tgt := 60) (off := 44) 2 (gj_dk okX2_pairUp 8 rfl) c16_2 ⟨by decide, by decide, rfl⟩ (by decide) ?_
    refine gj_aload_n (q := 61) (gj_dk okX2_pairUp 17 rfl) rfl rfl ?_
    refine gj_callV (q := 64) (z := 35) (ci := 2) [] rfl (w_X2_takeTurns hst w9  ) (gj_dk okX2_pairUp 18 rfl) ml_X2_88 me_X2_takeTurns (sh35 hst) rfl (gj_nm rfl) rfl (gj_kV fun S2 M2 h21 => ?_)
    obtain ⟨eS, w24⟩ := h21; subst eS
    revert w24; generalize M2 = M25; intro w24
    refine gj_goto (tgt := 71) (gj_dk okX2_pairUp 19 rfl) (by decide) ?_
    exact gj_vret (gj_dk okX2_pairUp 22 rfl) rfl ⟨rfl, rfl, w24⟩
  refine gj_tabOut (tgt := 67) (gj_dk okX2_pairUp 8 rfl) (by omega) (by decide) ?_
  refine gj_aload_n (q := 68) (gj_dk okX2_pairUp 20 rfl) rfl rfl ?_
  refine gj_callV (q := 71) (z := 35) (ci := 2) [] rfl (w_X2_drawLots hst w9  ) (gj_dk okX2_pairUp 21 rfl) ml_X2_91 me_X2_drawLots (sh35 hst) rfl (gj_nm rfl) rfl (gj_kV fun S2 M2 h26 => ?_)
  obtain ⟨eS, w29⟩ := h26; subst eS
  revert w29; generalize M2 = M30; intro w29
  exact gj_vret (gj_dk okX2_pairUp 22 rfl) rfl ⟨rfl, rfl, w29⟩

set_option maxHeartbeats 4000000 in
set_option maxRecDepth 20000 in
theorem w_X11_green (hst : gj_Stat S) (h : w_CW M0 M) (a1 a2 : Int)  : gj_C G l 7 0 0 yX11_green cX11_green 4 (some .int) [jR 0, jI a1, jI a2] S M (gj_qI fun x S' M' => S = S' ∧ w_CW M0 M') := by
  refine gj_Cof (by decide +kernel) (Nat.le_of_ble_eq_true rfl) ?_
  change gj_W G l 7 0 0 yX11_green cX11_green 4 (some .int) (gj_qI fun x S' M' => S = S' ∧ w_CW M0 M') 0 0 0 [(0, jR 0), (1, jI a1), (2, jI a2)] [] S M
  refine gj_aload_n (q := 1) (gj_dk okX11_green 0 rfl) rfl rfl ?_
  refine gj_gR (q := 4) (j := 3) (gj_dk okX11_green 1 rfl) ff_X11_32 (sh0 hst) (by decide) rfl (rf0_3 hst) rfl ?_
  refine gj_iload_n (q := 5) (gj_dk okX11_green 2 rfl) rfl rfl ?_
  refine gj_callV (q := 8) (z := 14) (ci := 5) [jI a2] rfl (w_X5_slotOf hst  _) (gj_dk okX11_green 3 rfl) ml_X11_131 me_X5_slotOf (sh14 hst) rfl (gj_nm rfl) rfl (gj_kI fun x2 S2 M2 h1 => ?_)
  obtain ⟨eS, eM⟩ := h1; subst eS; subst eM
  refine gj_istore_n (q := 9) (gj_dk okX11_green 4 rfl) (by decide) rfl ?_
  refine gj_iload_n (q := 10) (gj_dk okX11_green 5 rfl) rfl rfl ?_
  refine gj_iconst (q := 11) (gj_dk okX11_green 6 rfl) (by decide) rfl ?_
  refine gj_icmp_eq (q := 14) (tgt := 23) (gj_dk okX11_green 7 rfl) (by decide) rfl (fun c11 => ?_) (fun c11 => ?_)
  · -- 23
    refine gj_ldc (q := 25) (z := -2147483648) (gj_dk okX11_green 13 rfl) kc_X11_135 (by decide) rfl ?_
    exact gj_iret (gj_dk okX11_green 14 rfl) rfl ⟨_, rfl, rfl, h⟩
  · -- 14
    refine gj_iload_n (q := 15) (gj_dk okX11_green 8 rfl) rfl rfl ?_
    refine gj_if_lt (q := 18) (tgt := 23) (gj_dk okX11_green 9 rfl) (by decide) rfl (fun c15 => ?_) (fun c15 => ?_)
    · -- 23
      refine gj_ldc (q := 25) (z := -2147483648) (gj_dk okX11_green 13 rfl) kc_X11_135 (by decide) rfl ?_
      exact gj_iret (gj_dk okX11_green 14 rfl) rfl ⟨_, rfl, rfl, h⟩
    · -- 18
      refine gj_iload_n (q := 19) (gj_dk okX11_green 10 rfl) rfl rfl ?_
      refine gj_iconst (q := 20) (gj_dk okX11_green 11 rfl) (by decide) rfl ?_
      refine gj_icmp_le (q := 23) (tgt := 26) (gj_dk okX11_green 12 rfl) (by decide) rfl (fun c20 => ?_) (fun c20 => ?_)
      · -- 26
        refine gj_aload_n (q := 27) (gj_dk okX11_green 15 rfl) rfl rfl ?_
        refine gj_gR (q := 30) (j := 6) (gj_dk okX11_green 16 rfl) ff_X11_54 (sh0 hst) (by decide) rfl (rf0_6 hst) rfl ?_
        refine gj_iconst (q := 31) (gj_dk okX11_green 17 rfl) (by decide) rfl ?_
        refine gj_callV (q := 34) (z := 35) (ci := 2) [jI 1] rfl (w_X2_gather hst h  _) (gj_dk okX11_green 18 rfl) ml_X11_261 me_X2_gather (sh35 hst) rfl (gj_nm rfl) rfl (gj_kV fun S2 M2 h5 => ?_)
        obtain ⟨eS, w8⟩ := h5; subst eS
        revert w8; generalize M2 = M9; intro w8
        refine gj_aload_n (q := 35) (gj_dk okX11_green 19 rfl) rfl rfl ?_
        refine gj_gR (q := 38) (j := 6) (gj_dk okX11_green 20 rfl) ff_X11_54 (sh0 hst) (by decide) rfl (rf0_6 hst) rfl ?_
        refine gj_iconst (q := 39) (gj_dk okX11_green 21 rfl) (by decide) rfl ?_
        refine gj_callV (q := 42) (z := 35) (ci := 2) [jI 1] rfl (w_X2_look hst w8  _) (gj_dk okX11_green 22 rfl) ml_X11_206 me_X2_look (sh35 hst) rfl (gj_nm rfl) rfl (gj_kV fun S2 M2 h10 => ?_)
        obtain ⟨eS, w13⟩ := h10; subst eS
        revert w13; generalize M2 = M14; intro w13
        refine gj_aload_n (q := 43) (gj_dk okX11_green 23 rfl) rfl rfl ?_
        refine gj_gR (q := 46) (j := 6) (gj_dk okX11_green 24 rfl) ff_X11_54 (sh0 hst) (by decide) rfl (rf0_6 hst) rfl ?_
        refine gj_iload_n (q := 47) (gj_dk okX11_green 25 rfl) rfl rfl ?_
        refine gj_callV (q := 50) (z := 35) (ci := 2) [jI a1] rfl (w_X2_pairUp hst w13  _) (gj_dk okX11_green 26 rfl) ml_X11_264 me_X2_pairUp (sh35 hst) rfl (gj_nm rfl) rfl (gj_kV fun S2 M2 h15 => ?_)
        obtain ⟨eS, w18⟩ := h15; subst eS
        revert w18; generalize M2 = M19; intro w18
        refine gj_aload_n (q := 51) (gj_dk okX11_green 27 rfl) rfl rfl ?_
        refine gj_gR (q := 54) (j := 6) (gj_dk okX11_green 28 rfl) ff_X11_54 (sh0 hst) (by decide) rfl (rf0_6 hst) rfl ?_
        refine gj_gR (q := 57) (j := 6) (gj_dk okX11_green 29 rfl) ff_X11_267 (sh35 hst) (by decide) rfl (rf35_6 hst) rfl ?_
        refine gj_iload_n (q := 58) (gj_dk okX11_green 30 rfl) rfl rfl ?_
        refine gj_callS (q := 61) [jR 40, jI x2] rfl (c_X7_at (sh40 hst) (by decide) (by decide) _) (gj_dk okX11_green 31 rfl) ml_X11_139 me_X7_at (gj_nm rfl) rfl (gj_kI fun x21 S2 M2 h20 => ?_)
        obtain ⟨-, eS, eM⟩ := h20; subst eS; subst eM
        refine gj_callS (q := 64) [jI x21] rfl (c_X10_numberOf _) (gj_dk okX11_green 32 rfl) ml_X11_146 me_X10_numberOf (gj_nm rfl) rfl (gj_kI fun x24 S2 M2 h23 => ?_)
        obtain ⟨-, eS, eM⟩ := h23; subst eS; subst eM
        exact gj_iret (gj_dk okX11_green 33 rfl) rfl ⟨_, rfl, rfl, w18⟩
      · -- 23
        refine gj_ldc (q := 25) (z := -2147483648) (gj_dk okX11_green 13 rfl) kc_X11_135 (by decide) rfl ?_
        exact gj_iret (gj_dk okX11_green 14 rfl) rfl ⟨_, rfl, rfl, h⟩

set_option maxHeartbeats 4000000 in
set_option maxRecDepth 20000 in
theorem w_X8_askPaired (hst : gj_Stat S) (h : w_CW M0 M)   : gj_C G l 12 0 0 yX8_askPaired cX8_askPaired 3 none [jR 44] S M (gj_qV fun S' M' => S = S' ∧ w_CW M0 M') := by
  refine gj_Cof (by decide +kernel) (Nat.le_of_ble_eq_true rfl) ?_
  change gj_W G l 12 0 0 yX8_askPaired cX8_askPaired 3 none (gj_qV fun S' M' => S = S' ∧ w_CW M0 M') 0 0 0 [(0, jR 44)] [] S M
  refine gj_iconst (q := 1) (gj_dk okX8_askPaired 0 rfl) (by decide) rfl ?_
  refine gj_istore_n (q := 2) (gj_dk okX8_askPaired 1 rfl) (by decide) rfl ?_
  have L2 : ∀ (k2 : Nat) (x1 : Int) (M3 : gj_M), (w_CW M0 M3) → (2147483647 - x1).toNat < k2 → gj_W G l 12 0 0 yX8_askPaired cX8_askPaired 3 none (gj_qV fun S' M' => S = S' ∧ w_CW M0 M') 0 0 2 [(0, jR 44), (1, jI x1)] [] S M3 := by
    intro k2
    induction k2 with
    | zero => intro x1 M3 w4 hk2; exact absurd hk2 (Nat.not_lt_zero _)
    | succ k2 ih2 =>
      intro x1 M3 w4 hk2
      refine gj_iload_n (q := 3) (gj_dk okX8_askPaired 2 rfl) rfl rfl ?_
      refine gj_bipush (q := 5) (gj_dk okX8_askPaired 3 rfl) (by decide) rfl rfl ?_
      refine gj_rng (fun ho5 _ _ => ?_)
      have ha5 : -2147483648 ≤ x1 ∧ x1 < 2147483648 := gj_o1 ho5
      clear ho5
      refine gj_icmp_ge (q := 8) (tgt := 71) (gj_dk okX8_askPaired 4 rfl) (by decide) rfl (fun c5 => ?_) (fun c5 => ?_)
      · -- 71
        exact gj_vret (gj_dk okX8_askPaired 36 rfl) rfl ⟨rfl, rfl, w4⟩
      · -- 8
        refine gj_iconst (q := 9) (gj_dk okX8_askPaired 5 rfl) (by decide) rfl ?_
        refine gj_istore_n (q := 10) (gj_dk okX8_askPaired 6 rfl) (by decide) rfl ?_
        refine gj_aload_n (q := 11) (gj_dk okX8_askPaired 7 rfl) rfl rfl ?_
        refine gj_gR (q := 14) (j := 1) (gj_dk okX8_askPaired 8 rfl) ff_X8_19 (sh44 hst) (by decide) rfl (rf44_1 hst) rfl ?_
        refine gj_gR (q := 17) (j := 3) (gj_dk okX8_askPaired 9 rfl) ff_X8_62 (sh21 hst) (by decide) rfl (rf21_3 hst) rfl ?_
        refine gj_iload_n (q := 18) (gj_dk okX8_askPaired 10 rfl) rfl rfl ?_
        refine gj_callS (q := 21) [jR 22, jI x1] rfl (c_X7_at (sh22 hst) (by decide) (by decide) _) (gj_dk okX8_askPaired 11 rfl) ml_X8_66 me_X7_at (gj_nm rfl) rfl (gj_kI fun x6 S2 M2 h5 => ?_)
        obtain ⟨-, eS, eM⟩ := h5; subst eS; subst eM
        refine gj_iconst (q := 22) (gj_dk okX8_askPaired 12 rfl) (by decide) rfl ?_
        refine gj_rng (fun ho22 _ _ => ?_)
        have ha22 : -2147483648 ≤ x6 ∧ x6 < 2147483648 := gj_o1 ho22
        clear ho22
        have J56 : ∀ (x8 : Int) (M9 : gj_M), (x8 = 0 ∨ x8 = 1) → (w_CW M0 M9) → gj_W G l 12 0 0 yX8_askPaired cX8_askPaired 3 none (gj_qV fun S' M' => S = S' ∧ w_CW M0 M') 0 0 56 [(0, jR 44), (1, jI x1), (2, jI x8)] [] S M9 := by
          intro x8 M9 bx8 w10
          refine gj_aload_n (q := 57) (gj_dk okX8_askPaired 29 rfl) rfl rfl ?_
          refine gj_gR (q := 60) (j := 4) (gj_dk okX8_askPaired 30 rfl) ff_X8_9 (sh44 hst) (by decide) rfl (rf44_4 hst) rfl ?_
          refine gj_iload_n (q := 61) (gj_dk okX8_askPaired 31 rfl) rfl rfl ?_
          refine gj_iload_n (q := 62) (gj_dk okX8_askPaired 32 rfl) rfl rfl ?_
          refine gj_callS (q := 65) [jR 45, jI x1, jI x8] rfl (c_X7_mark (sh45 hst) (by decide) (by decide) _ _ (by first | decide | assumption | omega)) (gj_dk okX8_askPaired 33 rfl) ml_X8_86 me_X7_mark (gj_nm rfl) rfl (gj_kV fun S2 M2 h11 => ?_)
          obtain ⟨eS, eM⟩ := h11; subst eS
          have w14 : w_CW M0 M2 := by rw [← eM]; exact w_CW.put w10 (by decide) (by decide)
          clear eM
          revert w14; generalize M2 = M15; intro w14
          refine gj_iinc (q := 68) (v := x1 + 1) (gj_dk okX8_askPaired 34 rfl) rfl (by decide) (gj_wle (by omega) (by omega)) rfl ?_
          refine gj_goto (tgt := 2) (gj_dk okX8_askPaired 35 rfl) (by decide) ?_
          refine gj_sub [(0, jR 44), (1, jI (x1 + 1))] ⟨rfl, rfl, trivial⟩ ?_
          exact ih2 _ _ w14 (by omega)
        refine gj_icmp_eq (q := 25) (tgt := 56) (gj_dk okX8_askPaired 13 rfl) (by decide) rfl (fun c22 => ?_) (fun c22 => ?_)
        · -- 56
          refine gj_sub [(0, jR 44), (1, jI x1), (2, jI 0)] ⟨rfl, rfl, rfl, trivial⟩ ?_
          exact J56 _ _ (by first | decide | assumption | omega) w4
        · -- 25
          refine gj_aload_n (q := 26) (gj_dk okX8_askPaired 14 rfl) rfl rfl ?_
          refine gj_gR (q := 29) (j := 2) (gj_dk okX8_askPaired 15 rfl) ff_X8_23 (sh44 hst) (by decide) rfl (rf44_2 hst) rfl ?_
          refine gj_iload_n (q := 30) (gj_dk okX8_askPaired 16 rfl) rfl rfl ?_
          refine gj_callV (q := 33) (z := 31) (ci := 4) [jI x1] rfl (w_X4_enter hst w4  _) (gj_dk okX8_askPaired 17 rfl) ml_X8_72 me_X4_enter (sh31 hst) rfl (gj_nm rfl) rfl (gj_kV fun S2 M2 h16 => ?_)
          obtain ⟨eS, w19⟩ := h16; subst eS
          revert w19; generalize M2 = M20; intro w19
          refine gj_aload_n (q := 34) (gj_dk okX8_askPaired 18 rfl) rfl rfl ?_
          refine gj_gR (q := 37) (j := 2) (gj_dk okX8_askPaired 19 rfl) ff_X8_23 (sh44 hst) (by decide) rfl (rf44_2 hst) rfl ?_
          refine gj_aload_n (q := 38) (gj_dk okX8_askPaired 20 rfl) rfl rfl ?_
          refine gj_gR (q := 41) (j := 0) (gj_dk okX8_askPaired 21 rfl) ff_X8_15 (sh44 hst) (by decide) rfl (rf44_0 hst) rfl ?_
          refine gj_gI (q := 44) (j := 9) (gj_dk okX8_askPaired 22 rfl) ff_X8_77 (sh14 hst) (by decide) rfl rfl ?_
          refine gj_callV (q := 47) (z := 31) (ci := 4) [jI (M20 14 9)] rfl (w_X4_stays hst w19  _ w19.2.1) (gj_dk okX8_askPaired 23 rfl) ml_X8_82 me_X4_stays (sh31 hst) rfl (gj_nm rfl) rfl (gj_kI fun x22 S2 M2 h21 => ?_)
          obtain ⟨bx22, eS, w24⟩ := h21; subst eS
          revert w24; generalize M2 = M25; intro w24
          have J55 : ∀ (x26 : Int), (x26 = 0 ∨ x26 = 1) → gj_W G l 12 0 0 yX8_askPaired cX8_askPaired 3 none (gj_qV fun S' M' => S = S' ∧ w_CW M0 M') 0 0 55 [(0, jR 44), (1, jI x1)] [jI x26] S M25 := by
            intro x26 bx26
            refine gj_istore_n (q := 56) (gj_dk okX8_askPaired 28 rfl) (by decide) rfl ?_
            refine gj_sub [(0, jR 44), (1, jI x1), (2, jI x26)] ⟨rfl, rfl, rfl, trivial⟩ ?_
            exact J56 _ _ (by first | decide | assumption | omega) w24
          refine gj_if_ne (q := 50) (tgt := 54) (gj_dk okX8_askPaired 24 rfl) (by decide) rfl (fun c47 => ?_) (fun c47 => ?_)
          · -- 54
            refine gj_iconst (q := 55) (gj_dk okX8_askPaired 27 rfl) (by decide) rfl ?_
            refine gj_sub [(0, jR 44), (1, jI x1)] ⟨rfl, rfl, trivial⟩ ?_
            exact J55 _ (by first | decide | assumption | omega)
          · -- 50
            refine gj_iconst (q := 51) (gj_dk okX8_askPaired 25 rfl) (by decide) rfl ?_
            refine gj_goto (tgt := 55) (gj_dk okX8_askPaired 26 rfl) (by decide) ?_
            refine gj_sub [(0, jR 44), (1, jI x1)] ⟨rfl, rfl, trivial⟩ ?_
            exact J55 _ (by first | decide | assumption | omega)
  refine gj_sub [(0, jR 44), (1, jI 0)] ⟨rfl, rfl, trivial⟩ ?_
  exact L2 _ _ _ h (Nat.lt_succ_self _)

set_option maxHeartbeats 4000000 in
set_option maxRecDepth 20000 in
theorem w_X3_earn (hst : gj_Stat S) (h : w_CW M0 M) (a1 a2 : Int)  : gj_C G l 2 0 0 yX3_earn cX3_earn 3 none [jR 21, jI a1, jI a2] S M (gj_qV fun S' M' => S = S' ∧ w_CW M0 M') := by
  refine gj_Cof (by decide +kernel) (Nat.le_of_ble_eq_true rfl) ?_
  change gj_W G l 2 0 0 yX3_earn cX3_earn 3 none (gj_qV fun S' M' => S = S' ∧ w_CW M0 M') 0 0 0 [(0, jR 21), (1, jI a1), (2, jI a2)] [] S M
  refine gj_aload_n (q := 1) (gj_dk okX3_earn 0 rfl) rfl rfl ?_
  refine gj_gR (q := 4) (j := 6) (gj_dk okX3_earn 1 rfl) ff_X3_21 (sh21 hst) (by decide) rfl (rf21_6 hst) rfl ?_
  refine gj_iload_n (q := 5) (gj_dk okX3_earn 2 rfl) rfl rfl ?_
  refine gj_aload_n (q := 6) (gj_dk okX3_earn 3 rfl) rfl rfl ?_
  refine gj_gR (q := 9) (j := 6) (gj_dk okX3_earn 4 rfl) ff_X3_21 (sh21 hst) (by decide) rfl (rf21_6 hst) rfl ?_
  refine gj_iload_n (q := 10) (gj_dk okX3_earn 5 rfl) rfl rfl ?_
  refine gj_callS (q := 13) [jR 25, jI a1] rfl (c_X7_at (sh25 hst) (by decide) (by decide) _) (gj_dk okX3_earn 6 rfl) ml_X3_75 me_X7_at (gj_nm rfl) rfl (gj_kI fun x2 S2 M2 h1 => ?_)
  obtain ⟨-, eS, eM⟩ := h1; subst eS; subst eM
  refine gj_iload_n (q := 14) (gj_dk okX3_earn 7 rfl) rfl rfl ?_
  refine gj_iadd (q := 15) (gj_dk okX3_earn 8 rfl) rfl ?_
  refine gj_callS (q := 18) [jR 25, jI a1, jI (gj_w (x2 + a2))] rfl (c_X7_put (sh25 hst) (by decide) (by decide) _ _) (gj_dk okX3_earn 9 rfl) ml_X3_67 me_X7_put (gj_nm rfl) rfl (gj_kV fun S2 M2 h4 => ?_)
  obtain ⟨eS, eM⟩ := h4; subst eS
  have w7 : w_CW M0 M2 := by rw [← eM]; exact w_CW.put h (by decide) (by decide)
  clear eM
  revert w7; generalize M2 = M8; intro w7
  exact gj_vret (gj_dk okX3_earn 10 rfl) rfl ⟨rfl, rfl, w7⟩

set_option maxHeartbeats 4000000 in
set_option maxRecDepth 20000 in
theorem w_X1_add (hst : gj_Stat S) (h : w_CW M0 M) (a1 a2 a3 a4 a5 : Int)  : gj_C G l 2 0 0 yX1_add cX1_add 7 none [jR 29, jI a1, jI a2, jI a3, jI a4, jI a5] S M (gj_qV fun S' M' => S = S' ∧ w_CW M0 M') := by
  refine gj_Cof (by decide +kernel) (Nat.le_of_ble_eq_true rfl) ?_
  change gj_W G l 2 0 0 yX1_add cX1_add 7 none (gj_qV fun S' M' => S = S' ∧ w_CW M0 M') 0 0 0 [(0, jR 29), (1, jI a1), (2, jI a2), (3, jI a3), (4, jI a4), (5, jI a5)] [] S M
  refine gj_aload_n (q := 1) (gj_dk okX1_add 0 rfl) rfl rfl ?_
  refine gj_gI (q := 4) (j := 1) (gj_dk okX1_add 1 rfl) ff_X1_19 (sh29 hst) (by decide) rfl rfl ?_
  refine gj_aload_n (q := 5) (gj_dk okX1_add 2 rfl) rfl rfl ?_
  refine gj_gI (q := 8) (j := 2) (gj_dk okX1_add 3 rfl) ff_X1_15 (sh29 hst) (by decide) rfl rfl ?_
  refine gj_iadd (q := 9) (gj_dk okX1_add 4 rfl) rfl ?_
  refine gj_bipush (q := 11) (gj_dk okX1_add 5 rfl) (by decide) rfl rfl ?_
  refine gj_irem (q := 12) (gj_dk okX1_add 6 rfl) (by decide) rfl ?_
  refine gj_iconst (q := 13) (gj_dk okX1_add 7 rfl) (by decide) rfl ?_
  refine gj_imul (q := 14) (gj_dk okX1_add 8 rfl) rfl ?_
  refine gj_istore (q := 16) (gj_dk okX1_add 9 rfl) (by decide) rfl ?_
  refine gj_aload_n (q := 17) (gj_dk okX1_add 10 rfl) rfl rfl ?_
  refine gj_gR (q := 20) (j := 0) (gj_dk okX1_add 11 rfl) ff_X1_11 (sh29 hst) (by decide) rfl (rf29_0 hst) rfl ?_
  refine gj_iload (q := 22) (gj_dk okX1_add 12 rfl) rfl rfl ?_
  refine gj_iload_n (q := 23) (gj_dk okX1_add 13 rfl) rfl rfl ?_
  refine gj_callS (q := 26) [jR 30, jI (gj_w ((Int.tmod (gj_w ((M 29 1) + (M 29 2))) 40) * 5)), jI a1] rfl (c_X7_put (sh30 hst) (by decide) (by decide) _ _) (gj_dk okX1_add 14 rfl) ml_X1_28 me_X7_put (gj_nm rfl) rfl (gj_kV fun S2 M2 h1 => ?_)
  obtain ⟨eS, eM⟩ := h1; subst eS
  have w4 : w_CW M0 M2 := by rw [← eM]; exact w_CW.put h (by decide) (by decide)
  clear eM
  revert w4; generalize M2 = M5; intro w4
  refine gj_aload_n (q := 27) (gj_dk okX1_add 15 rfl) rfl rfl ?_
  refine gj_gR (q := 30) (j := 0) (gj_dk okX1_add 16 rfl) ff_X1_11 (sh29 hst) (by decide) rfl (rf29_0 hst) rfl ?_
  refine gj_iload (q := 32) (gj_dk okX1_add 17 rfl) rfl rfl ?_
  refine gj_iconst (q := 33) (gj_dk okX1_add 18 rfl) (by decide) rfl ?_
  refine gj_iadd (q := 34) (gj_dk okX1_add 19 rfl) rfl ?_
  refine gj_iload_n (q := 35) (gj_dk okX1_add 20 rfl) rfl rfl ?_
  refine gj_callS (q := 38) [jR 30, jI (gj_w ((gj_w ((Int.tmod (gj_w ((M 29 1) + (M 29 2))) 40) * 5)) + 1)), jI a2] rfl (c_X7_put (sh30 hst) (by decide) (by decide) _ _) (gj_dk okX1_add 21 rfl) ml_X1_28 me_X7_put (gj_nm rfl) rfl (gj_kV fun S2 M2 h6 => ?_)
  obtain ⟨eS, eM⟩ := h6; subst eS
  have w9 : w_CW M0 M2 := by rw [← eM]; exact w_CW.put w4 (by decide) (by decide)
  clear eM
  revert w9; generalize M2 = M10; intro w9
  refine gj_aload_n (q := 39) (gj_dk okX1_add 22 rfl) rfl rfl ?_
  refine gj_gR (q := 42) (j := 0) (gj_dk okX1_add 23 rfl) ff_X1_11 (sh29 hst) (by decide) rfl (rf29_0 hst) rfl ?_
  refine gj_iload (q := 44) (gj_dk okX1_add 24 rfl) rfl rfl ?_
  refine gj_iconst (q := 45) (gj_dk okX1_add 25 rfl) (by decide) rfl ?_
  refine gj_iadd (q := 46) (gj_dk okX1_add 26 rfl) rfl ?_
  refine gj_iload_n (q := 47) (gj_dk okX1_add 27 rfl) rfl rfl ?_
  refine gj_callS (q := 50) [jR 30, jI (gj_w ((gj_w ((Int.tmod (gj_w ((M 29 1) + (M 29 2))) 40) * 5)) + 2)), jI a3] rfl (c_X7_put (sh30 hst) (by decide) (by decide) _ _) (gj_dk okX1_add 28 rfl) ml_X1_28 me_X7_put (gj_nm rfl) rfl (gj_kV fun S2 M2 h11 => ?_)
  obtain ⟨eS, eM⟩ := h11; subst eS
  have w14 : w_CW M0 M2 := by rw [← eM]; exact w_CW.put w9 (by decide) (by decide)
  clear eM
  revert w14; generalize M2 = M15; intro w14
  refine gj_aload_n (q := 51) (gj_dk okX1_add 29 rfl) rfl rfl ?_
  refine gj_gR (q := 54) (j := 0) (gj_dk okX1_add 30 rfl) ff_X1_11 (sh29 hst) (by decide) rfl (rf29_0 hst) rfl ?_
  refine gj_iload (q := 56) (gj_dk okX1_add 31 rfl) rfl rfl ?_
  refine gj_iconst (q := 57) (gj_dk okX1_add 32 rfl) (by decide) rfl ?_
  refine gj_iadd (q := 58) (gj_dk okX1_add 33 rfl) rfl ?_
  refine gj_iload (q := 60) (gj_dk okX1_add 34 rfl) rfl rfl ?_
  refine gj_callS (q := 63) [jR 30, jI (gj_w ((gj_w ((Int.tmod (gj_w ((M 29 1) + (M 29 2))) 40) * 5)) + 3)), jI a4] rfl (c_X7_put (sh30 hst) (by decide) (by decide) _ _) (gj_dk okX1_add 35 rfl) ml_X1_28 me_X7_put (gj_nm rfl) rfl (gj_kV fun S2 M2 h16 => ?_)
  obtain ⟨eS, eM⟩ := h16; subst eS
  have w19 : w_CW M0 M2 := by rw [← eM]; exact w_CW.put w14 (by decide) (by decide)
  clear eM
  revert w19; generalize M2 = M20; intro w19
  refine gj_aload_n (q := 64) (gj_dk okX1_add 36 rfl) rfl rfl ?_
  refine gj_gR (q := 67) (j := 0) (gj_dk okX1_add 37 rfl) ff_X1_11 (sh29 hst) (by decide) rfl (rf29_0 hst) rfl ?_
  refine gj_iload (q := 69) (gj_dk okX1_add 38 rfl) rfl rfl ?_
  refine gj_iconst (q := 70) (gj_dk okX1_add 39 rfl) (by decide) rfl ?_
  refine gj_iadd (q := 71) (gj_dk okX1_add 40 rfl) rfl ?_
  refine gj_iload (q := 73) (gj_dk okX1_add 41 rfl) rfl rfl ?_
  refine gj_callS (q := 76) [jR 30, jI (gj_w ((gj_w ((Int.tmod (gj_w ((M 29 1) + (M 29 2))) 40) * 5)) + 4)), jI a5] rfl (c_X7_put (sh30 hst) (by decide) (by decide) _ _) (gj_dk okX1_add 42 rfl) ml_X1_28 me_X7_put (gj_nm rfl) rfl (gj_kV fun S2 M2 h21 => ?_)
  obtain ⟨eS, eM⟩ := h21; subst eS
  have w24 : w_CW M0 M2 := by rw [← eM]; exact w_CW.put w19 (by decide) (by decide)
  clear eM
  revert w24; generalize M2 = M25; intro w24
  refine gj_aload_n (q := 77) (gj_dk okX1_add 43 rfl) rfl rfl ?_
  refine gj_gI (q := 80) (j := 2) (gj_dk okX1_add 44 rfl) ff_X1_15 (sh29 hst) (by decide) rfl rfl ?_
  refine gj_bipush (q := 82) (gj_dk okX1_add 45 rfl) (by decide) rfl rfl ?_
  refine gj_icmp_ge (q := 85) (tgt := 98) (gj_dk okX1_add 46 rfl) (by decide) rfl (fun c82 => ?_) (fun c82 => ?_)
  · -- 98
    refine gj_aload_n (q := 99) (gj_dk okX1_add 54 rfl) rfl rfl ?_
    refine gj_aload_n (q := 100) (gj_dk okX1_add 55 rfl) rfl rfl ?_
    refine gj_gI (q := 103) (j := 1) (gj_dk okX1_add 56 rfl) ff_X1_19 (sh29 hst) (by decide) rfl rfl ?_
    refine gj_iconst (q := 104) (gj_dk okX1_add 57 rfl) (by decide) rfl ?_
    refine gj_iadd (q := 105) (gj_dk okX1_add 58 rfl) rfl ?_
    refine gj_bipush (q := 107) (gj_dk okX1_add 59 rfl) (by decide) rfl rfl ?_
    refine gj_irem (q := 108) (gj_dk okX1_add 60 rfl) (by decide) rfl ?_
    refine gj_pfI (q := 111) (j := 1) (gj_dk okX1_add 61 rfl) ff_X1_19 (sh29 hst) (by decide) rfl rfl ?_
    refine gj_abs (fun M26 e28 => ?_)
    have w27 : w_CW M0 M26 := by rw [e28]; exact w24.up (by decide) rfl
    clear e28
    exact gj_vret (gj_dk okX1_add 62 rfl) rfl ⟨rfl, rfl, w27⟩
  · -- 85
    refine gj_aload_n (q := 86) (gj_dk okX1_add 47 rfl) rfl rfl ?_
    refine gj_dup (q := 87) (gj_dk okX1_add 48 rfl) rfl rfl ?_
    refine gj_gI (q := 90) (j := 2) (gj_dk okX1_add 49 rfl) ff_X1_15 (sh29 hst) (by decide) rfl rfl ?_
    refine gj_iconst (q := 91) (gj_dk okX1_add 50 rfl) (by decide) rfl ?_
    refine gj_iadd (q := 92) (gj_dk okX1_add 51 rfl) rfl ?_
    refine gj_pfI (q := 95) (j := 2) (gj_dk okX1_add 52 rfl) ff_X1_15 (sh29 hst) (by decide) rfl rfl ?_
    refine gj_abs (fun M29 e31 => ?_)
    have w30 : w_CW M0 M29 := by rw [e31]; exact w24.up (by decide) rfl
    clear e31
    refine gj_goto (tgt := 111) (gj_dk okX1_add 53 rfl) (by decide) ?_
    exact gj_vret (gj_dk okX1_add 62 rfl) rfl ⟨rfl, rfl, w30⟩

set_option maxHeartbeats 4000000 in
set_option maxRecDepth 20000 in
theorem w_X3_free (hst : gj_Stat S) (h : w_CW M0 M) (a1 : Int)  : gj_C G l 2 0 0 yX3_free cX3_free 2 none [jR 21, jI a1] S M (gj_qV fun S' M' => S = S' ∧ w_CW M0 M') := by
  refine gj_Cof (by decide +kernel) (Nat.le_of_ble_eq_true rfl) ?_
  change gj_W G l 2 0 0 yX3_free cX3_free 2 none (gj_qV fun S' M' => S = S' ∧ w_CW M0 M') 0 0 0 [(0, jR 21), (1, jI a1)] [] S M
  refine gj_aload_n (q := 1) (gj_dk okX3_free 0 rfl) rfl rfl ?_
  refine gj_gR (q := 4) (j := 3) (gj_dk okX3_free 1 rfl) ff_X3_9 (sh21 hst) (by decide) rfl (rf21_3 hst) rfl ?_
  refine gj_iload_n (q := 5) (gj_dk okX3_free 2 rfl) rfl rfl ?_
  refine gj_iconst (q := 6) (gj_dk okX3_free 3 rfl) (by decide) rfl ?_
  refine gj_callS (q := 9) [jR 22, jI a1, jI (-1)] rfl (c_X7_put (sh22 hst) (by decide) (by decide) _ _) (gj_dk okX3_free 4 rfl) ml_X3_67 me_X7_put (gj_nm rfl) rfl (gj_kV fun S2 M2 h1 => ?_)
  obtain ⟨eS, eM⟩ := h1; subst eS
  have w4 : w_CW M0 M2 := by rw [← eM]; exact w_CW.put h (by decide) (by decide)
  clear eM
  revert w4; generalize M2 = M5; intro w4
  refine gj_aload_n (q := 10) (gj_dk okX3_free 5 rfl) rfl rfl ?_
  refine gj_gR (q := 13) (j := 4) (gj_dk okX3_free 6 rfl) ff_X3_15 (sh21 hst) (by decide) rfl (rf21_4 hst) rfl ?_
  refine gj_iload_n (q := 14) (gj_dk okX3_free 7 rfl) rfl rfl ?_
  refine gj_iconst (q := 15) (gj_dk okX3_free 8 rfl) (by decide) rfl ?_
  refine gj_callS (q := 18) [jR 23, jI a1, jI 0] rfl (c_X7_put (sh23 hst) (by decide) (by decide) _ _) (gj_dk okX3_free 9 rfl) ml_X3_67 me_X7_put (gj_nm rfl) rfl (gj_kV fun S2 M2 h6 => ?_)
  obtain ⟨eS, eM⟩ := h6; subst eS
  have w9 : w_CW M0 M2 := by rw [← eM]; exact w_CW.put w4 (by decide) (by decide)
  clear eM
  revert w9; generalize M2 = M10; intro w9
  refine gj_aload_n (q := 19) (gj_dk okX3_free 10 rfl) rfl rfl ?_
  refine gj_gR (q := 22) (j := 5) (gj_dk okX3_free 11 rfl) ff_X3_18 (sh21 hst) (by decide) rfl (rf21_5 hst) rfl ?_
  refine gj_iload_n (q := 23) (gj_dk okX3_free 12 rfl) rfl rfl ?_
  refine gj_iconst (q := 24) (gj_dk okX3_free 13 rfl) (by decide) rfl ?_
  refine gj_callS (q := 27) [jR 24, jI a1, jI 0] rfl (c_X7_put (sh24 hst) (by decide) (by decide) _ _) (gj_dk okX3_free 14 rfl) ml_X3_67 me_X7_put (gj_nm rfl) rfl (gj_kV fun S2 M2 h11 => ?_)
  obtain ⟨eS, eM⟩ := h11; subst eS
  have w14 : w_CW M0 M2 := by rw [← eM]; exact w_CW.put w9 (by decide) (by decide)
  clear eM
  revert w14; generalize M2 = M15; intro w14
  exact gj_vret (gj_dk okX3_free 15 rfl) rfl ⟨rfl, rfl, w14⟩

set_option maxHeartbeats 4000000 in
set_option maxRecDepth 20000 in
theorem w_X3_loosen (hst : gj_Stat S) (h : w_CW M0 M) (a1 a2 : Int)  : gj_C G l 3 0 0 yX3_loosen cX3_loosen 3 none [jR 21, jI a1, jI a2] S M (gj_qV fun S' M' => S = S' ∧ w_CW M0 M') := by
  refine gj_Cof (by decide +kernel) (Nat.le_of_ble_eq_true rfl) ?_
  change gj_W G l 3 0 0 yX3_loosen cX3_loosen 3 none (gj_qV fun S' M' => S = S' ∧ w_CW M0 M') 0 0 0 [(0, jR 21), (1, jI a1), (2, jI a2)] [] S M
  refine gj_aload_n (q := 1) (gj_dk okX3_loosen 0 rfl) rfl rfl ?_
  refine gj_iload_n (q := 2) (gj_dk okX3_loosen 1 rfl) rfl rfl ?_
  refine gj_callV (q := 5) (z := 21) (ci := 3) [jI a1] rfl (w_X3_free hst h  _) (gj_dk okX3_loosen 2 rfl) ml_X3_71 me_X3_free (sh21 hst) rfl (gj_nm rfl) rfl (gj_kV fun S2 M2 h1 => ?_)
  obtain ⟨eS, w4⟩ := h1; subst eS
  revert w4; generalize M2 = M5; intro w4
  refine gj_aload_n (q := 6) (gj_dk okX3_loosen 3 rfl) rfl rfl ?_
  refine gj_iload_n (q := 7) (gj_dk okX3_loosen 4 rfl) rfl rfl ?_
  refine gj_callV (q := 10) (z := 21) (ci := 3) [jI a2] rfl (w_X3_free hst w4  _) (gj_dk okX3_loosen 5 rfl) ml_X3_71 me_X3_free (sh21 hst) rfl (gj_nm rfl) rfl (gj_kV fun S2 M2 h6 => ?_)
  obtain ⟨eS, w9⟩ := h6; subst eS
  revert w9; generalize M2 = M10; intro w9
  exact gj_vret (gj_dk okX3_loosen 6 rfl) rfl ⟨rfl, rfl, w9⟩

set_option maxHeartbeats 4000000 in
set_option maxRecDepth 20000 in
theorem w_X8_hear (hst : gj_Stat S) (h : w_CW M0 M) (a1 a2 : Int)  : gj_C G l 4 0 0 yX8_hear cX8_hear 5 none [jR 44, jI a1, jI a2] S M (gj_qV fun S' M' => S = S' ∧ w_CW M0 M') := by
  refine gj_Cof (by decide +kernel) (Nat.le_of_ble_eq_true rfl) ?_
  change gj_W G l 4 0 0 yX8_hear cX8_hear 5 none (gj_qV fun S' M' => S = S' ∧ w_CW M0 M') 0 0 0 [(0, jR 44), (1, jI a1), (2, jI a2)] [] S M
  refine gj_aload_n (q := 1) (gj_dk okX8_hear 0 rfl) rfl rfl ?_
  refine gj_gR (q := 4) (j := 4) (gj_dk okX8_hear 1 rfl) ff_X8_9 (sh44 hst) (by decide) rfl (rf44_4 hst) rfl ?_
  refine gj_iload_n (q := 5) (gj_dk okX8_hear 2 rfl) rfl rfl ?_
  refine gj_callS (q := 8) [jR 45, jI a1] rfl (c_X7_is (sh45 hst) (by decide) (by decide) _) (gj_dk okX8_hear 3 rfl) ml_X8_94 me_X7_is (gj_nm rfl) rfl (gj_kI fun x2 S2 M2 h1 => ?_)
  obtain ⟨-, eS, eM⟩ := h1; subst eS; subst eM
  have J16 : ∀ (x4 : Int), (x4 = 0 ∨ x4 = 1) → gj_W G l 4 0 0 yX8_hear cX8_hear 5 none (gj_qV fun S' M' => S = S' ∧ w_CW M0 M') 0 0 16 [(0, jR 44), (1, jI a1), (2, jI a2)] [jI x4] S M := by
    intro x4 bx4
    refine gj_aload_n (q := 17) (gj_dk okX8_hear 8 rfl) rfl rfl ?_
    refine gj_gR (q := 20) (j := 4) (gj_dk okX8_hear 9 rfl) ff_X8_9 (sh44 hst) (by decide) rfl (rf44_4 hst) rfl ?_
    refine gj_iload_n (q := 21) (gj_dk okX8_hear 10 rfl) rfl rfl ?_
    refine gj_callS (q := 24) [jR 45, jI a2] rfl (c_X7_is (sh45 hst) (by decide) (by decide) _) (gj_dk okX8_hear 11 rfl) ml_X8_94 me_X7_is (gj_nm rfl) rfl (gj_kI fun x6 S2 M2 h5 => ?_)
    obtain ⟨-, eS, eM⟩ := h5; subst eS; subst eM
    have J32 : ∀ (x8 : Int), gj_W G l 4 0 0 yX8_hear cX8_hear 5 none (gj_qV fun S' M' => S = S' ∧ w_CW M0 M') 0 0 32 [(0, jR 44), (1, jI a1), (2, jI a2)] [jI x8, jI x4] S M := by
      intro x8
      refine gj_iadd (q := 33) (gj_dk okX8_hear 16 rfl) rfl ?_
      refine gj_istore_n (q := 34) (gj_dk okX8_hear 17 rfl) (by decide) rfl ?_
      refine gj_iload_n (q := 35) (gj_dk okX8_hear 18 rfl) rfl rfl ?_
      refine gj_if_ne (q := 38) (tgt := 80) (gj_dk okX8_hear 19 rfl) (by decide) rfl (fun c35 => ?_) (fun c35 => ?_)
      · -- 80
        refine gj_aload_n (q := 81) (gj_dk okX8_hear 41 rfl) rfl rfl ?_
        refine gj_gR (q := 84) (j := 1) (gj_dk okX8_hear 42 rfl) ff_X8_19 (sh44 hst) (by decide) rfl (rf44_1 hst) rfl ?_
        refine gj_iload_n (q := 85) (gj_dk okX8_hear 43 rfl) rfl rfl ?_
        refine gj_aload_n (q := 86) (gj_dk okX8_hear 44 rfl) rfl rfl ?_
        refine gj_gR (q := 89) (j := 4) (gj_dk okX8_hear 45 rfl) ff_X8_9 (sh44 hst) (by decide) rfl (rf44_4 hst) rfl ?_
        refine gj_iload_n (q := 90) (gj_dk okX8_hear 46 rfl) rfl rfl ?_
        refine gj_callS (q := 93) [jR 45, jI a1] rfl (c_X7_is (sh45 hst) (by decide) (by decide) _) (gj_dk okX8_hear 47 rfl) ml_X8_94 me_X7_is (gj_nm rfl) rfl (gj_kI fun x10 S2 M2 h9 => ?_)
        obtain ⟨-, eS, eM⟩ := h9; subst eS; subst eM
        have J108 : ∀ (x12 : Int), gj_W G l 4 0 0 yX8_hear cX8_hear 5 none (gj_qV fun S' M' => S = S' ∧ w_CW M0 M') 0 0 108 [(0, jR 44), (1, jI a1), (2, jI a2), (3, jI (gj_w (x4 + x8)))] [jI x12, jI a1, jR 21] S M := by
          intro x12
          refine gj_callV (q := 111) (z := 21) (ci := 3) [jI a1, jI x12] rfl (w_X3_earn hst h  _ _) (gj_dk okX8_hear 55 rfl) ml_X8_108 me_X3_earn (sh21 hst) rfl (gj_nm rfl) rfl (gj_kV fun S2 M2 h13 => ?_)
          obtain ⟨eS, w16⟩ := h13; subst eS
          revert w16; generalize M2 = M17; intro w16
          refine gj_aload_n (q := 112) (gj_dk okX8_hear 56 rfl) rfl rfl ?_
          refine gj_gR (q := 115) (j := 1) (gj_dk okX8_hear 57 rfl) ff_X8_19 (sh44 hst) (by decide) rfl (rf44_1 hst) rfl ?_
          refine gj_iload_n (q := 116) (gj_dk okX8_hear 58 rfl) rfl rfl ?_
          refine gj_aload_n (q := 117) (gj_dk okX8_hear 59 rfl) rfl rfl ?_
          refine gj_gR (q := 120) (j := 4) (gj_dk okX8_hear 60 rfl) ff_X8_9 (sh44 hst) (by decide) rfl (rf44_4 hst) rfl ?_
          refine gj_iload_n (q := 121) (gj_dk okX8_hear 61 rfl) rfl rfl ?_
          refine gj_callS (q := 124) [jR 45, jI a2] rfl (c_X7_is (sh45 hst) (by decide) (by decide) _) (gj_dk okX8_hear 62 rfl) ml_X8_94 me_X7_is (gj_nm rfl) rfl (gj_kI fun x19 S2 M2 h18 => ?_)
          obtain ⟨-, eS, eM⟩ := h18; subst eS; subst eM
          have J139 : ∀ (x21 : Int), gj_W G l 4 0 0 yX8_hear cX8_hear 5 none (gj_qV fun S' M' => S = S' ∧ w_CW M0 M') 0 0 139 [(0, jR 44), (1, jI a1), (2, jI a2), (3, jI (gj_w (x4 + x8)))] [jI x21, jI a2, jR 21] S M17 := by
            intro x21
            refine gj_callV (q := 142) (z := 21) (ci := 3) [jI a2, jI x21] rfl (w_X3_earn hst w16  _ _) (gj_dk okX8_hear 70 rfl) ml_X8_108 me_X3_earn (sh21 hst) rfl (gj_nm rfl) rfl (gj_kV fun S2 M2 h22 => ?_)
            obtain ⟨eS, w25⟩ := h22; subst eS
            revert w25; generalize M2 = M26; intro w25
            refine gj_aload_n (q := 143) (gj_dk okX8_hear 71 rfl) rfl rfl ?_
            refine gj_gR (q := 146) (j := 1) (gj_dk okX8_hear 72 rfl) ff_X8_19 (sh44 hst) (by decide) rfl (rf44_1 hst) rfl ?_
            refine gj_gR (q := 149) (j := 10) (gj_dk okX8_hear 73 rfl) ff_X8_111 (sh21 hst) (by decide) rfl (rf21_10 hst) rfl ?_
            refine gj_aload_n (q := 150) (gj_dk okX8_hear 74 rfl) rfl rfl ?_
            refine gj_gR (q := 153) (j := 1) (gj_dk okX8_hear 75 rfl) ff_X8_19 (sh44 hst) (by decide) rfl (rf44_1 hst) rfl ?_
            refine gj_gI (q := 156) (j := 0) (gj_dk okX8_hear 76 rfl) ff_X8_115 (sh21 hst) (by decide) rfl rfl ?_
            refine gj_iload_n (q := 157) (gj_dk okX8_hear 77 rfl) rfl rfl ?_
            refine gj_iload_n (q := 158) (gj_dk okX8_hear 78 rfl) rfl rfl ?_
            refine gj_callS (q := 161) [jI a2] rfl (c_X10_numberOf _) (gj_dk okX8_hear 79 rfl) ml_X8_118 me_X10_numberOf (gj_nm rfl) rfl (gj_kI fun x28 S2 M2 h27 => ?_)
            obtain ⟨-, eS, eM⟩ := h27; subst eS; subst eM
            refine gj_aload_n (q := 162) (gj_dk okX8_hear 80 rfl) rfl rfl ?_
            refine gj_gR (q := 165) (j := 1) (gj_dk okX8_hear 81 rfl) ff_X8_19 (sh44 hst) (by decide) rfl (rf44_1 hst) rfl ?_
            refine gj_gR (q := 168) (j := 4) (gj_dk okX8_hear 82 rfl) ff_X8_124 (sh21 hst) (by decide) rfl (rf21_4 hst) rfl ?_
            refine gj_iload_n (q := 169) (gj_dk okX8_hear 83 rfl) rfl rfl ?_
            refine gj_callS (q := 172) [jR 23, jI a1] rfl (c_X7_at (sh23 hst) (by decide) (by decide) _) (gj_dk okX8_hear 84 rfl) ml_X8_66 me_X7_at (gj_nm rfl) rfl (gj_kI fun x31 S2 M2 h30 => ?_)
            obtain ⟨-, eS, eM⟩ := h30; subst eS; subst eM
            refine gj_iload_n (q := 173) (gj_dk okX8_hear 85 rfl) rfl rfl ?_
            refine gj_callV (q := 176) (z := 29) (ci := 1) [jI (M26 21 0), jI a1, jI x28, jI x31, jI (gj_w (x4 + x8))] rfl (w_X1_add hst w25  _ _ _ _ _) (gj_dk okX8_hear 86 rfl) ml_X8_127 me_X1_add (sh29 hst) rfl (gj_nm rfl) rfl (gj_kV fun S2 M2 h33 => ?_)
            obtain ⟨eS, w36⟩ := h33; subst eS
            revert w36; generalize M2 = M37; intro w36
            refine gj_aload_n (q := 177) (gj_dk okX8_hear 87 rfl) rfl rfl ?_
            refine gj_gR (q := 180) (j := 1) (gj_dk okX8_hear 88 rfl) ff_X8_19 (sh44 hst) (by decide) rfl (rf44_1 hst) rfl ?_
            refine gj_iload_n (q := 181) (gj_dk okX8_hear 89 rfl) rfl rfl ?_
            refine gj_iload_n (q := 182) (gj_dk okX8_hear 90 rfl) rfl rfl ?_
            refine gj_callV (q := 185) (z := 21) (ci := 3) [jI a1, jI a2] rfl (w_X3_loosen hst w36  _ _) (gj_dk okX8_hear 91 rfl) ml_X8_133 me_X3_loosen (sh21 hst) rfl (gj_nm rfl) rfl (gj_kV fun S2 M2 h38 => ?_)
            obtain ⟨eS, w41⟩ := h38; subst eS
            revert w41; generalize M2 = M42; intro w41
            exact gj_vret (gj_dk okX8_hear 92 rfl) rfl ⟨rfl, rfl, w41⟩
          refine gj_if_eq (q := 127) (tgt := 138) (gj_dk okX8_hear 63 rfl) (by decide) rfl (fun c124 => ?_) (fun c124 => ?_)
          · -- 138
            refine gj_iconst (q := 139) (gj_dk okX8_hear 69 rfl) (by decide) rfl ?_
            refine gj_sub [(0, jR 44), (1, jI a1), (2, jI a2), (3, jI (gj_w (x4 + x8)))] ⟨rfl, rfl, rfl, rfl, trivial⟩ ?_
            exact J139 _
          · -- 127
            refine gj_aload_n (q := 128) (gj_dk okX8_hear 64 rfl) rfl rfl ?_
            refine gj_gR (q := 131) (j := 0) (gj_dk okX8_hear 65 rfl) ff_X8_15 (sh44 hst) (by decide) rfl (rf44_0 hst) rfl ?_
            refine gj_gI (q := 134) (j := 8) (gj_dk okX8_hear 66 rfl) ff_X8_105 (sh14 hst) (by decide) rfl rfl ?_
            refine gj_ineg (q := 135) (gj_dk okX8_hear 67 rfl) rfl ?_
            refine gj_goto (tgt := 139) (gj_dk okX8_hear 68 rfl) (by decide) ?_
            refine gj_sub [(0, jR 44), (1, jI a1), (2, jI a2), (3, jI (gj_w (x4 + x8)))] ⟨rfl, rfl, rfl, rfl, trivial⟩ ?_
            exact J139 _
        refine gj_if_eq (q := 96) (tgt := 107) (gj_dk okX8_hear 48 rfl) (by decide) rfl (fun c93 => ?_) (fun c93 => ?_)
        · -- 107
          refine gj_iconst (q := 108) (gj_dk okX8_hear 54 rfl) (by decide) rfl ?_
          refine gj_sub [(0, jR 44), (1, jI a1), (2, jI a2), (3, jI (gj_w (x4 + x8)))] ⟨rfl, rfl, rfl, rfl, trivial⟩ ?_
          exact J108 _
        · -- 96
          refine gj_aload_n (q := 97) (gj_dk okX8_hear 49 rfl) rfl rfl ?_
          refine gj_gR (q := 100) (j := 0) (gj_dk okX8_hear 50 rfl) ff_X8_15 (sh44 hst) (by decide) rfl (rf44_0 hst) rfl ?_
          refine gj_gI (q := 103) (j := 8) (gj_dk okX8_hear 51 rfl) ff_X8_105 (sh14 hst) (by decide) rfl rfl ?_
          refine gj_ineg (q := 104) (gj_dk okX8_hear 52 rfl) rfl ?_
          refine gj_goto (tgt := 108) (gj_dk okX8_hear 53 rfl) (by decide) ?_
          refine gj_sub [(0, jR 44), (1, jI a1), (2, jI a2), (3, jI (gj_w (x4 + x8)))] ⟨rfl, rfl, rfl, rfl, trivial⟩ ?_
          exact J108 _
      · -- 38
        refine gj_aload_n (q := 39) (gj_dk okX8_hear 20 rfl) rfl rfl ?_
        refine gj_gR (q := 42) (j := 1) (gj_dk okX8_hear 21 rfl) ff_X8_19 (sh44 hst) (by decide) rfl (rf44_1 hst) rfl ?_
        refine gj_gR (q := 45) (j := 5) (gj_dk okX8_hear 22 rfl) ff_X8_98 (sh21 hst) (by decide) rfl (rf21_5 hst) rfl ?_
        refine gj_iload_n (q := 46) (gj_dk okX8_hear 23 rfl) rfl rfl ?_
        refine gj_callS (q := 49) [jR 24, jI a1] rfl (c_X7_at (sh24 hst) (by decide) (by decide) _) (gj_dk okX8_hear 24 rfl) ml_X8_66 me_X7_at (gj_nm rfl) rfl (gj_kI fun x44 S2 M2 h43 => ?_)
        obtain ⟨-, eS, eM⟩ := h43; subst eS; subst eM
        refine gj_iconst (q := 50) (gj_dk okX8_hear 25 rfl) (by decide) rfl ?_
        refine gj_iadd (q := 51) (gj_dk okX8_hear 26 rfl) rfl ?_
        refine gj_istore (q := 53) (gj_dk okX8_hear 27 rfl) (by decide) rfl ?_
        refine gj_aload_n (q := 54) (gj_dk okX8_hear 28 rfl) rfl rfl ?_
        refine gj_gR (q := 57) (j := 1) (gj_dk okX8_hear 29 rfl) ff_X8_19 (sh44 hst) (by decide) rfl (rf44_1 hst) rfl ?_
        refine gj_gR (q := 60) (j := 5) (gj_dk okX8_hear 30 rfl) ff_X8_98 (sh21 hst) (by decide) rfl (rf21_5 hst) rfl ?_
        refine gj_iload_n (q := 61) (gj_dk okX8_hear 31 rfl) rfl rfl ?_
        refine gj_iload (q := 63) (gj_dk okX8_hear 32 rfl) rfl rfl ?_
        refine gj_callS (q := 66) [jR 24, jI a1, jI (gj_w (x44 + 1))] rfl (c_X7_put (sh24 hst) (by decide) (by decide) _ _) (gj_dk okX8_hear 33 rfl) ml_X8_101 me_X7_put (gj_nm rfl) rfl (gj_kV fun S2 M2 h46 => ?_)
        obtain ⟨eS, eM⟩ := h46; subst eS
        have w49 : w_CW M0 M2 := by rw [← eM]; exact w_CW.put h (by decide) (by decide)
        clear eM
        revert w49; generalize M2 = M50; intro w49
        refine gj_aload_n (q := 67) (gj_dk okX8_hear 34 rfl) rfl rfl ?_
        refine gj_gR (q := 70) (j := 1) (gj_dk okX8_hear 35 rfl) ff_X8_19 (sh44 hst) (by decide) rfl (rf44_1 hst) rfl ?_
        refine gj_gR (q := 73) (j := 5) (gj_dk okX8_hear 36 rfl) ff_X8_98 (sh21 hst) (by decide) rfl (rf21_5 hst) rfl ?_
        refine gj_iload_n (q := 74) (gj_dk okX8_hear 37 rfl) rfl rfl ?_
        refine gj_iload (q := 76) (gj_dk okX8_hear 38 rfl) rfl rfl ?_
        refine gj_callS (q := 79) [jR 24, jI a2, jI (gj_w (x44 + 1))] rfl (c_X7_put (sh24 hst) (by decide) (by decide) _ _) (gj_dk okX8_hear 39 rfl) ml_X8_101 me_X7_put (gj_nm rfl) rfl (gj_kV fun S2 M2 h51 => ?_)
        obtain ⟨eS, eM⟩ := h51; subst eS
        have w54 : w_CW M0 M2 := by rw [← eM]; exact w_CW.put w49 (by decide) (by decide)
        clear eM
        revert w54; generalize M2 = M55; intro w54
        exact gj_vret (gj_dk okX8_hear 40 rfl) rfl ⟨rfl, rfl, w54⟩
    refine gj_if_eq (q := 27) (tgt := 31) (gj_dk okX8_hear 12 rfl) (by decide) rfl (fun c24 => ?_) (fun c24 => ?_)
    · -- 31
      refine gj_iconst (q := 32) (gj_dk okX8_hear 15 rfl) (by decide) rfl ?_
      refine gj_sub [(0, jR 44), (1, jI a1), (2, jI a2)] ⟨rfl, rfl, rfl, trivial⟩ ?_
      exact J32 _
    · -- 27
      refine gj_iconst (q := 28) (gj_dk okX8_hear 13 rfl) (by decide) rfl ?_
      refine gj_goto (tgt := 32) (gj_dk okX8_hear 14 rfl) (by decide) ?_
      refine gj_sub [(0, jR 44), (1, jI a1), (2, jI a2)] ⟨rfl, rfl, rfl, trivial⟩ ?_
      exact J32 _
  refine gj_if_eq (q := 11) (tgt := 15) (gj_dk okX8_hear 4 rfl) (by decide) rfl (fun c8 => ?_) (fun c8 => ?_)
  · -- 15
    refine gj_iconst (q := 16) (gj_dk okX8_hear 7 rfl) (by decide) rfl ?_
    refine gj_sub [(0, jR 44), (1, jI a1), (2, jI a2)] ⟨rfl, rfl, rfl, trivial⟩ ?_
    exact J16 _ (by first | decide | assumption | omega)
  · -- 11
    refine gj_iconst (q := 12) (gj_dk okX8_hear 5 rfl) (by decide) rfl ?_
    refine gj_goto (tgt := 16) (gj_dk okX8_hear 6 rfl) (by decide) ?_
    refine gj_sub [(0, jR 44), (1, jI a1), (2, jI a2)] ⟨rfl, rfl, rfl, trivial⟩ ?_
    exact J16 _ (by first | decide | assumption | omega)

set_option maxHeartbeats 4000000 in
set_option maxRecDepth 20000 in
theorem w_X8_endPairs (hst : gj_Stat S) (h : w_CW M0 M)   : gj_C G l 5 0 0 yX8_endPairs cX8_endPairs 3 none [jR 44] S M (gj_qV fun S' M' => S = S' ∧ w_CW M0 M') := by
  refine gj_Cof (by decide +kernel) (Nat.le_of_ble_eq_true rfl) ?_
  change gj_W G l 5 0 0 yX8_endPairs cX8_endPairs 3 none (gj_qV fun S' M' => S = S' ∧ w_CW M0 M') 0 0 0 [(0, jR 44)] [] S M
  refine gj_iconst (q := 1) (gj_dk okX8_endPairs 0 rfl) (by decide) rfl ?_
  refine gj_istore_n (q := 2) (gj_dk okX8_endPairs 1 rfl) (by decide) rfl ?_
  have L2 : ∀ (k2 : Nat) (x1 : Int) (M3 : gj_M), (w_CW M0 M3) → (2147483647 - x1).toNat < k2 → gj_W G l 5 0 0 yX8_endPairs cX8_endPairs 3 none (gj_qV fun S' M' => S = S' ∧ w_CW M0 M') 0 0 2 [(0, jR 44), (1, jI x1)] [] S M3 := by
    intro k2
    induction k2 with
    | zero => intro x1 M3 w4 hk2; exact absurd hk2 (Nat.not_lt_zero _)
    | succ k2 ih2 =>
      intro x1 M3 w4 hk2
      refine gj_iload_n (q := 3) (gj_dk okX8_endPairs 2 rfl) rfl rfl ?_
      refine gj_iconst (q := 4) (gj_dk okX8_endPairs 3 rfl) (by decide) rfl ?_
      refine gj_rng (fun ho4 _ _ => ?_)
      have ha4 : -2147483648 ≤ x1 ∧ x1 < 2147483648 := gj_o1 ho4
      clear ho4
      refine gj_icmp_ge (q := 7) (tgt := 36) (gj_dk okX8_endPairs 4 rfl) (by decide) rfl (fun c4 => ?_) (fun c4 => ?_)
      · -- 36
        exact gj_vret (gj_dk okX8_endPairs 20 rfl) rfl ⟨rfl, rfl, w4⟩
      · -- 7
        refine gj_aload_n (q := 8) (gj_dk okX8_endPairs 5 rfl) rfl rfl ?_
        refine gj_gR (q := 11) (j := 1) (gj_dk okX8_endPairs 6 rfl) ff_X8_19 (sh44 hst) (by decide) rfl (rf44_1 hst) rfl ?_
        refine gj_gR (q := 14) (j := 3) (gj_dk okX8_endPairs 7 rfl) ff_X8_62 (sh21 hst) (by decide) rfl (rf21_3 hst) rfl ?_
        refine gj_iload_n (q := 15) (gj_dk okX8_endPairs 8 rfl) rfl rfl ?_
        refine gj_callS (q := 18) [jR 22, jI x1] rfl (c_X7_at (sh22 hst) (by decide) (by decide) _) (gj_dk okX8_endPairs 9 rfl) ml_X8_66 me_X7_at (gj_nm rfl) rfl (gj_kI fun x6 S2 M2 h5 => ?_)
        obtain ⟨-, eS, eM⟩ := h5; subst eS; subst eM
        refine gj_istore_n (q := 19) (gj_dk okX8_endPairs 10 rfl) (by decide) rfl ?_
        refine gj_iload_n (q := 20) (gj_dk okX8_endPairs 11 rfl) rfl rfl ?_
        refine gj_iconst (q := 21) (gj_dk okX8_endPairs 12 rfl) (by decide) rfl ?_
        refine gj_rng (fun ho21 _ _ => ?_)
        have ha21 : -2147483648 ≤ x6 ∧ x6 < 2147483648 := gj_o1 ho21
        clear ho21
        refine gj_icmp_eq (q := 24) (tgt := 30) (gj_dk okX8_endPairs 13 rfl) (by decide) rfl (fun c21 => ?_) (fun c21 => ?_)
        · -- 30
          refine gj_iinc (q := 33) (v := x1 + 1) (gj_dk okX8_endPairs 18 rfl) rfl (by decide) (gj_wle (by omega) (by omega)) rfl ?_
          refine gj_goto (tgt := 2) (gj_dk okX8_endPairs 19 rfl) (by decide) ?_
          refine gj_sub [(0, jR 44), (1, jI (x1 + 1))] ⟨rfl, rfl, trivial⟩ ?_
          exact ih2 _ _ w4 (by omega)
        · -- 24
          refine gj_aload_n (q := 25) (gj_dk okX8_endPairs 14 rfl) rfl rfl ?_
          refine gj_iload_n (q := 26) (gj_dk okX8_endPairs 15 rfl) rfl rfl ?_
          refine gj_iload_n (q := 27) (gj_dk okX8_endPairs 16 rfl) rfl rfl ?_
          refine gj_callV (q := 30) (z := 44) (ci := 7) [jI x1, jI x6] rfl (w_X8_hear hst w4  _ _) (gj_dk okX8_endPairs 17 rfl) ml_X8_90 me_X8_hear (sh44 hst) rfl (gj_nm rfl) rfl (gj_kV fun S2 M2 h8 => ?_)
          obtain ⟨eS, w11⟩ := h8; subst eS
          revert w11; generalize M2 = M12; intro w11
          refine gj_iinc (q := 33) (v := x1 + 1) (gj_dk okX8_endPairs 18 rfl) rfl (by decide) (gj_wle (by omega) (by omega)) rfl ?_
          refine gj_goto (tgt := 2) (gj_dk okX8_endPairs 19 rfl) (by decide) ?_
          refine gj_sub [(0, jR 44), (1, jI (x1 + 1))] ⟨rfl, rfl, trivial⟩ ?_
          exact ih2 _ _ w11 (by omega)
  refine gj_sub [(0, jR 44), (1, jI 0)] ⟨rfl, rfl, trivial⟩ ?_
  exact L2 _ _ _ h (Nat.lt_succ_self _)

set_option maxHeartbeats 4000000 in
set_option maxRecDepth 20000 in
theorem w_X3_bind (hst : gj_Stat S) (h : w_CW M0 M) (a1 a2 : Int)  : gj_C G l 2 0 0 yX3_bind cX3_bind 3 none [jR 21, jI a1, jI a2] S M (gj_qV fun S' M' => S = S' ∧ w_CW M0 M') := by
  refine gj_Cof (by decide +kernel) (Nat.le_of_ble_eq_true rfl) ?_
  change gj_W G l 2 0 0 yX3_bind cX3_bind 3 none (gj_qV fun S' M' => S = S' ∧ w_CW M0 M') 0 0 0 [(0, jR 21), (1, jI a1), (2, jI a2)] [] S M
  refine gj_aload_n (q := 1) (gj_dk okX3_bind 0 rfl) rfl rfl ?_
  refine gj_gR (q := 4) (j := 3) (gj_dk okX3_bind 1 rfl) ff_X3_9 (sh21 hst) (by decide) rfl (rf21_3 hst) rfl ?_
  refine gj_iload_n (q := 5) (gj_dk okX3_bind 2 rfl) rfl rfl ?_
  refine gj_iload_n (q := 6) (gj_dk okX3_bind 3 rfl) rfl rfl ?_
  refine gj_callS (q := 9) [jR 22, jI a1, jI a2] rfl (c_X7_put (sh22 hst) (by decide) (by decide) _ _) (gj_dk okX3_bind 4 rfl) ml_X3_67 me_X7_put (gj_nm rfl) rfl (gj_kV fun S2 M2 h1 => ?_)
  obtain ⟨eS, eM⟩ := h1; subst eS
  have w4 : w_CW M0 M2 := by rw [← eM]; exact w_CW.put h (by decide) (by decide)
  clear eM
  revert w4; generalize M2 = M5; intro w4
  refine gj_aload_n (q := 10) (gj_dk okX3_bind 5 rfl) rfl rfl ?_
  refine gj_gR (q := 13) (j := 3) (gj_dk okX3_bind 6 rfl) ff_X3_9 (sh21 hst) (by decide) rfl (rf21_3 hst) rfl ?_
  refine gj_iload_n (q := 14) (gj_dk okX3_bind 7 rfl) rfl rfl ?_
  refine gj_iload_n (q := 15) (gj_dk okX3_bind 8 rfl) rfl rfl ?_
  refine gj_callS (q := 18) [jR 22, jI a2, jI a1] rfl (c_X7_put (sh22 hst) (by decide) (by decide) _ _) (gj_dk okX3_bind 9 rfl) ml_X3_67 me_X7_put (gj_nm rfl) rfl (gj_kV fun S2 M2 h6 => ?_)
  obtain ⟨eS, eM⟩ := h6; subst eS
  have w9 : w_CW M0 M2 := by rw [← eM]; exact w_CW.put w4 (by decide) (by decide)
  clear eM
  revert w9; generalize M2 = M10; intro w9
  exact gj_vret (gj_dk okX3_bind 10 rfl) rfl ⟨rfl, rfl, w9⟩

set_option maxHeartbeats 4000000 in
set_option maxRecDepth 20000 in
theorem w_X8_bindNewPairs (hst : gj_Stat S) (h : w_CW M0 M)   : gj_C G l 3 0 0 yX8_bindNewPairs cX8_bindNewPairs 3 none [jR 44] S M (gj_qV fun S' M' => S = S' ∧ w_CW M0 M') := by
  refine gj_Cof (by decide +kernel) (Nat.le_of_ble_eq_true rfl) ?_
  change gj_W G l 3 0 0 yX8_bindNewPairs cX8_bindNewPairs 3 none (gj_qV fun S' M' => S = S' ∧ w_CW M0 M') 0 0 0 [(0, jR 44)] [] S M
  refine gj_iconst (q := 1) (gj_dk okX8_bindNewPairs 0 rfl) (by decide) rfl ?_
  refine gj_istore_n (q := 2) (gj_dk okX8_bindNewPairs 1 rfl) (by decide) rfl ?_
  have L2 : ∀ (k2 : Nat) (x1 : Int) (M3 : gj_M), (w_CW M0 M3) → (2147483647 - x1).toNat < k2 → gj_W G l 3 0 0 yX8_bindNewPairs cX8_bindNewPairs 3 none (gj_qV fun S' M' => S = S' ∧ w_CW M0 M') 0 0 2 [(0, jR 44), (1, jI x1)] [] S M3 := by
    intro k2
    induction k2 with
    | zero => intro x1 M3 w4 hk2; exact absurd hk2 (Nat.not_lt_zero _)
    | succ k2 ih2 =>
      intro x1 M3 w4 hk2
      refine gj_iload_n (q := 3) (gj_dk okX8_bindNewPairs 2 rfl) rfl rfl ?_
      refine gj_iconst (q := 4) (gj_dk okX8_bindNewPairs 3 rfl) (by decide) rfl ?_
      refine gj_rng (fun ho4 _ _ => ?_)
      have ha4 : -2147483648 ≤ x1 ∧ x1 < 2147483648 := gj_o1 ho4
      clear ho4
      refine gj_icmp_ge (q := 7) (tgt := 39) (gj_dk okX8_bindNewPairs 4 rfl) (by decide) rfl (fun c4 => ?_) (fun c4 => ?_)
      · -- 39
        exact gj_vret (gj_dk okX8_bindNewPairs 21 rfl) rfl ⟨rfl, rfl, w4⟩
      · -- 7
        refine gj_aload_n (q := 8) (gj_dk okX8_bindNewPairs 5 rfl) rfl rfl ?_
        refine gj_gR (q := 11) (j := 3) (gj_dk okX8_bindNewPairs 6 rfl) ff_X8_27 (sh44 hst) (by decide) rfl (rf44_3 hst) rfl ?_
        refine gj_gR (q := 14) (j := 6) (gj_dk okX8_bindNewPairs 7 rfl) ff_X8_136 (sh35 hst) (by decide) rfl (rf35_6 hst) rfl ?_
        refine gj_iload_n (q := 15) (gj_dk okX8_bindNewPairs 8 rfl) rfl rfl ?_
        refine gj_callS (q := 18) [jR 40, jI x1] rfl (c_X7_at (sh40 hst) (by decide) (by decide) _) (gj_dk okX8_bindNewPairs 9 rfl) ml_X8_66 me_X7_at (gj_nm rfl) rfl (gj_kI fun x6 S2 M2 h5 => ?_)
        obtain ⟨-, eS, eM⟩ := h5; subst eS; subst eM
        refine gj_istore_n (q := 19) (gj_dk okX8_bindNewPairs 10 rfl) (by decide) rfl ?_
        refine gj_iload_n (q := 20) (gj_dk okX8_bindNewPairs 11 rfl) rfl rfl ?_
        refine gj_iconst (q := 21) (gj_dk okX8_bindNewPairs 12 rfl) (by decide) rfl ?_
        refine gj_rng (fun ho21 _ _ => ?_)
        have ha21 : -2147483648 ≤ x6 ∧ x6 < 2147483648 := gj_o1 ho21
        clear ho21
        refine gj_icmp_eq (q := 24) (tgt := 33) (gj_dk okX8_bindNewPairs 13 rfl) (by decide) rfl (fun c21 => ?_) (fun c21 => ?_)
        · -- 33
          refine gj_iinc (q := 36) (v := x1 + 1) (gj_dk okX8_bindNewPairs 19 rfl) rfl (by decide) (gj_wle (by omega) (by omega)) rfl ?_
          refine gj_goto (tgt := 2) (gj_dk okX8_bindNewPairs 20 rfl) (by decide) ?_
          refine gj_sub [(0, jR 44), (1, jI (x1 + 1))] ⟨rfl, rfl, trivial⟩ ?_
          exact ih2 _ _ w4 (by omega)
        · -- 24
          refine gj_aload_n (q := 25) (gj_dk okX8_bindNewPairs 14 rfl) rfl rfl ?_
          refine gj_gR (q := 28) (j := 1) (gj_dk okX8_bindNewPairs 15 rfl) ff_X8_19 (sh44 hst) (by decide) rfl (rf44_1 hst) rfl ?_
          refine gj_iload_n (q := 29) (gj_dk okX8_bindNewPairs 16 rfl) rfl rfl ?_
          refine gj_iload_n (q := 30) (gj_dk okX8_bindNewPairs 17 rfl) rfl rfl ?_
          refine gj_callV (q := 33) (z := 21) (ci := 3) [jI x1, jI x6] rfl (w_X3_bind hst w4  _ _) (gj_dk okX8_bindNewPairs 18 rfl) ml_X8_137 me_X3_bind (sh21 hst) rfl (gj_nm rfl) rfl (gj_kV fun S2 M2 h8 => ?_)
          obtain ⟨eS, w11⟩ := h8; subst eS
          revert w11; generalize M2 = M12; intro w11
          refine gj_iinc (q := 36) (v := x1 + 1) (gj_dk okX8_bindNewPairs 19 rfl) rfl (by decide) (gj_wle (by omega) (by omega)) rfl ?_
          refine gj_goto (tgt := 2) (gj_dk okX8_bindNewPairs 20 rfl) (by decide) ?_
          refine gj_sub [(0, jR 44), (1, jI (x1 + 1))] ⟨rfl, rfl, trivial⟩ ?_
          exact ih2 _ _ w11 (by omega)
  refine gj_sub [(0, jR 44), (1, jI 0)] ⟨rfl, rfl, trivial⟩ ?_
  exact L2 _ _ _ h (Nat.lt_succ_self _)

set_option maxHeartbeats 4000000 in
set_option maxRecDepth 20000 in
theorem w_X8_liveTogether (hst : gj_Stat S) (h : w_CW M0 M) (a1 a2 : Int)  : gj_C G l 3 0 0 yX8_liveTogether cX8_liveTogether 10 none [jR 44, jI a1, jI a2] S M (gj_qV fun S' M' => S = S' ∧ w_CW M0 M') := by
  refine gj_Cof (by decide +kernel) (Nat.le_of_ble_eq_true rfl) ?_
  change gj_W G l 3 0 0 yX8_liveTogether cX8_liveTogether 10 none (gj_qV fun S' M' => S = S' ∧ w_CW M0 M') 0 0 0 [(0, jR 44), (1, jI a1), (2, jI a2)] [] S M
  refine gj_iload_n (q := 1) (gj_dk okX8_liveTogether 0 rfl) rfl rfl ?_
  refine gj_iload_n (q := 2) (gj_dk okX8_liveTogether 1 rfl) rfl rfl ?_
  refine gj_callS (q := 5) [jI a1, jI a2] rfl (c_X10_couple _ _) (gj_dk okX8_liveTogether 2 rfl) ml_X8_149 me_X10_couple (gj_nm rfl) rfl (gj_kI fun x2 S2 M2 h1 => ?_)
  obtain ⟨-, eS, eM⟩ := h1; subst eS; subst eM
  refine gj_istore_n (q := 6) (gj_dk okX8_liveTogether 3 rfl) (by decide) rfl ?_
  refine gj_aload_n (q := 7) (gj_dk okX8_liveTogether 4 rfl) rfl rfl ?_
  refine gj_gR (q := 10) (j := 1) (gj_dk okX8_liveTogether 5 rfl) ff_X8_19 (sh44 hst) (by decide) rfl (rf44_1 hst) rfl ?_
  refine gj_bipush (q := 12) (gj_dk okX8_liveTogether 6 rfl) (by decide) rfl rfl ?_
  refine gj_callV (q := 15) (z := 21) (ci := 3) [jI 16] rfl (w_X3_lot hst h  _) (gj_dk okX8_liveTogether 7 rfl) ml_X8_153 me_X3_lot (sh21 hst) rfl (gj_nm rfl) rfl (gj_kI fun x5 S2 M2 h4 => ?_)
  obtain ⟨eS, w7⟩ := h4; subst eS
  revert w7; generalize M2 = M8; intro w7
  refine gj_aload_n (q := 16) (gj_dk okX8_liveTogether 8 rfl) rfl rfl ?_
  refine gj_gR (q := 19) (j := 0) (gj_dk okX8_liveTogether 9 rfl) ff_X8_15 (sh44 hst) (by decide) rfl (rf44_0 hst) rfl ?_
  refine gj_gR (q := 22) (j := 14) (gj_dk okX8_liveTogether 10 rfl) ff_X8_156 (sh14 hst) (by decide) rfl (rf14_14 hst) rfl ?_
  refine gj_iload_n (q := 23) (gj_dk okX8_liveTogether 11 rfl) rfl rfl ?_
  refine gj_callS (q := 26) [jR 19, jI x2] rfl (c_X7_at (sh19 hst) (by decide) (by decide) _) (gj_dk okX8_liveTogether 12 rfl) ml_X8_66 me_X7_at (gj_nm rfl) rfl (gj_kI fun x10 S2 M2 h9 => ?_)
  obtain ⟨-, eS, eM⟩ := h9; subst eS; subst eM
  have J34 : ∀ (x12 : Int), (x12 = 0 ∨ x12 = 1) → gj_W G l 3 0 0 yX8_liveTogether cX8_liveTogether 10 none (gj_qV fun S' M' => S = S' ∧ w_CW M0 M') 0 0 34 [(0, jR 44), (1, jI a1), (2, jI a2), (3, jI x2)] [jI x12] S M8 := by
    intro x12 bx12
    refine gj_istore (q := 36) (gj_dk okX8_liveTogether 17 rfl) (by decide) rfl ?_
    refine gj_aload_n (q := 37) (gj_dk okX8_liveTogether 18 rfl) rfl rfl ?_
    refine gj_gR (q := 40) (j := 1) (gj_dk okX8_liveTogether 19 rfl) ff_X8_19 (sh44 hst) (by decide) rfl (rf44_1 hst) rfl ?_
    refine gj_bipush (q := 42) (gj_dk okX8_liveTogether 20 rfl) (by decide) rfl rfl ?_
    refine gj_callV (q := 45) (z := 21) (ci := 3) [jI 16] rfl (w_X3_lot hst w7  _) (gj_dk okX8_liveTogether 21 rfl) ml_X8_153 me_X3_lot (sh21 hst) rfl (gj_nm rfl) rfl (gj_kI fun x14 S2 M2 h13 => ?_)
    obtain ⟨eS, w16⟩ := h13; subst eS
    revert w16; generalize M2 = M17; intro w16
    refine gj_aload_n (q := 46) (gj_dk okX8_liveTogether 22 rfl) rfl rfl ?_
    refine gj_gR (q := 49) (j := 0) (gj_dk okX8_liveTogether 23 rfl) ff_X8_15 (sh44 hst) (by decide) rfl (rf44_0 hst) rfl ?_
    refine gj_gI (q := 52) (j := 6) (gj_dk okX8_liveTogether 24 rfl) ff_X8_159 (sh14 hst) (by decide) rfl rfl ?_
    have J60 : ∀ (x18 : Int), (x18 = 0 ∨ x18 = 1) → gj_W G l 3 0 0 yX8_liveTogether cX8_liveTogether 10 none (gj_qV fun S' M' => S = S' ∧ w_CW M0 M') 0 0 60 [(0, jR 44), (1, jI a1), (2, jI a2), (3, jI x2), (4, jI x12)] [jI x18] S M17 := by
      intro x18 bx18
      refine gj_istore (q := 62) (gj_dk okX8_liveTogether 29 rfl) (by decide) rfl ?_
      refine gj_aload_n (q := 63) (gj_dk okX8_liveTogether 30 rfl) rfl rfl ?_
      refine gj_gR (q := 66) (j := 1) (gj_dk okX8_liveTogether 31 rfl) ff_X8_19 (sh44 hst) (by decide) rfl (rf44_1 hst) rfl ?_
      refine gj_gR (q := 69) (j := 4) (gj_dk okX8_liveTogether 32 rfl) ff_X8_124 (sh21 hst) (by decide) rfl (rf21_4 hst) rfl ?_
      refine gj_iload_n (q := 70) (gj_dk okX8_liveTogether 33 rfl) rfl rfl ?_
      refine gj_callS (q := 73) [jR 23, jI a1] rfl (c_X7_at (sh23 hst) (by decide) (by decide) _) (gj_dk okX8_liveTogether 34 rfl) ml_X8_66 me_X7_at (gj_nm rfl) rfl (gj_kI fun x20 S2 M2 h19 => ?_)
      obtain ⟨-, eS, eM⟩ := h19; subst eS; subst eM
      refine gj_istore (q := 75) (gj_dk okX8_liveTogether 35 rfl) (by decide) rfl ?_
      refine gj_aload_n (q := 76) (gj_dk okX8_liveTogether 36 rfl) rfl rfl ?_
      refine gj_gR (q := 79) (j := 1) (gj_dk okX8_liveTogether 37 rfl) ff_X8_19 (sh44 hst) (by decide) rfl (rf44_1 hst) rfl ?_
      refine gj_gR (q := 82) (j := 9) (gj_dk okX8_liveTogether 38 rfl) ff_X8_162 (sh21 hst) (by decide) rfl (rf21_9 hst) rfl ?_
      refine gj_iload_n (q := 83) (gj_dk okX8_liveTogether 39 rfl) rfl rfl ?_
      refine gj_callS (q := 86) [jR 28, jI x2] rfl (c_X7_at (sh28 hst) (by decide) (by decide) _) (gj_dk okX8_liveTogether 40 rfl) ml_X8_66 me_X7_at (gj_nm rfl) rfl (gj_kI fun x23 S2 M2 h22 => ?_)
      obtain ⟨-, eS, eM⟩ := h22; subst eS; subst eM
      refine gj_istore (q := 88) (gj_dk okX8_liveTogether 41 rfl) (by decide) rfl ?_
      refine gj_iload (q := 90) (gj_dk okX8_liveTogether 42 rfl) rfl rfl ?_
      have J110 : ∀ (x25 : Int), gj_W G l 3 0 0 yX8_liveTogether cX8_liveTogether 10 none (gj_qV fun S' M' => S = S' ∧ w_CW M0 M') 0 0 110 [(0, jR 44), (1, jI a1), (2, jI a2), (3, jI x2), (4, jI x12), (5, jI x18), (6, jI x20), (7, jI x23)] [jI x25] S M17 := by
        intro x25
        refine gj_aload_n (q := 111) (gj_dk okX8_liveTogether 51 rfl) rfl rfl ?_
        refine gj_gR (q := 114) (j := 0) (gj_dk okX8_liveTogether 52 rfl) ff_X8_15 (sh44 hst) (by decide) rfl (rf44_0 hst) rfl ?_
        refine gj_gI (q := 117) (j := 7) (gj_dk okX8_liveTogether 53 rfl) ff_X8_171 (sh14 hst) (by decide) rfl rfl ?_
        refine gj_iload (q := 119) (gj_dk okX8_liveTogether 54 rfl) rfl rfl ?_
        refine gj_imul (q := 120) (gj_dk okX8_liveTogether 55 rfl) rfl ?_
        refine gj_iadd (q := 121) (gj_dk okX8_liveTogether 56 rfl) rfl ?_
        refine gj_istore (q := 123) (gj_dk okX8_liveTogether 57 rfl) (by decide) rfl ?_
        refine gj_iload (q := 125) (gj_dk okX8_liveTogether 58 rfl) rfl rfl ?_
        refine gj_aload_n (q := 126) (gj_dk okX8_liveTogether 59 rfl) rfl rfl ?_
        refine gj_gR (q := 129) (j := 0) (gj_dk okX8_liveTogether 60 rfl) ff_X8_15 (sh44 hst) (by decide) rfl (rf44_0 hst) rfl ?_
        refine gj_gI (q := 132) (j := 4) (gj_dk okX8_liveTogether 61 rfl) ff_X8_174 (sh14 hst) (by decide) rfl rfl ?_
        have J147 : ∀ (x26 : Int), gj_W G l 3 0 0 yX8_liveTogether cX8_liveTogether 10 none (gj_qV fun S' M' => S = S' ∧ w_CW M0 M') 0 0 147 [(0, jR 44), (1, jI a1), (2, jI a2), (3, jI x2), (4, jI x12), (5, jI x18), (6, jI x20), (7, jI x23), (8, jI x26)] [] S M17 := by
          intro x26
          refine gj_aload_n (q := 148) (gj_dk okX8_liveTogether 69 rfl) rfl rfl ?_
          refine gj_gR (q := 151) (j := 1) (gj_dk okX8_liveTogether 70 rfl) ff_X8_19 (sh44 hst) (by decide) rfl (rf44_1 hst) rfl ?_
          refine gj_iload_n (q := 152) (gj_dk okX8_liveTogether 71 rfl) rfl rfl ?_
          refine gj_iload (q := 154) (gj_dk okX8_liveTogether 72 rfl) rfl rfl ?_
          refine gj_callV (q := 157) (z := 21) (ci := 3) [jI a1, jI x26] rfl (w_X3_earn hst w16  _ _) (gj_dk okX8_liveTogether 73 rfl) ml_X8_108 me_X3_earn (sh21 hst) rfl (gj_nm rfl) rfl (gj_kV fun S2 M2 h27 => ?_)
          obtain ⟨eS, w30⟩ := h27; subst eS
          revert w30; generalize M2 = M31; intro w30
          refine gj_aload_n (q := 158) (gj_dk okX8_liveTogether 74 rfl) rfl rfl ?_
          refine gj_gR (q := 161) (j := 1) (gj_dk okX8_liveTogether 75 rfl) ff_X8_19 (sh44 hst) (by decide) rfl (rf44_1 hst) rfl ?_
          refine gj_iload_n (q := 162) (gj_dk okX8_liveTogether 76 rfl) rfl rfl ?_
          refine gj_iload (q := 164) (gj_dk okX8_liveTogether 77 rfl) rfl rfl ?_
          refine gj_callV (q := 167) (z := 21) (ci := 3) [jI a2, jI x26] rfl (w_X3_earn hst w30  _ _) (gj_dk okX8_liveTogether 78 rfl) ml_X8_108 me_X3_earn (sh21 hst) rfl (gj_nm rfl) rfl (gj_kV fun S2 M2 h32 => ?_)
          obtain ⟨eS, w35⟩ := h32; subst eS
          revert w35; generalize M2 = M36; intro w35
          refine gj_aload_n (q := 168) (gj_dk okX8_liveTogether 79 rfl) rfl rfl ?_
          refine gj_gR (q := 171) (j := 1) (gj_dk okX8_liveTogether 80 rfl) ff_X8_19 (sh44 hst) (by decide) rfl (rf44_1 hst) rfl ?_
          refine gj_gR (q := 174) (j := 4) (gj_dk okX8_liveTogether 81 rfl) ff_X8_124 (sh21 hst) (by decide) rfl (rf21_4 hst) rfl ?_
          refine gj_iload_n (q := 175) (gj_dk okX8_liveTogether 82 rfl) rfl rfl ?_
          refine gj_iload (q := 177) (gj_dk okX8_liveTogether 83 rfl) rfl rfl ?_
          refine gj_iconst (q := 178) (gj_dk okX8_liveTogether 84 rfl) (by decide) rfl ?_
          refine gj_iadd (q := 179) (gj_dk okX8_liveTogether 85 rfl) rfl ?_
          refine gj_callS (q := 182) [jR 23, jI a1, jI (gj_w (x20 + 1))] rfl (c_X7_put (sh23 hst) (by decide) (by decide) _ _) (gj_dk okX8_liveTogether 86 rfl) ml_X8_101 me_X7_put (gj_nm rfl) rfl (gj_kV fun S2 M2 h37 => ?_)
          obtain ⟨eS, eM⟩ := h37; subst eS
          have w40 : w_CW M0 M2 := by rw [← eM]; exact w_CW.put w35 (by decide) (by decide)
          clear eM
          revert w40; generalize M2 = M41; intro w40
          refine gj_aload_n (q := 183) (gj_dk okX8_liveTogether 87 rfl) rfl rfl ?_
          refine gj_gR (q := 186) (j := 1) (gj_dk okX8_liveTogether 88 rfl) ff_X8_19 (sh44 hst) (by decide) rfl (rf44_1 hst) rfl ?_
          refine gj_gR (q := 189) (j := 4) (gj_dk okX8_liveTogether 89 rfl) ff_X8_124 (sh21 hst) (by decide) rfl (rf21_4 hst) rfl ?_
          refine gj_iload_n (q := 190) (gj_dk okX8_liveTogether 90 rfl) rfl rfl ?_
          refine gj_iload (q := 192) (gj_dk okX8_liveTogether 91 rfl) rfl rfl ?_
          refine gj_iconst (q := 193) (gj_dk okX8_liveTogether 92 rfl) (by decide) rfl ?_
          refine gj_iadd (q := 194) (gj_dk okX8_liveTogether 93 rfl) rfl ?_
          refine gj_callS (q := 197) [jR 23, jI a2, jI (gj_w (x20 + 1))] rfl (c_X7_put (sh23 hst) (by decide) (by decide) _ _) (gj_dk okX8_liveTogether 94 rfl) ml_X8_101 me_X7_put (gj_nm rfl) rfl (gj_kV fun S2 M2 h42 => ?_)
          obtain ⟨eS, eM⟩ := h42; subst eS
          have w45 : w_CW M0 M2 := by rw [← eM]; exact w_CW.put w40 (by decide) (by decide)
          clear eM
          revert w45; generalize M2 = M46; intro w45
          refine gj_iload (q := 199) (gj_dk okX8_liveTogether 95 rfl) rfl rfl ?_
          refine gj_if_eq (q := 202) (tgt := 212) (gj_dk okX8_liveTogether 96 rfl) (by decide) rfl (fun c199 => ?_) (fun c199 => ?_)
          · -- 212
            refine gj_aload_n (q := 213) (gj_dk okX8_liveTogether 101 rfl) rfl rfl ?_
            refine gj_gR (q := 216) (j := 1) (gj_dk okX8_liveTogether 102 rfl) ff_X8_19 (sh44 hst) (by decide) rfl (rf44_1 hst) rfl ?_
            refine gj_gR (q := 219) (j := 8) (gj_dk okX8_liveTogether 103 rfl) ff_X8_183 (sh21 hst) (by decide) rfl (rf21_8 hst) rfl ?_
            refine gj_astore (q := 221) (gj_dk okX8_liveTogether 104 rfl) (by decide) rfl ?_
            refine gj_aload (q := 223) (gj_dk okX8_liveTogether 105 rfl) rfl rfl ?_
            refine gj_iload_n (q := 224) (gj_dk okX8_liveTogether 106 rfl) rfl rfl ?_
            refine gj_iconst (q := 225) (gj_dk okX8_liveTogether 107 rfl) (by decide) rfl ?_
            refine gj_aload (q := 227) (gj_dk okX8_liveTogether 108 rfl) rfl rfl ?_
            refine gj_iload_n (q := 228) (gj_dk okX8_liveTogether 109 rfl) rfl rfl ?_
            refine gj_callS (q := 231) [jR 27, jI x2] rfl (c_X7_at (sh27 hst) (by decide) (by decide) _) (gj_dk okX8_liveTogether 110 rfl) ml_X8_66 me_X7_at (gj_nm rfl) rfl (gj_kI fun x48 S2 M2 h47 => ?_)
            obtain ⟨-, eS, eM⟩ := h47; subst eS; subst eM
            refine gj_iconst (q := 232) (gj_dk okX8_liveTogether 111 rfl) (by decide) rfl ?_
            refine gj_iadd (q := 233) (gj_dk okX8_liveTogether 112 rfl) rfl ?_
            refine gj_mmin (q := 236) (gj_dk okX8_liveTogether 113 rfl) ml_X8_186 ⟨by omega, Nat.le_of_ble_eq_true rfl⟩ rfl ?_
            refine gj_callS (q := 239) [jR 27, jI x2, jI (f_min 4 (gj_w (x48 + 1)))] rfl (c_X7_put (sh27 hst) (by decide) (by decide) _ _) (gj_dk okX8_liveTogether 114 rfl) ml_X8_101 me_X7_put (gj_nm rfl) rfl (gj_kV fun S2 M2 h50 => ?_)
            obtain ⟨eS, eM⟩ := h50; subst eS
            have w53 : w_CW M0 M2 := by rw [← eM]; exact w_CW.put w45 (by decide) (by decide)
            clear eM
            revert w53; generalize M2 = M54; intro w53
            refine gj_iload (q := 241) (gj_dk okX8_liveTogether 115 rfl) rfl rfl ?_
            refine gj_if_eq (q := 244) (tgt := 264) (gj_dk okX8_liveTogether 116 rfl) (by decide) rfl (fun c241 => ?_) (fun c241 => ?_)
            · -- 264
              exact gj_vret (gj_dk okX8_liveTogether 127 rfl) rfl ⟨rfl, rfl, w53⟩
            · -- 244
              refine gj_aload_n (q := 245) (gj_dk okX8_liveTogether 117 rfl) rfl rfl ?_
              refine gj_gR (q := 248) (j := 1) (gj_dk okX8_liveTogether 118 rfl) ff_X8_19 (sh44 hst) (by decide) rfl (rf44_1 hst) rfl ?_
              refine gj_gR (q := 251) (j := 9) (gj_dk okX8_liveTogether 119 rfl) ff_X8_162 (sh21 hst) (by decide) rfl (rf21_9 hst) rfl ?_
              refine gj_iload_n (q := 252) (gj_dk okX8_liveTogether 120 rfl) rfl rfl ?_
              refine gj_bipush (q := 254) (gj_dk okX8_liveTogether 121 rfl) (by decide) rfl rfl ?_
              refine gj_iload (q := 256) (gj_dk okX8_liveTogether 122 rfl) rfl rfl ?_
              refine gj_iconst (q := 257) (gj_dk okX8_liveTogether 123 rfl) (by decide) rfl ?_
              refine gj_iadd (q := 258) (gj_dk okX8_liveTogether 124 rfl) rfl ?_
              refine gj_mmin (q := 261) (gj_dk okX8_liveTogether 125 rfl) ml_X8_186 ⟨by omega, Nat.le_of_ble_eq_true rfl⟩ rfl ?_
              refine gj_callS (q := 264) [jR 28, jI x2, jI (f_min 99 (gj_w (x23 + 1)))] rfl (c_X7_put (sh28 hst) (by decide) (by decide) _ _) (gj_dk okX8_liveTogether 126 rfl) ml_X8_101 me_X7_put (gj_nm rfl) rfl (gj_kV fun S2 M2 h55 => ?_)
              obtain ⟨eS, eM⟩ := h55; subst eS
              have w58 : w_CW M0 M2 := by rw [← eM]; exact w_CW.put w53 (by decide) (by decide)
              clear eM
              revert w58; generalize M2 = M59; intro w58
              exact gj_vret (gj_dk okX8_liveTogether 127 rfl) rfl ⟨rfl, rfl, w58⟩
          · -- 202
            refine gj_aload_n (q := 203) (gj_dk okX8_liveTogether 97 rfl) rfl rfl ?_
            refine gj_gR (q := 206) (j := 1) (gj_dk okX8_liveTogether 98 rfl) ff_X8_19 (sh44 hst) (by decide) rfl (rf44_1 hst) rfl ?_
            refine gj_gR (q := 209) (j := 7) (gj_dk okX8_liveTogether 99 rfl) ff_X8_180 (sh21 hst) (by decide) rfl (rf21_7 hst) rfl ?_
            refine gj_goto (tgt := 219) (gj_dk okX8_liveTogether 100 rfl) (by decide) ?_
            refine gj_astore (q := 221) (gj_dk okX8_liveTogether 104 rfl) (by decide) rfl ?_
            refine gj_aload (q := 223) (gj_dk okX8_liveTogether 105 rfl) rfl rfl ?_
            refine gj_iload_n (q := 224) (gj_dk okX8_liveTogether 106 rfl) rfl rfl ?_
            refine gj_iconst (q := 225) (gj_dk okX8_liveTogether 107 rfl) (by decide) rfl ?_
            refine gj_aload (q := 227) (gj_dk okX8_liveTogether 108 rfl) rfl rfl ?_
            refine gj_iload_n (q := 228) (gj_dk okX8_liveTogether 109 rfl) rfl rfl ?_
            refine gj_callS (q := 231) [jR 26, jI x2] rfl (c_X7_at (sh26 hst) (by decide) (by decide) _) (gj_dk okX8_liveTogether 110 rfl) ml_X8_66 me_X7_at (gj_nm rfl) rfl (gj_kI fun x61 S2 M2 h60 => ?_)
            obtain ⟨-, eS, eM⟩ := h60; subst eS; subst eM
            refine gj_iconst (q := 232) (gj_dk okX8_liveTogether 111 rfl) (by decide) rfl ?_
            refine gj_iadd (q := 233) (gj_dk okX8_liveTogether 112 rfl) rfl ?_
            refine gj_mmin (q := 236) (gj_dk okX8_liveTogether 113 rfl) ml_X8_186 ⟨by omega, Nat.le_of_ble_eq_true rfl⟩ rfl ?_
            refine gj_callS (q := 239) [jR 26, jI x2, jI (f_min 4 (gj_w (x61 + 1)))] rfl (c_X7_put (sh26 hst) (by decide) (by decide) _ _) (gj_dk okX8_liveTogether 114 rfl) ml_X8_101 me_X7_put (gj_nm rfl) rfl (gj_kV fun S2 M2 h63 => ?_)
            obtain ⟨eS, eM⟩ := h63; subst eS
            have w66 : w_CW M0 M2 := by rw [← eM]; exact w_CW.put w45 (by decide) (by decide)
            clear eM
            revert w66; generalize M2 = M67; intro w66
            refine gj_iload (q := 241) (gj_dk okX8_liveTogether 115 rfl) rfl rfl ?_
            refine gj_if_eq (q := 244) (tgt := 264) (gj_dk okX8_liveTogether 116 rfl) (by decide) rfl (fun c241 => ?_) (fun c241 => ?_)
            · -- 264
              exact gj_vret (gj_dk okX8_liveTogether 127 rfl) rfl ⟨rfl, rfl, w66⟩
            · -- 244
              refine gj_aload_n (q := 245) (gj_dk okX8_liveTogether 117 rfl) rfl rfl ?_
              refine gj_gR (q := 248) (j := 1) (gj_dk okX8_liveTogether 118 rfl) ff_X8_19 (sh44 hst) (by decide) rfl (rf44_1 hst) rfl ?_
              refine gj_gR (q := 251) (j := 9) (gj_dk okX8_liveTogether 119 rfl) ff_X8_162 (sh21 hst) (by decide) rfl (rf21_9 hst) rfl ?_
              refine gj_iload_n (q := 252) (gj_dk okX8_liveTogether 120 rfl) rfl rfl ?_
              refine gj_bipush (q := 254) (gj_dk okX8_liveTogether 121 rfl) (by decide) rfl rfl ?_
              refine gj_iload (q := 256) (gj_dk okX8_liveTogether 122 rfl) rfl rfl ?_
              refine gj_iconst (q := 257) (gj_dk okX8_liveTogether 123 rfl) (by decide) rfl ?_
              refine gj_iadd (q := 258) (gj_dk okX8_liveTogether 124 rfl) rfl ?_
              refine gj_mmin (q := 261) (gj_dk okX8_liveTogether 125 rfl) ml_X8_186 ⟨by omega, Nat.le_of_ble_eq_true rfl⟩ rfl ?_
              refine gj_callS (q := 264) [jR 28, jI x2, jI (f_min 99 (gj_w (x23 + 1)))] rfl (c_X7_put (sh28 hst) (by decide) (by decide) _ _) (gj_dk okX8_liveTogether 126 rfl) ml_X8_101 me_X7_put (gj_nm rfl) rfl (gj_kV fun S2 M2 h68 => ?_)
              obtain ⟨eS, eM⟩ := h68; subst eS
              have w71 : w_CW M0 M2 := by rw [← eM]; exact w_CW.put w66 (by decide) (by decide)
              clear eM
              revert w71; generalize M2 = M72; intro w71
              exact gj_vret (gj_dk okX8_liveTogether 127 rfl) rfl ⟨rfl, rfl, w71⟩
        refine gj_icmp_lt (q := 135) (tgt := 147) (gj_dk okX8_liveTogether 62 rfl) (by decide) rfl (fun c132 => ?_) (fun c132 => ?_)
        · -- 147
          refine gj_sub [(0, jR 44), (1, jI a1), (2, jI a2), (3, jI x2), (4, jI x12), (5, jI x18), (6, jI x20), (7, jI x23), (8, jI (gj_w (x25 + (gj_w ((M17 14 7) * x23)))))] ⟨rfl, rfl, rfl, rfl, rfl, rfl, rfl, rfl, rfl, trivial⟩ ?_
          exact J147 _
        · -- 135
          refine gj_iload (q := 137) (gj_dk okX8_liveTogether 63 rfl) rfl rfl ?_
          refine gj_aload_n (q := 138) (gj_dk okX8_liveTogether 64 rfl) rfl rfl ?_
          refine gj_gR (q := 141) (j := 0) (gj_dk okX8_liveTogether 65 rfl) ff_X8_15 (sh44 hst) (by decide) rfl (rf44_0 hst) rfl ?_
          refine gj_gI (q := 144) (j := 5) (gj_dk okX8_liveTogether 66 rfl) ff_X8_177 (sh14 hst) (by decide) rfl rfl ?_
          refine gj_iadd (q := 145) (gj_dk okX8_liveTogether 67 rfl) rfl ?_
          refine gj_istore (q := 147) (gj_dk okX8_liveTogether 68 rfl) (by decide) rfl ?_
          refine gj_sub [(0, jR 44), (1, jI a1), (2, jI a2), (3, jI x2), (4, jI x12), (5, jI x18), (6, jI x20), (7, jI x23), (8, jI (gj_w ((gj_w (x25 + (gj_w ((M17 14 7) * x23)))) + (M17 14 5))))] ⟨rfl, rfl, rfl, rfl, rfl, rfl, rfl, rfl, rfl, trivial⟩ ?_
          exact J147 _
      refine gj_if_eq (q := 93) (tgt := 103) (gj_dk okX8_liveTogether 43 rfl) (by decide) rfl (fun c90 => ?_) (fun c90 => ?_)
      · -- 103
        refine gj_aload_n (q := 104) (gj_dk okX8_liveTogether 48 rfl) rfl rfl ?_
        refine gj_gR (q := 107) (j := 0) (gj_dk okX8_liveTogether 49 rfl) ff_X8_15 (sh44 hst) (by decide) rfl (rf44_0 hst) rfl ?_
        refine gj_gI (q := 110) (j := 3) (gj_dk okX8_liveTogether 50 rfl) ff_X8_168 (sh14 hst) (by decide) rfl rfl ?_
        refine gj_sub [(0, jR 44), (1, jI a1), (2, jI a2), (3, jI x2), (4, jI x12), (5, jI x18), (6, jI x20), (7, jI x23)] ⟨rfl, rfl, rfl, rfl, rfl, rfl, rfl, rfl, trivial⟩ ?_
        exact J110 _
      · -- 93
        refine gj_aload_n (q := 94) (gj_dk okX8_liveTogether 44 rfl) rfl rfl ?_
        refine gj_gR (q := 97) (j := 0) (gj_dk okX8_liveTogether 45 rfl) ff_X8_15 (sh44 hst) (by decide) rfl (rf44_0 hst) rfl ?_
        refine gj_gI (q := 100) (j := 2) (gj_dk okX8_liveTogether 46 rfl) ff_X8_165 (sh14 hst) (by decide) rfl rfl ?_
        refine gj_goto (tgt := 110) (gj_dk okX8_liveTogether 47 rfl) (by decide) ?_
        refine gj_sub [(0, jR 44), (1, jI a1), (2, jI a2), (3, jI x2), (4, jI x12), (5, jI x18), (6, jI x20), (7, jI x23)] ⟨rfl, rfl, rfl, rfl, rfl, rfl, rfl, rfl, trivial⟩ ?_
        exact J110 _
    refine gj_icmp_ge (q := 55) (tgt := 59) (gj_dk okX8_liveTogether 25 rfl) (by decide) rfl (fun c52 => ?_) (fun c52 => ?_)
    · -- 59
      refine gj_iconst (q := 60) (gj_dk okX8_liveTogether 28 rfl) (by decide) rfl ?_
      refine gj_sub [(0, jR 44), (1, jI a1), (2, jI a2), (3, jI x2), (4, jI x12)] ⟨rfl, rfl, rfl, rfl, rfl, trivial⟩ ?_
      exact J60 _ (by first | decide | assumption | omega)
    · -- 55
      refine gj_iconst (q := 56) (gj_dk okX8_liveTogether 26 rfl) (by decide) rfl ?_
      refine gj_goto (tgt := 60) (gj_dk okX8_liveTogether 27 rfl) (by decide) ?_
      refine gj_sub [(0, jR 44), (1, jI a1), (2, jI a2), (3, jI x2), (4, jI x12)] ⟨rfl, rfl, rfl, rfl, rfl, trivial⟩ ?_
      exact J60 _ (by first | decide | assumption | omega)
  refine gj_icmp_ge (q := 29) (tgt := 33) (gj_dk okX8_liveTogether 13 rfl) (by decide) rfl (fun c26 => ?_) (fun c26 => ?_)
  · -- 33
    refine gj_iconst (q := 34) (gj_dk okX8_liveTogether 16 rfl) (by decide) rfl ?_
    refine gj_sub [(0, jR 44), (1, jI a1), (2, jI a2), (3, jI x2)] ⟨rfl, rfl, rfl, rfl, trivial⟩ ?_
    exact J34 _ (by first | decide | assumption | omega)
  · -- 29
    refine gj_iconst (q := 30) (gj_dk okX8_liveTogether 14 rfl) (by decide) rfl ?_
    refine gj_goto (tgt := 34) (gj_dk okX8_liveTogether 15 rfl) (by decide) ?_
    refine gj_sub [(0, jR 44), (1, jI a1), (2, jI a2), (3, jI x2)] ⟨rfl, rfl, rfl, rfl, trivial⟩ ?_
    exact J34 _ (by first | decide | assumption | omega)

set_option maxHeartbeats 4000000 in
set_option maxRecDepth 20000 in
theorem w_X8_passYear (hst : gj_Stat S) (h : w_CW M0 M)   : gj_C G l 4 0 0 yX8_passYear cX8_passYear 3 none [jR 44] S M (gj_qV fun S' M' => S = S' ∧ w_CW M0 M') := by
  refine gj_Cof (by decide +kernel) (Nat.le_of_ble_eq_true rfl) ?_
  change gj_W G l 4 0 0 yX8_passYear cX8_passYear 3 none (gj_qV fun S' M' => S = S' ∧ w_CW M0 M') 0 0 0 [(0, jR 44)] [] S M
  refine gj_iconst (q := 1) (gj_dk okX8_passYear 0 rfl) (by decide) rfl ?_
  refine gj_istore_n (q := 2) (gj_dk okX8_passYear 1 rfl) (by decide) rfl ?_
  have L2 : ∀ (k2 : Nat) (x1 : Int) (M3 : gj_M), (w_CW M0 M3) → (2147483647 - x1).toNat < k2 → gj_W G l 4 0 0 yX8_passYear cX8_passYear 3 none (gj_qV fun S' M' => S = S' ∧ w_CW M0 M') 0 0 2 [(0, jR 44), (1, jI x1)] [] S M3 := by
    intro k2
    induction k2 with
    | zero => intro x1 M3 w4 hk2; exact absurd hk2 (Nat.not_lt_zero _)
    | succ k2 ih2 =>
      intro x1 M3 w4 hk2
      refine gj_iload_n (q := 3) (gj_dk okX8_passYear 2 rfl) rfl rfl ?_
      refine gj_iconst (q := 4) (gj_dk okX8_passYear 3 rfl) (by decide) rfl ?_
      refine gj_rng (fun ho4 _ _ => ?_)
      have ha4 : -2147483648 ≤ x1 ∧ x1 < 2147483648 := gj_o1 ho4
      clear ho4
      have J36 : ∀ (M5 : gj_M), (w_CW M0 M5) → gj_W G l 4 0 0 yX8_passYear cX8_passYear 3 none (gj_qV fun S' M' => S = S' ∧ w_CW M0 M') 0 0 36 [(0, jR 44)] [] S M5 := by
        intro M5 w6
        refine gj_iconst (q := 37) (gj_dk okX8_passYear 20 rfl) (by decide) rfl ?_
        refine gj_istore_n (q := 38) (gj_dk okX8_passYear 21 rfl) (by decide) rfl ?_
        have L38 : ∀ (k8 : Nat) (x7 : Int) (M9 : gj_M), (w_CW M0 M9) → (2147483647 - x7).toNat < k8 → gj_W G l 4 0 0 yX8_passYear cX8_passYear 3 none (gj_qV fun S' M' => S = S' ∧ w_CW M0 M') 0 0 38 [(0, jR 44), (1, jI x7)] [] S M9 := by
          intro k8
          induction k8 with
          | zero => intro x7 M9 w10 hk38; exact absurd hk38 (Nat.not_lt_zero _)
          | succ k8 ih38 =>
            intro x7 M9 w10 hk38
            refine gj_iload_n (q := 39) (gj_dk okX8_passYear 22 rfl) rfl rfl ?_
            refine gj_bipush (q := 41) (gj_dk okX8_passYear 23 rfl) (by decide) rfl rfl ?_
            refine gj_rng (fun ho41 _ _ => ?_)
            have ha41 : -2147483648 ≤ x7 ∧ x7 < 2147483648 := gj_o1 ho41
            clear ho41
            have J95 : ∀ (M11 : gj_M), (w_CW M0 M11) → gj_W G l 4 0 0 yX8_passYear cX8_passYear 3 none (gj_qV fun S' M' => S = S' ∧ w_CW M0 M') 0 0 95 [(0, jR 44)] [] S M11 := by
              intro M11 w12
              refine gj_aload_n (q := 96) (gj_dk okX8_passYear 48 rfl) rfl rfl ?_
              refine gj_gR (q := 99) (j := 1) (gj_dk okX8_passYear 49 rfl) ff_X8_19 (sh44 hst) (by decide) rfl (rf44_1 hst) rfl ?_
              refine gj_dup (q := 100) (gj_dk okX8_passYear 50 rfl) rfl rfl ?_
              refine gj_gI (q := 103) (j := 0) (gj_dk okX8_passYear 51 rfl) ff_X8_115 (sh21 hst) (by decide) rfl rfl ?_
              refine gj_iconst (q := 104) (gj_dk okX8_passYear 52 rfl) (by decide) rfl ?_
              refine gj_iadd (q := 105) (gj_dk okX8_passYear 53 rfl) rfl ?_
              refine gj_pfI (q := 108) (j := 0) (gj_dk okX8_passYear 54 rfl) ff_X8_115 (sh21 hst) (by decide) rfl rfl ?_
              refine gj_abs (fun M13 e15 => ?_)
              have w14 : w_CW M0 M13 := by rw [e15]; exact w12.up (by decide) rfl
              clear e15
              exact gj_vret (gj_dk okX8_passYear 55 rfl) rfl ⟨rfl, rfl, w14⟩
            refine gj_icmp_ge (q := 44) (tgt := 95) (gj_dk okX8_passYear 24 rfl) (by decide) rfl (fun c41 => ?_) (fun c41 => ?_)
            · -- 95
              refine gj_sub [(0, jR 44)] ⟨rfl, trivial⟩ ?_
              exact J95 _ w10
            · -- 44
              refine gj_aload_n (q := 45) (gj_dk okX8_passYear 25 rfl) rfl rfl ?_
              refine gj_gR (q := 48) (j := 0) (gj_dk okX8_passYear 26 rfl) ff_X8_15 (sh44 hst) (by decide) rfl (rf44_0 hst) rfl ?_
              refine gj_iload_n (q := 49) (gj_dk okX8_passYear 27 rfl) rfl rfl ?_
              refine gj_callV (q := 52) (z := 14) (ci := 5) [jI x7] rfl (w_X5_isPerson_14 hst  _) (gj_dk okX8_passYear 28 rfl) ml_X8_143 me_X5_isPerson (sh14 hst) rfl (gj_nm rfl) rfl (gj_kI fun x17 S2 M2 h16 => ?_)
              obtain ⟨bx17, eS, eM⟩ := h16; subst eS; subst eM
              refine gj_if_eq (q := 55) (tgt := 89) (gj_dk okX8_passYear 29 rfl) (by decide) rfl (fun c52 => ?_) (fun c52 => ?_)
              · -- 89
                refine gj_iinc (q := 92) (v := x7 + 1) (gj_dk okX8_passYear 46 rfl) rfl (by decide) (gj_wle (by omega) (by omega)) rfl ?_
                refine gj_goto (tgt := 38) (gj_dk okX8_passYear 47 rfl) (by decide) ?_
                refine gj_sub [(0, jR 44), (1, jI (x7 + 1))] ⟨rfl, rfl, trivial⟩ ?_
                exact ih38 _ _ w10 (by omega)
              · -- 55
                refine gj_aload_n (q := 56) (gj_dk okX8_passYear 30 rfl) rfl rfl ?_
                refine gj_gR (q := 59) (j := 1) (gj_dk okX8_passYear 31 rfl) ff_X8_19 (sh44 hst) (by decide) rfl (rf44_1 hst) rfl ?_
                refine gj_gR (q := 62) (j := 3) (gj_dk okX8_passYear 32 rfl) ff_X8_62 (sh21 hst) (by decide) rfl (rf21_3 hst) rfl ?_
                refine gj_iload_n (q := 63) (gj_dk okX8_passYear 33 rfl) rfl rfl ?_
                refine gj_callS (q := 66) [jR 22, jI x7] rfl (c_X7_at (sh22 hst) (by decide) (by decide) _) (gj_dk okX8_passYear 34 rfl) ml_X8_66 me_X7_at (gj_nm rfl) rfl (gj_kI fun x21 S2 M2 h20 => ?_)
                obtain ⟨-, eS, eM⟩ := h20; subst eS; subst eM
                refine gj_iconst (q := 67) (gj_dk okX8_passYear 35 rfl) (by decide) rfl ?_
                refine gj_rng (fun ho67 _ _ => ?_)
                have ha67 : -2147483648 ≤ x21 ∧ x21 < 2147483648 := gj_o1 ho67
                clear ho67
                refine gj_icmp_ne (q := 70) (tgt := 89) (gj_dk okX8_passYear 36 rfl) (by decide) rfl (fun c67 => ?_) (fun c67 => ?_)
                · -- 89
                  refine gj_iinc (q := 92) (v := x7 + 1) (gj_dk okX8_passYear 46 rfl) rfl (by decide) (gj_wle (by omega) (by omega)) rfl ?_
                  refine gj_goto (tgt := 38) (gj_dk okX8_passYear 47 rfl) (by decide) ?_
                  refine gj_sub [(0, jR 44), (1, jI (x7 + 1))] ⟨rfl, rfl, trivial⟩ ?_
                  exact ih38 _ _ w10 (by omega)
                · -- 70
                  refine gj_aload_n (q := 71) (gj_dk okX8_passYear 37 rfl) rfl rfl ?_
                  refine gj_gR (q := 74) (j := 1) (gj_dk okX8_passYear 38 rfl) ff_X8_19 (sh44 hst) (by decide) rfl (rf44_1 hst) rfl ?_
                  refine gj_iload_n (q := 75) (gj_dk okX8_passYear 39 rfl) rfl rfl ?_
                  refine gj_aload_n (q := 76) (gj_dk okX8_passYear 40 rfl) rfl rfl ?_
                  refine gj_gR (q := 79) (j := 0) (gj_dk okX8_passYear 41 rfl) ff_X8_15 (sh44 hst) (by decide) rfl (rf44_0 hst) rfl ?_
                  refine gj_gR (q := 82) (j := 10) (gj_dk okX8_passYear 42 rfl) ff_X8_146 (sh14 hst) (by decide) rfl (rf14_10 hst) rfl ?_
                  refine gj_iload_n (q := 83) (gj_dk okX8_passYear 43 rfl) rfl rfl ?_
                  refine gj_callS (q := 86) [jR 15, jI x7] rfl (c_X7_at (sh15 hst) (by decide) (by decide) _) (gj_dk okX8_passYear 44 rfl) ml_X8_66 me_X7_at (gj_nm rfl) rfl (gj_kI fun x24 S2 M2 h23 => ?_)
                  obtain ⟨-, eS, eM⟩ := h23; subst eS; subst eM
                  refine gj_callV (q := 89) (z := 21) (ci := 3) [jI x7, jI x24] rfl (w_X3_earn hst w10  _ _) (gj_dk okX8_passYear 45 rfl) ml_X8_108 me_X3_earn (sh21 hst) rfl (gj_nm rfl) rfl (gj_kV fun S2 M2 h26 => ?_)
                  obtain ⟨eS, w29⟩ := h26; subst eS
                  revert w29; generalize M2 = M30; intro w29
                  refine gj_iinc (q := 92) (v := x7 + 1) (gj_dk okX8_passYear 46 rfl) rfl (by decide) (gj_wle (by omega) (by omega)) rfl ?_
                  refine gj_goto (tgt := 38) (gj_dk okX8_passYear 47 rfl) (by decide) ?_
                  refine gj_sub [(0, jR 44), (1, jI (x7 + 1))] ⟨rfl, rfl, trivial⟩ ?_
                  exact ih38 _ _ w29 (by omega)
        refine gj_sub [(0, jR 44), (1, jI 0)] ⟨rfl, rfl, trivial⟩ ?_
        exact L38 _ _ _ w6 (Nat.lt_succ_self _)
      refine gj_icmp_ge (q := 7) (tgt := 36) (gj_dk okX8_passYear 4 rfl) (by decide) rfl (fun c4 => ?_) (fun c4 => ?_)
      · -- 36
        refine gj_sub [(0, jR 44)] ⟨rfl, trivial⟩ ?_
        exact J36 _ w4
      · -- 7
        refine gj_aload_n (q := 8) (gj_dk okX8_passYear 5 rfl) rfl rfl ?_
        refine gj_gR (q := 11) (j := 1) (gj_dk okX8_passYear 6 rfl) ff_X8_19 (sh44 hst) (by decide) rfl (rf44_1 hst) rfl ?_
        refine gj_gR (q := 14) (j := 3) (gj_dk okX8_passYear 7 rfl) ff_X8_62 (sh21 hst) (by decide) rfl (rf21_3 hst) rfl ?_
        refine gj_iload_n (q := 15) (gj_dk okX8_passYear 8 rfl) rfl rfl ?_
        refine gj_callS (q := 18) [jR 22, jI x1] rfl (c_X7_at (sh22 hst) (by decide) (by decide) _) (gj_dk okX8_passYear 9 rfl) ml_X8_66 me_X7_at (gj_nm rfl) rfl (gj_kI fun x32 S2 M2 h31 => ?_)
        obtain ⟨-, eS, eM⟩ := h31; subst eS; subst eM
        refine gj_istore_n (q := 19) (gj_dk okX8_passYear 10 rfl) (by decide) rfl ?_
        refine gj_iload_n (q := 20) (gj_dk okX8_passYear 11 rfl) rfl rfl ?_
        refine gj_iconst (q := 21) (gj_dk okX8_passYear 12 rfl) (by decide) rfl ?_
        refine gj_rng (fun ho21 _ _ => ?_)
        have ha21 : -2147483648 ≤ x32 ∧ x32 < 2147483648 := gj_o1 ho21
        clear ho21
        refine gj_icmp_eq (q := 24) (tgt := 30) (gj_dk okX8_passYear 13 rfl) (by decide) rfl (fun c21 => ?_) (fun c21 => ?_)
        · -- 30
          refine gj_iinc (q := 33) (v := x1 + 1) (gj_dk okX8_passYear 18 rfl) rfl (by decide) (gj_wle (by omega) (by omega)) rfl ?_
          refine gj_goto (tgt := 2) (gj_dk okX8_passYear 19 rfl) (by decide) ?_
          refine gj_sub [(0, jR 44), (1, jI (x1 + 1))] ⟨rfl, rfl, trivial⟩ ?_
          exact ih2 _ _ w4 (by omega)
        · -- 24
          refine gj_aload_n (q := 25) (gj_dk okX8_passYear 14 rfl) rfl rfl ?_
          refine gj_iload_n (q := 26) (gj_dk okX8_passYear 15 rfl) rfl rfl ?_
          refine gj_iload_n (q := 27) (gj_dk okX8_passYear 16 rfl) rfl rfl ?_
          refine gj_callV (q := 30) (z := 44) (ci := 7) [jI x1, jI x32] rfl (w_X8_liveTogether hst w4  _ _) (gj_dk okX8_passYear 17 rfl) ml_X8_140 me_X8_liveTogether (sh44 hst) rfl (gj_nm rfl) rfl (gj_kV fun S2 M2 h34 => ?_)
          obtain ⟨eS, w37⟩ := h34; subst eS
          revert w37; generalize M2 = M38; intro w37
          refine gj_iinc (q := 33) (v := x1 + 1) (gj_dk okX8_passYear 18 rfl) rfl (by decide) (gj_wle (by omega) (by omega)) rfl ?_
          refine gj_goto (tgt := 2) (gj_dk okX8_passYear 19 rfl) (by decide) ?_
          refine gj_sub [(0, jR 44), (1, jI (x1 + 1))] ⟨rfl, rfl, trivial⟩ ?_
          exact ih2 _ _ w37 (by omega)
  refine gj_sub [(0, jR 44), (1, jI 0)] ⟨rfl, rfl, trivial⟩ ?_
  exact L2 _ _ _ h (Nat.lt_succ_self _)

set_option maxHeartbeats 4000000 in
set_option maxRecDepth 20000 in
theorem w_X8_hold (hst : gj_Stat S) (h : w_CW M0 M)   : gj_C G l 13 0 0 yX8_hold cX8_hold 1 none [jR 44] S M (gj_qV fun S' M' => S = S' ∧ w_CW M0 M') := by
  refine gj_Cof (by decide +kernel) (Nat.le_of_ble_eq_true rfl) ?_
  change gj_W G l 13 0 0 yX8_hold cX8_hold 1 none (gj_qV fun S' M' => S = S' ∧ w_CW M0 M') 0 0 0 [(0, jR 44)] [] S M
  refine gj_aload_n (q := 1) (gj_dk okX8_hold 0 rfl) rfl rfl ?_
  refine gj_callV (q := 4) (z := 44) (ci := 7) [] rfl (w_X8_askPaired hst h  ) (gj_dk okX8_hold 1 rfl) ml_X8_31 me_X8_askPaired (sh44 hst) rfl (gj_nm rfl) rfl (gj_kV fun S2 M2 h1 => ?_)
  obtain ⟨eS, w4⟩ := h1; subst eS
  revert w4; generalize M2 = M5; intro w4
  refine gj_aload_n (q := 5) (gj_dk okX8_hold 2 rfl) rfl rfl ?_
  refine gj_callV (q := 8) (z := 44) (ci := 7) [] rfl (w_X8_endPairs hst w4  ) (gj_dk okX8_hold 3 rfl) ml_X8_34 me_X8_endPairs (sh44 hst) rfl (gj_nm rfl) rfl (gj_kV fun S2 M2 h6 => ?_)
  obtain ⟨eS, w9⟩ := h6; subst eS
  revert w9; generalize M2 = M10; intro w9
  refine gj_aload_n (q := 9) (gj_dk okX8_hold 4 rfl) rfl rfl ?_
  refine gj_gR (q := 12) (j := 3) (gj_dk okX8_hold 5 rfl) ff_X8_27 (sh44 hst) (by decide) rfl (rf44_3 hst) rfl ?_
  refine gj_iconst (q := 13) (gj_dk okX8_hold 6 rfl) (by decide) rfl ?_
  refine gj_callV (q := 16) (z := 35) (ci := 2) [jI 0] rfl (w_X2_gather hst w9  _) (gj_dk okX8_hold 7 rfl) ml_X8_37 me_X2_gather (sh35 hst) rfl (gj_nm rfl) rfl (gj_kV fun S2 M2 h11 => ?_)
  obtain ⟨eS, w14⟩ := h11; subst eS
  revert w14; generalize M2 = M15; intro w14
  refine gj_aload_n (q := 17) (gj_dk okX8_hold 8 rfl) rfl rfl ?_
  refine gj_gR (q := 20) (j := 3) (gj_dk okX8_hold 9 rfl) ff_X8_27 (sh44 hst) (by decide) rfl (rf44_3 hst) rfl ?_
  refine gj_iconst (q := 21) (gj_dk okX8_hold 10 rfl) (by decide) rfl ?_
  refine gj_callV (q := 24) (z := 35) (ci := 2) [jI 1] rfl (w_X2_look hst w14  _) (gj_dk okX8_hold 11 rfl) ml_X8_43 me_X2_look (sh35 hst) rfl (gj_nm rfl) rfl (gj_kV fun S2 M2 h16 => ?_)
  obtain ⟨eS, w19⟩ := h16; subst eS
  revert w19; generalize M2 = M20; intro w19
  refine gj_aload_n (q := 25) (gj_dk okX8_hold 12 rfl) rfl rfl ?_
  refine gj_gR (q := 28) (j := 3) (gj_dk okX8_hold 13 rfl) ff_X8_27 (sh44 hst) (by decide) rfl (rf44_3 hst) rfl ?_
  refine gj_aload_n (q := 29) (gj_dk okX8_hold 14 rfl) rfl rfl ?_
  refine gj_gR (q := 32) (j := 1) (gj_dk okX8_hold 15 rfl) ff_X8_19 (sh44 hst) (by decide) rfl (rf44_1 hst) rfl ?_
  refine gj_gI (q := 35) (j := 1) (gj_dk okX8_hold 16 rfl) ff_X8_46 (sh21 hst) (by decide) rfl rfl ?_
  refine gj_callV (q := 38) (z := 35) (ci := 2) [jI (M20 21 1)] rfl (w_X2_pairUp hst w19  _) (gj_dk okX8_hold 17 rfl) ml_X8_52 me_X2_pairUp (sh35 hst) rfl (gj_nm rfl) rfl (gj_kV fun S2 M2 h21 => ?_)
  obtain ⟨eS, w24⟩ := h21; subst eS
  revert w24; generalize M2 = M25; intro w24
  refine gj_aload_n (q := 39) (gj_dk okX8_hold 18 rfl) rfl rfl ?_
  refine gj_callV (q := 42) (z := 44) (ci := 7) [] rfl (w_X8_bindNewPairs hst w24  ) (gj_dk okX8_hold 19 rfl) ml_X8_56 me_X8_bindNewPairs (sh44 hst) rfl (gj_nm rfl) rfl (gj_kV fun S2 M2 h26 => ?_)
  obtain ⟨eS, w29⟩ := h26; subst eS
  revert w29; generalize M2 = M30; intro w29
  refine gj_aload_n (q := 43) (gj_dk okX8_hold 20 rfl) rfl rfl ?_
  refine gj_callV (q := 46) (z := 44) (ci := 7) [] rfl (w_X8_passYear hst w29  ) (gj_dk okX8_hold 21 rfl) ml_X8_59 me_X8_passYear (sh44 hst) rfl (gj_nm rfl) rfl (gj_kV fun S2 M2 h31 => ?_)
  obtain ⟨eS, w34⟩ := h31; subst eS
  revert w34; generalize M2 = M35; intro w34
  exact gj_vret (gj_dk okX8_hold 22 rfl) rfl ⟨rfl, rfl, w34⟩

set_option maxHeartbeats 4000000 in
set_option maxRecDepth 20000 in
theorem w_X11_may (hst : gj_Stat S) (h : w_CW M0 M) (a1 : Int)  : gj_C G l 14 0 0 yX11_may cX11_may 3 (some .int) [jR 0, jI a1] S M (gj_qI fun x S' M' => S = S' ∧ w_CW M0 M') := by
  refine gj_Cof (by decide +kernel) (Nat.le_of_ble_eq_true rfl) ?_
  change gj_W G l 14 0 0 yX11_may cX11_may 3 (some .int) (gj_qI fun x S' M' => S = S' ∧ w_CW M0 M') 0 0 0 [(0, jR 0), (1, jI a1)] [] S M
  refine gj_iload_n (q := 1) (gj_dk okX11_may 0 rfl) rfl rfl ?_
  refine gj_iconst (q := 2) (gj_dk okX11_may 1 rfl) (by decide) rfl ?_
  refine gj_icmp_lt (q := 5) (tgt := 21) (gj_dk okX11_may 2 rfl) (by decide) rfl (fun c2 => ?_) (fun c2 => ?_)
  · -- 21
    refine gj_aload_n (q := 22) (gj_dk okX11_may 10 rfl) rfl rfl ?_
    refine gj_iconst (q := 23) (gj_dk okX11_may 11 rfl) (by decide) rfl ?_
    refine gj_callV (q := 26) (z := 0) (ci := 9) [jI 2] rfl (w_X11_refuse hst h  _) (gj_dk okX11_may 12 rfl) ml_X11_92 me_X11_refuse (sh0 hst) rfl (gj_nm rfl) rfl (gj_kI fun x2 S2 M2 h1 => ?_)
    obtain ⟨bx2, eS, w4⟩ := h1; subst eS
    revert w4; generalize M2 = M5; intro w4
    refine gj_pop (q := 27) (gj_dk okX11_may 13 rfl) rfl rfl ?_
    refine gj_iconst (q := 28) (gj_dk okX11_may 14 rfl) (by decide) rfl ?_
    exact gj_iret (gj_dk okX11_may 15 rfl) rfl ⟨_, rfl, rfl, w4⟩
  · -- 5
    refine gj_iload_n (q := 6) (gj_dk okX11_may 3 rfl) rfl rfl ?_
    refine gj_bipush (q := 8) (gj_dk okX11_may 4 rfl) (by decide) rfl rfl ?_
    refine gj_icmp_gt (q := 11) (tgt := 21) (gj_dk okX11_may 5 rfl) (by decide) rfl (fun c8 => ?_) (fun c8 => ?_)
    · -- 21
      refine gj_aload_n (q := 22) (gj_dk okX11_may 10 rfl) rfl rfl ?_
      refine gj_iconst (q := 23) (gj_dk okX11_may 11 rfl) (by decide) rfl ?_
      refine gj_callV (q := 26) (z := 0) (ci := 9) [jI 2] rfl (w_X11_refuse hst h  _) (gj_dk okX11_may 12 rfl) ml_X11_92 me_X11_refuse (sh0 hst) rfl (gj_nm rfl) rfl (gj_kI fun x7 S2 M2 h6 => ?_)
      obtain ⟨bx7, eS, w9⟩ := h6; subst eS
      revert w9; generalize M2 = M10; intro w9
      refine gj_pop (q := 27) (gj_dk okX11_may 13 rfl) rfl rfl ?_
      refine gj_iconst (q := 28) (gj_dk okX11_may 14 rfl) (by decide) rfl ?_
      exact gj_iret (gj_dk okX11_may 15 rfl) rfl ⟨_, rfl, rfl, w9⟩
    · -- 11
      refine gj_aload_n (q := 12) (gj_dk okX11_may 6 rfl) rfl rfl ?_
      refine gj_gR (q := 15) (j := 3) (gj_dk okX11_may 7 rfl) ff_X11_32 (sh0 hst) (by decide) rfl (rf0_3 hst) rfl ?_
      refine gj_callV (q := 18) (z := 14) (ci := 5) [] rfl (w_X5_stands_14 hst  ) (gj_dk okX11_may 8 rfl) ml_X11_268 me_X5_stands (sh14 hst) rfl (gj_nm rfl) rfl (gj_kI fun x12 S2 M2 h11 => ?_)
      obtain ⟨bx12, eS, eM⟩ := h11; subst eS; subst eM
      refine gj_if_ne (q := 21) (tgt := 29) (gj_dk okX11_may 9 rfl) (by decide) rfl (fun c18 => ?_) (fun c18 => ?_)
      · -- 29
        refine gj_iconst (q := 30) (gj_dk okX11_may 16 rfl) (by decide) rfl ?_
        refine gj_istore_n (q := 31) (gj_dk okX11_may 17 rfl) (by decide) rfl ?_
        have L31 : ∀ (k16 : Nat) (x15 : Int) (M17 : gj_M), (w_CW M0 M17) → (2147483647 - x15).toNat < k16 → gj_W G l 14 0 0 yX11_may cX11_may 3 (some .int) (gj_qI fun x S' M' => S = S' ∧ w_CW M0 M') 0 0 31 [(0, jR 0), (1, jI a1), (2, jI x15)] [] S M17 := by
          intro k16
          induction k16 with
          | zero => intro x15 M17 w18 hk31; exact absurd hk31 (Nat.not_lt_zero _)
          | succ k16 ih31 =>
            intro x15 M17 w18 hk31
            refine gj_iload_n (q := 32) (gj_dk okX11_may 18 rfl) rfl rfl ?_
            refine gj_iload_n (q := 33) (gj_dk okX11_may 19 rfl) rfl rfl ?_
            refine gj_rng (fun ho33 _ _ => ?_)
            have hb33 : -2147483648 ≤ a1 ∧ a1 < 2147483648 := gj_o0 ho33
            have ha33 : -2147483648 ≤ x15 ∧ x15 < 2147483648 := gj_o1 ho33
            clear ho33
            refine gj_icmp_ge (q := 36) (tgt := 49) (gj_dk okX11_may 20 rfl) (by decide) rfl (fun c33 => ?_) (fun c33 => ?_)
            · -- 49
              refine gj_aload_n (q := 50) (gj_dk okX11_may 26 rfl) rfl rfl ?_
              refine gj_gR (q := 53) (j := 4) (gj_dk okX11_may 27 rfl) ff_X11_38 (sh0 hst) (by decide) rfl (rf0_4 hst) rfl ?_
              refine gj_gI (q := 56) (j := 0) (gj_dk okX11_may 28 rfl) ff_X11_275 (sh21 hst) (by decide) rfl rfl ?_
              exact gj_iret (gj_dk okX11_may 29 rfl) rfl ⟨_, rfl, rfl, w18⟩
            · -- 36
              refine gj_aload_n (q := 37) (gj_dk okX11_may 21 rfl) rfl rfl ?_
              refine gj_gR (q := 40) (j := 8) (gj_dk okX11_may 22 rfl) ff_X11_72 (sh0 hst) (by decide) rfl (rf0_8 hst) rfl ?_
              refine gj_callV (q := 43) (z := 44) (ci := 7) [] rfl (w_X8_hold hst w18  ) (gj_dk okX11_may 23 rfl) ml_X11_272 me_X8_hold (sh44 hst) rfl (gj_nm rfl) rfl (gj_kV fun S2 M2 h19 => ?_)
              obtain ⟨eS, w22⟩ := h19; subst eS
              revert w22; generalize M2 = M23; intro w22
              refine gj_iinc (q := 46) (v := x15 + 1) (gj_dk okX11_may 24 rfl) rfl (by decide) (gj_wle (by omega) (by omega)) rfl ?_
              refine gj_goto (tgt := 31) (gj_dk okX11_may 25 rfl) (by decide) ?_
              refine gj_sub [(0, jR 0), (1, jI a1), (2, jI (x15 + 1))] ⟨rfl, rfl, rfl, trivial⟩ ?_
              exact ih31 _ _ w22 (by omega)
        refine gj_sub [(0, jR 0), (1, jI a1), (2, jI 0)] ⟨rfl, rfl, rfl, trivial⟩ ?_
        exact L31 _ _ _ h (Nat.lt_succ_self _)
      · -- 21
        refine gj_aload_n (q := 22) (gj_dk okX11_may 10 rfl) rfl rfl ?_
        refine gj_iconst (q := 23) (gj_dk okX11_may 11 rfl) (by decide) rfl ?_
        refine gj_callV (q := 26) (z := 0) (ci := 9) [jI 2] rfl (w_X11_refuse hst h  _) (gj_dk okX11_may 12 rfl) ml_X11_92 me_X11_refuse (sh0 hst) rfl (gj_nm rfl) rfl (gj_kI fun x25 S2 M2 h24 => ?_)
        obtain ⟨bx25, eS, w27⟩ := h24; subst eS
        revert w27; generalize M2 = M28; intro w27
        refine gj_pop (q := 27) (gj_dk okX11_may 13 rfl) rfl rfl ?_
        refine gj_iconst (q := 28) (gj_dk okX11_may 14 rfl) (by decide) rfl ?_
        exact gj_iret (gj_dk okX11_may 15 rfl) rfl ⟨_, rfl, rfl, w27⟩

set_option maxHeartbeats 4000000 in
set_option maxRecDepth 20000 in
theorem w_X11_join (hst : gj_Stat S) (h : w_CW M0 M) (a1 a2 : Int)  : gj_C G l 3 0 0 yX11_join cX11_join 5 (some .boolean) [jR 0, jI a1, jI a2] S M (gj_qI fun x S' M' => (x = 0 ∨ x = 1) ∧ S = S' ∧ w_CW M0 M') := by
  refine gj_Cof (by decide +kernel) (Nat.le_of_ble_eq_true rfl) ?_
  change gj_W G l 3 0 0 yX11_join cX11_join 5 (some .boolean) (gj_qI fun x S' M' => (x = 0 ∨ x = 1) ∧ S = S' ∧ w_CW M0 M') 0 0 0 [(0, jR 0), (1, jI a1), (2, jI a2)] [] S M
  refine gj_aload_n (q := 1) (gj_dk okX11_join 0 rfl) rfl rfl ?_
  refine gj_gR (q := 4) (j := 3) (gj_dk okX11_join 1 rfl) ff_X11_32 (sh0 hst) (by decide) rfl (rf0_3 hst) rfl ?_
  refine gj_iload_n (q := 5) (gj_dk okX11_join 2 rfl) rfl rfl ?_
  refine gj_callV (q := 8) (z := 14) (ci := 5) [jI a1] rfl (w_X5_slotOf hst  _) (gj_dk okX11_join 3 rfl) ml_X11_131 me_X5_slotOf (sh14 hst) rfl (gj_nm rfl) rfl (gj_kI fun x2 S2 M2 h1 => ?_)
  obtain ⟨eS, eM⟩ := h1; subst eS; subst eM
  refine gj_istore_n (q := 9) (gj_dk okX11_join 4 rfl) (by decide) rfl ?_
  refine gj_aload_n (q := 10) (gj_dk okX11_join 5 rfl) rfl rfl ?_
  refine gj_gR (q := 13) (j := 3) (gj_dk okX11_join 6 rfl) ff_X11_32 (sh0 hst) (by decide) rfl (rf0_3 hst) rfl ?_
  refine gj_iload_n (q := 14) (gj_dk okX11_join 7 rfl) rfl rfl ?_
  refine gj_callV (q := 17) (z := 14) (ci := 5) [jI a2] rfl (w_X5_slotOf hst  _) (gj_dk okX11_join 8 rfl) ml_X11_131 me_X5_slotOf (sh14 hst) rfl (gj_nm rfl) rfl (gj_kI fun x6 S2 M2 h5 => ?_)
  obtain ⟨eS, eM⟩ := h5; subst eS; subst eM
  refine gj_istore (q := 19) (gj_dk okX11_join 9 rfl) (by decide) rfl ?_
  refine gj_iload_n (q := 20) (gj_dk okX11_join 10 rfl) rfl rfl ?_
  refine gj_iload (q := 22) (gj_dk okX11_join 11 rfl) rfl rfl ?_
  refine gj_callS (q := 25) [jI x2, jI x6] rfl (c_X10_unlike _ _) (gj_dk okX11_join 12 rfl) ml_X11_157 me_X10_unlike (gj_nm rfl) rfl (gj_kI fun x10 S2 M2 h9 => ?_)
  have bx10 : x10 = 0 ∨ x10 = 1 := by rw [← h9.1]; exact f_unl_01 _ _
  obtain ⟨-, eS, eM⟩ := h9; subst eS; subst eM
  refine gj_if_eq (q := 28) (tgt := 34) (gj_dk okX11_join 13 rfl) (by decide) rfl (fun c25 => ?_) (fun c25 => ?_)
  · -- 34
    refine gj_aload_n (q := 35) (gj_dk okX11_join 17 rfl) rfl rfl ?_
    refine gj_iconst (q := 36) (gj_dk okX11_join 18 rfl) (by decide) rfl ?_
    refine gj_callV (q := 39) (z := 0) (ci := 9) [jI 0] rfl (w_X11_refuse hst h  _) (gj_dk okX11_join 19 rfl) ml_X11_92 me_X11_refuse (sh0 hst) rfl (gj_nm rfl) rfl (gj_kI fun x13 S2 M2 h12 => ?_)
    obtain ⟨bx13, eS, w15⟩ := h12; subst eS
    revert w15; generalize M2 = M16; intro w15
    exact gj_zret (gj_dk okX11_join 20 rfl) rfl (by first | decide | assumption | omega) ⟨_, rfl, (by first | decide | assumption | omega), rfl, w15⟩
  · -- 28
    refine gj_iload_n (q := 29) (gj_dk okX11_join 14 rfl) rfl rfl ?_
    refine gj_iload (q := 31) (gj_dk okX11_join 15 rfl) rfl rfl ?_
    refine gj_icmp_le (q := 34) (tgt := 40) (gj_dk okX11_join 16 rfl) (by decide) rfl (fun c31 => ?_) (fun c31 => ?_)
    · -- 40
      refine gj_aload_n (q := 41) (gj_dk okX11_join 21 rfl) rfl rfl ?_
      refine gj_gR (q := 44) (j := 4) (gj_dk okX11_join 22 rfl) ff_X11_38 (sh0 hst) (by decide) rfl (rf0_4 hst) rfl ?_
      refine gj_gR (q := 47) (j := 3) (gj_dk okX11_join 23 rfl) ff_X11_143 (sh21 hst) (by decide) rfl (rf21_3 hst) rfl ?_
      refine gj_iload_n (q := 48) (gj_dk okX11_join 24 rfl) rfl rfl ?_
      refine gj_callS (q := 51) [jR 22, jI x2] rfl (c_X7_at (sh22 hst) (by decide) (by decide) _) (gj_dk okX11_join 25 rfl) ml_X11_139 me_X7_at (gj_nm rfl) rfl (gj_kI fun x18 S2 M2 h17 => ?_)
      obtain ⟨-, eS, eM⟩ := h17; subst eS; subst eM
      refine gj_iconst (q := 52) (gj_dk okX11_join 26 rfl) (by decide) rfl ?_
      refine gj_icmp_ne (q := 55) (tgt := 71) (gj_dk okX11_join 27 rfl) (by decide) rfl (fun c52 => ?_) (fun c52 => ?_)
      · -- 71
        refine gj_aload_n (q := 72) (gj_dk okX11_join 35 rfl) rfl rfl ?_
        refine gj_iconst (q := 73) (gj_dk okX11_join 36 rfl) (by decide) rfl ?_
        refine gj_callV (q := 76) (z := 0) (ci := 9) [jI 2] rfl (w_X11_refuse hst h  _) (gj_dk okX11_join 37 rfl) ml_X11_92 me_X11_refuse (sh0 hst) rfl (gj_nm rfl) rfl (gj_kI fun x21 S2 M2 h20 => ?_)
        obtain ⟨bx21, eS, w23⟩ := h20; subst eS
        revert w23; generalize M2 = M24; intro w23
        exact gj_zret (gj_dk okX11_join 38 rfl) rfl (by first | decide | assumption | omega) ⟨_, rfl, (by first | decide | assumption | omega), rfl, w23⟩
      · -- 55
        refine gj_aload_n (q := 56) (gj_dk okX11_join 28 rfl) rfl rfl ?_
        refine gj_gR (q := 59) (j := 4) (gj_dk okX11_join 29 rfl) ff_X11_38 (sh0 hst) (by decide) rfl (rf0_4 hst) rfl ?_
        refine gj_gR (q := 62) (j := 3) (gj_dk okX11_join 30 rfl) ff_X11_143 (sh21 hst) (by decide) rfl (rf21_3 hst) rfl ?_
        refine gj_iload (q := 64) (gj_dk okX11_join 31 rfl) rfl rfl ?_
        refine gj_callS (q := 67) [jR 22, jI x6] rfl (c_X7_at (sh22 hst) (by decide) (by decide) _) (gj_dk okX11_join 32 rfl) ml_X11_139 me_X7_at (gj_nm rfl) rfl (gj_kI fun x26 S2 M2 h25 => ?_)
        obtain ⟨-, eS, eM⟩ := h25; subst eS; subst eM
        refine gj_iconst (q := 68) (gj_dk okX11_join 33 rfl) (by decide) rfl ?_
        refine gj_icmp_eq (q := 71) (tgt := 77) (gj_dk okX11_join 34 rfl) (by decide) rfl (fun c68 => ?_) (fun c68 => ?_)
        · -- 77
          refine gj_aload_n (q := 78) (gj_dk okX11_join 39 rfl) rfl rfl ?_
          refine gj_gR (q := 81) (j := 4) (gj_dk okX11_join 40 rfl) ff_X11_38 (sh0 hst) (by decide) rfl (rf0_4 hst) rfl ?_
          refine gj_iload_n (q := 82) (gj_dk okX11_join 41 rfl) rfl rfl ?_
          refine gj_iload (q := 84) (gj_dk okX11_join 42 rfl) rfl rfl ?_
          refine gj_callV (q := 87) (z := 21) (ci := 3) [jI x2, jI x6] rfl (w_X3_bind hst h  _ _) (gj_dk okX11_join 43 rfl) ml_X11_278 me_X3_bind (sh21 hst) rfl (gj_nm rfl) rfl (gj_kV fun S2 M2 h28 => ?_)
          obtain ⟨eS, w31⟩ := h28; subst eS
          revert w31; generalize M2 = M32; intro w31
          refine gj_iconst (q := 88) (gj_dk okX11_join 44 rfl) (by decide) rfl ?_
          exact gj_zret (gj_dk okX11_join 45 rfl) rfl (by first | decide | assumption | omega) ⟨_, rfl, (by first | decide | assumption | omega), rfl, w31⟩
        · -- 71
          refine gj_aload_n (q := 72) (gj_dk okX11_join 35 rfl) rfl rfl ?_
          refine gj_iconst (q := 73) (gj_dk okX11_join 36 rfl) (by decide) rfl ?_
          refine gj_callV (q := 76) (z := 0) (ci := 9) [jI 2] rfl (w_X11_refuse hst h  _) (gj_dk okX11_join 37 rfl) ml_X11_92 me_X11_refuse (sh0 hst) rfl (gj_nm rfl) rfl (gj_kI fun x34 S2 M2 h33 => ?_)
          obtain ⟨bx34, eS, w36⟩ := h33; subst eS
          revert w36; generalize M2 = M37; intro w36
          exact gj_zret (gj_dk okX11_join 38 rfl) rfl (by first | decide | assumption | omega) ⟨_, rfl, (by first | decide | assumption | omega), rfl, w36⟩
    · -- 34
      refine gj_aload_n (q := 35) (gj_dk okX11_join 17 rfl) rfl rfl ?_
      refine gj_iconst (q := 36) (gj_dk okX11_join 18 rfl) (by decide) rfl ?_
      refine gj_callV (q := 39) (z := 0) (ci := 9) [jI 0] rfl (w_X11_refuse hst h  _) (gj_dk okX11_join 19 rfl) ml_X11_92 me_X11_refuse (sh0 hst) rfl (gj_nm rfl) rfl (gj_kI fun x39 S2 M2 h38 => ?_)
      obtain ⟨bx39, eS, w41⟩ := h38; subst eS
      revert w41; generalize M2 = M42; intro w41
      exact gj_zret (gj_dk okX11_join 20 rfl) rfl (by first | decide | assumption | omega) ⟨_, rfl, (by first | decide | assumption | omega), rfl, w41⟩

set_option maxHeartbeats 4000000 in
set_option maxRecDepth 20000 in
theorem w_X11_part (hst : gj_Stat S) (h : w_CW M0 M) (a1 : Int)  : gj_C G l 4 0 0 yX11_part cX11_part 4 (some .boolean) [jR 0, jI a1] S M (gj_qI fun x S' M' => (x = 0 ∨ x = 1) ∧ S = S' ∧ w_CW M0 M') := by
  refine gj_Cof (by decide +kernel) (Nat.le_of_ble_eq_true rfl) ?_
  change gj_W G l 4 0 0 yX11_part cX11_part 4 (some .boolean) (gj_qI fun x S' M' => (x = 0 ∨ x = 1) ∧ S = S' ∧ w_CW M0 M') 0 0 0 [(0, jR 0), (1, jI a1)] [] S M
  refine gj_aload_n (q := 1) (gj_dk okX11_part 0 rfl) rfl rfl ?_
  refine gj_gR (q := 4) (j := 3) (gj_dk okX11_part 1 rfl) ff_X11_32 (sh0 hst) (by decide) rfl (rf0_3 hst) rfl ?_
  refine gj_iload_n (q := 5) (gj_dk okX11_part 2 rfl) rfl rfl ?_
  refine gj_callV (q := 8) (z := 14) (ci := 5) [jI a1] rfl (w_X5_slotOf hst  _) (gj_dk okX11_part 3 rfl) ml_X11_131 me_X5_slotOf (sh14 hst) rfl (gj_nm rfl) rfl (gj_kI fun x2 S2 M2 h1 => ?_)
  obtain ⟨eS, eM⟩ := h1; subst eS; subst eM
  refine gj_istore_n (q := 9) (gj_dk okX11_part 4 rfl) (by decide) rfl ?_
  refine gj_iload_n (q := 10) (gj_dk okX11_part 5 rfl) rfl rfl ?_
  refine gj_iconst (q := 11) (gj_dk okX11_part 6 rfl) (by decide) rfl ?_
  refine gj_icmp_ne (q := 14) (tgt := 20) (gj_dk okX11_part 7 rfl) (by decide) rfl (fun c11 => ?_) (fun c11 => ?_)
  · -- 20
    refine gj_aload_n (q := 21) (gj_dk okX11_part 12 rfl) rfl rfl ?_
    refine gj_gR (q := 24) (j := 4) (gj_dk okX11_part 13 rfl) ff_X11_38 (sh0 hst) (by decide) rfl (rf0_4 hst) rfl ?_
    refine gj_gR (q := 27) (j := 3) (gj_dk okX11_part 14 rfl) ff_X11_143 (sh21 hst) (by decide) rfl (rf21_3 hst) rfl ?_
    refine gj_iload_n (q := 28) (gj_dk okX11_part 15 rfl) rfl rfl ?_
    refine gj_callS (q := 31) [jR 22, jI x2] rfl (c_X7_at (sh22 hst) (by decide) (by decide) _) (gj_dk okX11_part 16 rfl) ml_X11_139 me_X7_at (gj_nm rfl) rfl (gj_kI fun x6 S2 M2 h5 => ?_)
    obtain ⟨-, eS, eM⟩ := h5; subst eS; subst eM
    refine gj_istore_n (q := 32) (gj_dk okX11_part 17 rfl) (by decide) rfl ?_
    refine gj_iload_n (q := 33) (gj_dk okX11_part 18 rfl) rfl rfl ?_
    refine gj_iconst (q := 34) (gj_dk okX11_part 19 rfl) (by decide) rfl ?_
    refine gj_icmp_ne (q := 37) (tgt := 43) (gj_dk okX11_part 20 rfl) (by decide) rfl (fun c34 => ?_) (fun c34 => ?_)
    · -- 43
      refine gj_aload_n (q := 44) (gj_dk okX11_part 25 rfl) rfl rfl ?_
      refine gj_gR (q := 47) (j := 4) (gj_dk okX11_part 26 rfl) ff_X11_38 (sh0 hst) (by decide) rfl (rf0_4 hst) rfl ?_
      refine gj_iload_n (q := 48) (gj_dk okX11_part 27 rfl) rfl rfl ?_
      refine gj_iload_n (q := 49) (gj_dk okX11_part 28 rfl) rfl rfl ?_
      refine gj_callV (q := 52) (z := 21) (ci := 3) [jI x2, jI x6] rfl (w_X3_loosen hst h  _ _) (gj_dk okX11_part 29 rfl) ml_X11_282 me_X3_loosen (sh21 hst) rfl (gj_nm rfl) rfl (gj_kV fun S2 M2 h8 => ?_)
      obtain ⟨eS, w11⟩ := h8; subst eS
      revert w11; generalize M2 = M12; intro w11
      refine gj_iconst (q := 53) (gj_dk okX11_part 30 rfl) (by decide) rfl ?_
      exact gj_zret (gj_dk okX11_part 31 rfl) rfl (by first | decide | assumption | omega) ⟨_, rfl, (by first | decide | assumption | omega), rfl, w11⟩
    · -- 37
      refine gj_aload_n (q := 38) (gj_dk okX11_part 21 rfl) rfl rfl ?_
      refine gj_iconst (q := 39) (gj_dk okX11_part 22 rfl) (by decide) rfl ?_
      refine gj_callV (q := 42) (z := 0) (ci := 9) [jI 2] rfl (w_X11_refuse hst h  _) (gj_dk okX11_part 23 rfl) ml_X11_92 me_X11_refuse (sh0 hst) rfl (gj_nm rfl) rfl (gj_kI fun x14 S2 M2 h13 => ?_)
      obtain ⟨bx14, eS, w16⟩ := h13; subst eS
      revert w16; generalize M2 = M17; intro w16
      exact gj_zret (gj_dk okX11_part 24 rfl) rfl (by first | decide | assumption | omega) ⟨_, rfl, (by first | decide | assumption | omega), rfl, w16⟩
  · -- 14
    refine gj_aload_n (q := 15) (gj_dk okX11_part 8 rfl) rfl rfl ?_
    refine gj_iconst (q := 16) (gj_dk okX11_part 9 rfl) (by decide) rfl ?_
    refine gj_callV (q := 19) (z := 0) (ci := 9) [jI 0] rfl (w_X11_refuse hst h  _) (gj_dk okX11_part 10 rfl) ml_X11_92 me_X11_refuse (sh0 hst) rfl (gj_nm rfl) rfl (gj_kI fun x19 S2 M2 h18 => ?_)
    obtain ⟨bx19, eS, w21⟩ := h18; subst eS
    revert w21; generalize M2 = M22; intro w21
    exact gj_zret (gj_dk okX11_part 11 rfl) rfl (by first | decide | assumption | omega) ⟨_, rfl, (by first | decide | assumption | omega), rfl, w21⟩

set_option maxHeartbeats 4000000 in
set_option maxRecDepth 20000 in
theorem w_X1_size (hst : gj_Stat S)   : gj_C G l 1 0 0 yX1_size cX1_size 1 (some .int) [jR 29] S M (gj_qI fun x S' M' => S = S' ∧ M = M') := by
  refine gj_Cof (by decide +kernel) (Nat.le_of_ble_eq_true rfl) ?_
  change gj_W G l 1 0 0 yX1_size cX1_size 1 (some .int) (gj_qI fun x S' M' => S = S' ∧ M = M') 0 0 0 [(0, jR 29)] [] S M
  refine gj_aload_n (q := 1) (gj_dk okX1_size 0 rfl) rfl rfl ?_
  refine gj_gI (q := 4) (j := 2) (gj_dk okX1_size 1 rfl) ff_X1_15 (sh29 hst) (by decide) rfl rfl ?_
  exact gj_iret (gj_dk okX1_size 2 rfl) rfl ⟨_, rfl, rfl, rfl⟩

set_option maxHeartbeats 4000000 in
set_option maxRecDepth 20000 in
theorem w_X1_tell (hst : gj_Stat S) (a1 a2 : Int)  : gj_C G l 2 0 0 yX1_tell cX1_tell 3 (some .int) [jR 29, jI a1, jI a2] S M (gj_qI fun x S' M' => S = S' ∧ M = M') := by
  refine gj_Cof (by decide +kernel) (Nat.le_of_ble_eq_true rfl) ?_
  change gj_W G l 2 0 0 yX1_tell cX1_tell 3 (some .int) (gj_qI fun x S' M' => S = S' ∧ M = M') 0 0 0 [(0, jR 29), (1, jI a1), (2, jI a2)] [] S M
  refine gj_iload_n (q := 1) (gj_dk okX1_tell 0 rfl) rfl rfl ?_
  refine gj_if_lt (q := 4) (tgt := 21) (gj_dk okX1_tell 1 rfl) (by decide) rfl (fun c1 => ?_) (fun c1 => ?_)
  · -- 21
    refine gj_iconst (q := 22) (gj_dk okX1_tell 11 rfl) (by decide) rfl ?_
    exact gj_iret (gj_dk okX1_tell 12 rfl) rfl ⟨_, rfl, rfl, rfl⟩
  · -- 4
    refine gj_iload_n (q := 5) (gj_dk okX1_tell 2 rfl) rfl rfl ?_
    refine gj_aload_n (q := 6) (gj_dk okX1_tell 3 rfl) rfl rfl ?_
    refine gj_gI (q := 9) (j := 2) (gj_dk okX1_tell 4 rfl) ff_X1_15 (sh29 hst) (by decide) rfl rfl ?_
    refine gj_icmp_ge (q := 12) (tgt := 21) (gj_dk okX1_tell 5 rfl) (by decide) rfl (fun c9 => ?_) (fun c9 => ?_)
    · -- 21
      refine gj_iconst (q := 22) (gj_dk okX1_tell 11 rfl) (by decide) rfl ?_
      exact gj_iret (gj_dk okX1_tell 12 rfl) rfl ⟨_, rfl, rfl, rfl⟩
    · -- 12
      refine gj_iload_n (q := 13) (gj_dk okX1_tell 6 rfl) rfl rfl ?_
      refine gj_if_lt (q := 16) (tgt := 21) (gj_dk okX1_tell 7 rfl) (by decide) rfl (fun c13 => ?_) (fun c13 => ?_)
      · -- 21
        refine gj_iconst (q := 22) (gj_dk okX1_tell 11 rfl) (by decide) rfl ?_
        exact gj_iret (gj_dk okX1_tell 12 rfl) rfl ⟨_, rfl, rfl, rfl⟩
      · -- 16
        refine gj_iload_n (q := 17) (gj_dk okX1_tell 8 rfl) rfl rfl ?_
        refine gj_iconst (q := 18) (gj_dk okX1_tell 9 rfl) (by decide) rfl ?_
        refine gj_icmp_lt (q := 21) (tgt := 23) (gj_dk okX1_tell 10 rfl) (by decide) rfl (fun c18 => ?_) (fun c18 => ?_)
        · -- 23
          refine gj_aload_n (q := 24) (gj_dk okX1_tell 13 rfl) rfl rfl ?_
          refine gj_gR (q := 27) (j := 0) (gj_dk okX1_tell 14 rfl) ff_X1_11 (sh29 hst) (by decide) rfl (rf29_0 hst) rfl ?_
          refine gj_aload_n (q := 28) (gj_dk okX1_tell 15 rfl) rfl rfl ?_
          refine gj_gI (q := 31) (j := 1) (gj_dk okX1_tell 16 rfl) ff_X1_19 (sh29 hst) (by decide) rfl rfl ?_
          refine gj_iload_n (q := 32) (gj_dk okX1_tell 17 rfl) rfl rfl ?_
          refine gj_iadd (q := 33) (gj_dk okX1_tell 18 rfl) rfl ?_
          refine gj_bipush (q := 35) (gj_dk okX1_tell 19 rfl) (by decide) rfl rfl ?_
          refine gj_irem (q := 36) (gj_dk okX1_tell 20 rfl) (by decide) rfl ?_
          refine gj_iconst (q := 37) (gj_dk okX1_tell 21 rfl) (by decide) rfl ?_
          refine gj_imul (q := 38) (gj_dk okX1_tell 22 rfl) rfl ?_
          refine gj_iload_n (q := 39) (gj_dk okX1_tell 23 rfl) rfl rfl ?_
          refine gj_iadd (q := 40) (gj_dk okX1_tell 24 rfl) rfl ?_
          refine gj_callS (q := 43) [jR 30, jI (gj_w ((gj_w ((Int.tmod (gj_w ((M 29 1) + a1)) 40) * 5)) + a2))] rfl (c_X7_at (sh30 hst) (by decide) (by decide) _) (gj_dk okX1_tell 25 rfl) ml_X1_32 me_X7_at (gj_nm rfl) rfl (gj_kI fun x2 S2 M2 h1 => ?_)
          obtain ⟨-, eS, eM⟩ := h1; subst eS; subst eM
          exact gj_iret (gj_dk okX1_tell 26 rfl) rfl ⟨_, rfl, rfl, rfl⟩
        · -- 21
          refine gj_iconst (q := 22) (gj_dk okX1_tell 11 rfl) (by decide) rfl ?_
          exact gj_iret (gj_dk okX1_tell 12 rfl) rfl ⟨_, rfl, rfl, rfl⟩

set_option maxHeartbeats 4000000 in
set_option maxRecDepth 20000 in
theorem w_X11_log (hst : gj_Stat S) (a1 a2 : Int)  : gj_C G l 3 0 0 yX11_log cX11_log 3 (some .int) [jR 0, jI a1, jI a2] S M (gj_qI fun x S' M' => S = S' ∧ M = M') := by
  refine gj_Cof (by decide +kernel) (Nat.le_of_ble_eq_true rfl) ?_
  change gj_W G l 3 0 0 yX11_log cX11_log 3 (some .int) (gj_qI fun x S' M' => S = S' ∧ M = M') 0 0 0 [(0, jR 0), (1, jI a1), (2, jI a2)] [] S M
  refine gj_iload_n (q := 1) (gj_dk okX11_log 0 rfl) rfl rfl ?_
  refine gj_iconst (q := 2) (gj_dk okX11_log 1 rfl) (by decide) rfl ?_
  refine gj_icmp_ne (q := 5) (tgt := 18) (gj_dk okX11_log 2 rfl) (by decide) rfl (fun c2 => ?_) (fun c2 => ?_)
  · -- 18
    refine gj_aload_n (q := 19) (gj_dk okX11_log 8 rfl) rfl rfl ?_
    refine gj_gR (q := 22) (j := 4) (gj_dk okX11_log 9 rfl) ff_X11_38 (sh0 hst) (by decide) rfl (rf0_4 hst) rfl ?_
    refine gj_gR (q := 25) (j := 10) (gj_dk okX11_log 10 rfl) ff_X11_285 (sh21 hst) (by decide) rfl (rf21_10 hst) rfl ?_
    refine gj_iload_n (q := 26) (gj_dk okX11_log 11 rfl) rfl rfl ?_
    refine gj_iload_n (q := 27) (gj_dk okX11_log 12 rfl) rfl rfl ?_
    refine gj_callV (q := 30) (z := 29) (ci := 1) [jI a1, jI a2] rfl (w_X1_tell hst  _ _) (gj_dk okX11_log 13 rfl) ml_X11_294 me_X1_tell (sh29 hst) rfl (gj_nm rfl) rfl (gj_kI fun x2 S2 M2 h1 => ?_)
    obtain ⟨eS, eM⟩ := h1; subst eS; subst eM
    exact gj_iret (gj_dk okX11_log 14 rfl) rfl ⟨_, rfl, rfl, rfl⟩
  · -- 5
    refine gj_aload_n (q := 6) (gj_dk okX11_log 3 rfl) rfl rfl ?_
    refine gj_gR (q := 9) (j := 4) (gj_dk okX11_log 4 rfl) ff_X11_38 (sh0 hst) (by decide) rfl (rf0_4 hst) rfl ?_
    refine gj_gR (q := 12) (j := 10) (gj_dk okX11_log 5 rfl) ff_X11_285 (sh21 hst) (by decide) rfl (rf21_10 hst) rfl ?_
    refine gj_callV (q := 15) (z := 29) (ci := 1) [] rfl (w_X1_size hst  ) (gj_dk okX11_log 6 rfl) ml_X11_289 me_X1_size (sh29 hst) rfl (gj_nm rfl) rfl (gj_kI fun x6 S2 M2 h5 => ?_)
    obtain ⟨eS, eM⟩ := h5; subst eS; subst eM
    refine gj_goto (tgt := 30) (gj_dk okX11_log 7 rfl) (by decide) ?_
    exact gj_iret (gj_dk okX11_log 14 rfl) rfl ⟨_, rfl, rfl, rfl⟩

set_option maxHeartbeats 4000000 in
set_option maxRecDepth 20000 in
theorem w_X2_isBetter (hst : gj_Stat S) (a1 a2 : Int)  : gj_C G l 4 0 0 yX2_isBetter cX2_isBetter 4 (some .boolean) [jR 35, jI a1, jI a2] S M (gj_qI fun x S' M' => (x = 0 ∨ x = 1) ∧ S = S' ∧ M = M') := by
  refine gj_Cof (by decide +kernel) (Nat.le_of_ble_eq_true rfl) ?_
  change gj_W G l 4 0 0 yX2_isBetter cX2_isBetter 4 (some .boolean) (gj_qI fun x S' M' => (x = 0 ∨ x = 1) ∧ S = S' ∧ M = M') 0 0 0 [(0, jR 35), (1, jI a1), (2, jI a2)] [] S M
  refine gj_aload_n (q := 1) (gj_dk okX2_isBetter 0 rfl) rfl rfl ?_
  refine gj_gR (q := 4) (j := 1) (gj_dk okX2_isBetter 1 rfl) ff_X2_32 (sh35 hst) (by decide) rfl (rf35_1 hst) rfl ?_
  refine gj_gR (q := 7) (j := 3) (gj_dk okX2_isBetter 2 rfl) ff_X2_36 (sh21 hst) (by decide) rfl (rf21_3 hst) rfl ?_
  refine gj_iload_n (q := 8) (gj_dk okX2_isBetter 3 rfl) rfl rfl ?_
  refine gj_callS (q := 11) [jR 22, jI a1] rfl (c_X7_at (sh22 hst) (by decide) (by decide) _) (gj_dk okX2_isBetter 4 rfl) ml_X2_39 me_X7_at (gj_nm rfl) rfl (gj_kI fun x2 S2 M2 h1 => ?_)
  obtain ⟨-, eS, eM⟩ := h1; subst eS; subst eM
  refine gj_istore_n (q := 12) (gj_dk okX2_isBetter 5 rfl) (by decide) rfl ?_
  refine gj_iload_n (q := 13) (gj_dk okX2_isBetter 6 rfl) rfl rfl ?_
  refine gj_iconst (q := 14) (gj_dk okX2_isBetter 7 rfl) (by decide) rfl ?_
  refine gj_icmp_eq (q := 17) (tgt := 27) (gj_dk okX2_isBetter 8 rfl) (by decide) rfl (fun c14 => ?_) (fun c14 => ?_)
  · -- 27
    refine gj_iconst (q := 28) (gj_dk okX2_isBetter 15 rfl) (by decide) rfl ?_
    refine gj_goto (tgt := 32) (gj_dk okX2_isBetter 16 rfl) (by decide) ?_
    exact gj_zret (gj_dk okX2_isBetter 18 rfl) rfl (by first | decide | assumption | omega) ⟨_, rfl, (by first | decide | assumption | omega), rfl, rfl⟩
  · -- 17
    refine gj_aload_n (q := 18) (gj_dk okX2_isBetter 9 rfl) rfl rfl ?_
    refine gj_iload_n (q := 19) (gj_dk okX2_isBetter 10 rfl) rfl rfl ?_
    refine gj_iload_n (q := 20) (gj_dk okX2_isBetter 11 rfl) rfl rfl ?_
    refine gj_iload_n (q := 21) (gj_dk okX2_isBetter 12 rfl) rfl rfl ?_
    refine gj_callV (q := 24) (z := 35) (ci := 2) [jI a1, jI a2, jI x2] rfl (w_X2_soonerOf hst  _ _ _) (gj_dk okX2_isBetter 13 rfl) ml_X2_107 me_X2_soonerOf (sh35 hst) rfl (gj_nm rfl) rfl (gj_kI fun x5 S2 M2 h4 => ?_)
    obtain ⟨bx5, eS, eM⟩ := h4; subst eS; subst eM
    refine gj_if_eq (q := 27) (tgt := 31) (gj_dk okX2_isBetter 14 rfl) (by decide) rfl (fun c24 => ?_) (fun c24 => ?_)
    · -- 31
      refine gj_iconst (q := 32) (gj_dk okX2_isBetter 17 rfl) (by decide) rfl ?_
      exact gj_zret (gj_dk okX2_isBetter 18 rfl) rfl (by first | decide | assumption | omega) ⟨_, rfl, (by first | decide | assumption | omega), rfl, rfl⟩
    · -- 27
      refine gj_iconst (q := 28) (gj_dk okX2_isBetter 15 rfl) (by decide) rfl ?_
      refine gj_goto (tgt := 32) (gj_dk okX2_isBetter 16 rfl) (by decide) ?_
      exact gj_zret (gj_dk okX2_isBetter 18 rfl) rfl (by first | decide | assumption | omega) ⟨_, rfl, (by first | decide | assumption | omega), rfl, rfl⟩

set_option maxHeartbeats 4000000 in
set_option maxRecDepth 20000 in
theorem w_X2_wouldSooner (hst : gj_Stat S) (a1 a2 : Int)  : gj_C G l 5 0 0 yX2_wouldSooner cX2_wouldSooner 3 (some .boolean) [jR 35, jI a1, jI a2] S M (gj_qI fun x S' M' => (x = 0 ∨ x = 1) ∧ S = S' ∧ M = M') := by
  refine gj_Cof (by decide +kernel) (Nat.le_of_ble_eq_true rfl) ?_
  change gj_W G l 5 0 0 yX2_wouldSooner cX2_wouldSooner 3 (some .boolean) (gj_qI fun x S' M' => (x = 0 ∨ x = 1) ∧ S = S' ∧ M = M') 0 0 0 [(0, jR 35), (1, jI a1), (2, jI a2)] [] S M
  refine gj_aload_n (q := 1) (gj_dk okX2_wouldSooner 0 rfl) rfl rfl ?_
  refine gj_gR (q := 4) (j := 3) (gj_dk okX2_wouldSooner 1 rfl) ff_X2_15 (sh35 hst) (by decide) rfl (rf35_3 hst) rfl ?_
  refine gj_iload_n (q := 5) (gj_dk okX2_wouldSooner 2 rfl) rfl rfl ?_
  refine gj_iload_n (q := 6) (gj_dk okX2_wouldSooner 3 rfl) rfl rfl ?_
  refine gj_callS (q := 9) [jI a1, jI a2] rfl (c_X10_couple _ _) (gj_dk okX2_wouldSooner 4 rfl) ml_X2_69 me_X10_couple (gj_nm rfl) rfl (gj_kI fun x2 S2 M2 h1 => ?_)
  obtain ⟨-, eS, eM⟩ := h1; subst eS; subst eM
  refine gj_callS (q := 12) [jR 37, jI x2] rfl (c_X7_is (sh37 hst) (by decide) (by decide) _) (gj_dk okX2_wouldSooner 5 rfl) ml_X2_97 me_X7_is (gj_nm rfl) rfl (gj_kI fun x5 S2 M2 h4 => ?_)
  obtain ⟨-, eS, eM⟩ := h4; subst eS; subst eM
  refine gj_if_eq (q := 15) (tgt := 49) (gj_dk okX2_wouldSooner 6 rfl) (by decide) rfl (fun c12 => ?_) (fun c12 => ?_)
  · -- 49
    refine gj_iconst (q := 50) (gj_dk okX2_wouldSooner 25 rfl) (by decide) rfl ?_
    exact gj_zret (gj_dk okX2_wouldSooner 26 rfl) rfl (by first | decide | assumption | omega) ⟨_, rfl, (by first | decide | assumption | omega), rfl, rfl⟩
  · -- 15
    refine gj_aload_n (q := 16) (gj_dk okX2_wouldSooner 7 rfl) rfl rfl ?_
    refine gj_gR (q := 19) (j := 1) (gj_dk okX2_wouldSooner 8 rfl) ff_X2_32 (sh35 hst) (by decide) rfl (rf35_1 hst) rfl ?_
    refine gj_iload_n (q := 20) (gj_dk okX2_wouldSooner 9 rfl) rfl rfl ?_
    refine gj_iload_n (q := 21) (gj_dk okX2_wouldSooner 10 rfl) rfl rfl ?_
    refine gj_callV (q := 24) (z := 21) (ci := 3) [jI a1, jI a2] rfl (w_X3_arePair hst  _ _) (gj_dk okX2_wouldSooner 11 rfl) ml_X2_101 me_X3_arePair (sh21 hst) rfl (gj_nm rfl) rfl (gj_kI fun x8 S2 M2 h7 => ?_)
    obtain ⟨bx8, eS, eM⟩ := h7; subst eS; subst eM
    refine gj_if_ne (q := 27) (tgt := 49) (gj_dk okX2_wouldSooner 12 rfl) (by decide) rfl (fun c24 => ?_) (fun c24 => ?_)
    · -- 49
      refine gj_iconst (q := 50) (gj_dk okX2_wouldSooner 25 rfl) (by decide) rfl ?_
      exact gj_zret (gj_dk okX2_wouldSooner 26 rfl) rfl (by first | decide | assumption | omega) ⟨_, rfl, (by first | decide | assumption | omega), rfl, rfl⟩
    · -- 27
      refine gj_aload_n (q := 28) (gj_dk okX2_wouldSooner 13 rfl) rfl rfl ?_
      refine gj_iload_n (q := 29) (gj_dk okX2_wouldSooner 14 rfl) rfl rfl ?_
      refine gj_iload_n (q := 30) (gj_dk okX2_wouldSooner 15 rfl) rfl rfl ?_
      refine gj_callV (q := 33) (z := 35) (ci := 2) [jI a1, jI a2] rfl (w_X2_isBetter hst  _ _) (gj_dk okX2_wouldSooner 16 rfl) ml_X2_104 me_X2_isBetter (sh35 hst) rfl (gj_nm rfl) rfl (gj_kI fun x12 S2 M2 h11 => ?_)
      obtain ⟨bx12, eS, eM⟩ := h11; subst eS; subst eM
      refine gj_if_eq (q := 36) (tgt := 49) (gj_dk okX2_wouldSooner 17 rfl) (by decide) rfl (fun c33 => ?_) (fun c33 => ?_)
      · -- 49
        refine gj_iconst (q := 50) (gj_dk okX2_wouldSooner 25 rfl) (by decide) rfl ?_
        exact gj_zret (gj_dk okX2_wouldSooner 26 rfl) rfl (by first | decide | assumption | omega) ⟨_, rfl, (by first | decide | assumption | omega), rfl, rfl⟩
      · -- 36
        refine gj_aload_n (q := 37) (gj_dk okX2_wouldSooner 18 rfl) rfl rfl ?_
        refine gj_iload_n (q := 38) (gj_dk okX2_wouldSooner 19 rfl) rfl rfl ?_
        refine gj_iload_n (q := 39) (gj_dk okX2_wouldSooner 20 rfl) rfl rfl ?_
        refine gj_callV (q := 42) (z := 35) (ci := 2) [jI a2, jI a1] rfl (w_X2_isBetter hst  _ _) (gj_dk okX2_wouldSooner 21 rfl) ml_X2_104 me_X2_isBetter (sh35 hst) rfl (gj_nm rfl) rfl (gj_kI fun x16 S2 M2 h15 => ?_)
        obtain ⟨bx16, eS, eM⟩ := h15; subst eS; subst eM
        refine gj_if_eq (q := 45) (tgt := 49) (gj_dk okX2_wouldSooner 22 rfl) (by decide) rfl (fun c42 => ?_) (fun c42 => ?_)
        · -- 49
          refine gj_iconst (q := 50) (gj_dk okX2_wouldSooner 25 rfl) (by decide) rfl ?_
          exact gj_zret (gj_dk okX2_wouldSooner 26 rfl) rfl (by first | decide | assumption | omega) ⟨_, rfl, (by first | decide | assumption | omega), rfl, rfl⟩
        · -- 45
          refine gj_iconst (q := 46) (gj_dk okX2_wouldSooner 23 rfl) (by decide) rfl ?_
          refine gj_goto (tgt := 50) (gj_dk okX2_wouldSooner 24 rfl) (by decide) ?_
          exact gj_zret (gj_dk okX2_wouldSooner 26 rfl) rfl (by first | decide | assumption | omega) ⟨_, rfl, (by first | decide | assumption | omega), rfl, rfl⟩

set_option maxHeartbeats 4000000 in
set_option maxRecDepth 20000 in
theorem w_X11_blocks (hst : gj_Stat S) (h : w_CW M0 M) (a1 : Int)  : gj_C G l 6 0 0 yX11_blocks cX11_blocks 5 (some .int) [jR 0, jI a1] S M (gj_qI fun x S' M' => S = S' ∧ w_CW M0 M') := by
  refine gj_Cof (by decide +kernel) (Nat.le_of_ble_eq_true rfl) ?_
  change gj_W G l 6 0 0 yX11_blocks cX11_blocks 5 (some .int) (gj_qI fun x S' M' => S = S' ∧ w_CW M0 M') 0 0 0 [(0, jR 0), (1, jI a1)] [] S M
  refine gj_aload_n (q := 1) (gj_dk okX11_blocks 0 rfl) rfl rfl ?_
  refine gj_gR (q := 4) (j := 6) (gj_dk okX11_blocks 1 rfl) ff_X11_54 (sh0 hst) (by decide) rfl (rf0_6 hst) rfl ?_
  refine gj_iconst (q := 5) (gj_dk okX11_blocks 2 rfl) (by decide) rfl ?_
  refine gj_callV (q := 8) (z := 35) (ci := 2) [jI 1] rfl (w_X2_look hst h  _) (gj_dk okX11_blocks 3 rfl) ml_X11_206 me_X2_look (sh35 hst) rfl (gj_nm rfl) rfl (gj_kV fun S2 M2 h1 => ?_)
  obtain ⟨eS, w4⟩ := h1; subst eS
  revert w4; generalize M2 = M5; intro w4
  refine gj_iconst (q := 9) (gj_dk okX11_blocks 4 rfl) (by decide) rfl ?_
  refine gj_istore_n (q := 10) (gj_dk okX11_blocks 5 rfl) (by decide) rfl ?_
  refine gj_iconst (q := 11) (gj_dk okX11_blocks 6 rfl) (by decide) rfl ?_
  refine gj_istore_n (q := 12) (gj_dk okX11_blocks 7 rfl) (by decide) rfl ?_
  have L12 : ∀ (k8 : Nat) (x6 x7 : Int), (2147483647 - x7).toNat < k8 → gj_W G l 6 0 0 yX11_blocks cX11_blocks 5 (some .int) (gj_qI fun x S' M' => S = S' ∧ w_CW M0 M') 0 0 12 [(0, jR 0), (1, jI a1), (2, jI x6), (3, jI x7)] [] S M5 := by
    intro k8
    induction k8 with
    | zero => intro x6 x7 hk12; exact absurd hk12 (Nat.not_lt_zero _)
    | succ k8 ih12 =>
      intro x6 x7 hk12
      refine gj_iload_n (q := 13) (gj_dk okX11_blocks 8 rfl) rfl rfl ?_
      refine gj_aload_n (q := 14) (gj_dk okX11_blocks 9 rfl) rfl rfl ?_
      refine gj_gR (q := 17) (j := 3) (gj_dk okX11_blocks 10 rfl) ff_X11_32 (sh0 hst) (by decide) rfl (rf0_3 hst) rfl ?_
      refine gj_gI (q := 20) (j := 0) (gj_dk okX11_blocks 11 rfl) ff_X11_124 (sh14 hst) (by decide) rfl rfl ?_
      refine gj_rng (fun ho20 _ _ => ?_)
      have hb20 : -2147483648 ≤ M5 14 0 ∧ M5 14 0 < 2147483648 := gj_o0 ho20
      have ha20 : -2147483648 ≤ x7 ∧ x7 < 2147483648 := gj_o1 ho20
      clear ho20
      refine gj_icmp_ge (q := 23) (tgt := 87) (gj_dk okX11_blocks 12 rfl) (by decide) rfl (fun c20 => ?_) (fun c20 => ?_)
      · -- 87
        refine gj_iload_n (q := 88) (gj_dk okX11_blocks 45 rfl) rfl rfl ?_
        refine gj_iconst (q := 89) (gj_dk okX11_blocks 46 rfl) (by decide) rfl ?_
        refine gj_icmp_ne (q := 92) (tgt := 96) (gj_dk okX11_blocks 47 rfl) (by decide) rfl (fun c89 => ?_) (fun c89 => ?_)
        · -- 96
          refine gj_iconst (q := 97) (gj_dk okX11_blocks 50 rfl) (by decide) rfl ?_
          exact gj_iret (gj_dk okX11_blocks 51 rfl) rfl ⟨_, rfl, rfl, w4⟩
        · -- 92
          refine gj_iload_n (q := 93) (gj_dk okX11_blocks 48 rfl) rfl rfl ?_
          refine gj_goto (tgt := 97) (gj_dk okX11_blocks 49 rfl) (by decide) ?_
          exact gj_iret (gj_dk okX11_blocks 51 rfl) rfl ⟨_, rfl, rfl, w4⟩
      · -- 23
        refine gj_iconst (q := 24) (gj_dk okX11_blocks 13 rfl) (by decide) rfl ?_
        refine gj_istore (q := 26) (gj_dk okX11_blocks 14 rfl) (by decide) rfl ?_
        have L26 : ∀ (k11 : Nat) (x9 x10 : Int), (2147483647 - x10).toNat < k11 → gj_W G l 6 0 0 yX11_blocks cX11_blocks 5 (some .int) (gj_qI fun x S' M' => S = S' ∧ w_CW M0 M') 0 0 26 [(0, jR 0), (1, jI a1), (2, jI x9), (3, jI x7), (4, jI x10)] [] S M5 := by
          intro k11
          induction k11 with
          | zero => intro x9 x10 hk26; exact absurd hk26 (Nat.not_lt_zero _)
          | succ k11 ih26 =>
            intro x9 x10 hk26
            refine gj_iload (q := 28) (gj_dk okX11_blocks 15 rfl) rfl rfl ?_
            refine gj_aload_n (q := 29) (gj_dk okX11_blocks 16 rfl) rfl rfl ?_
            refine gj_gR (q := 32) (j := 3) (gj_dk okX11_blocks 17 rfl) ff_X11_32 (sh0 hst) (by decide) rfl (rf0_3 hst) rfl ?_
            refine gj_gI (q := 35) (j := 1) (gj_dk okX11_blocks 18 rfl) ff_X11_128 (sh14 hst) (by decide) rfl rfl ?_
            refine gj_rng (fun ho35 _ _ => ?_)
            have hb35 : -2147483648 ≤ M5 14 1 ∧ M5 14 1 < 2147483648 := gj_o0 ho35
            have ha35 : -2147483648 ≤ x10 ∧ x10 < 2147483648 := gj_o1 ho35
            clear ho35
            refine gj_icmp_ge (q := 38) (tgt := 81) (gj_dk okX11_blocks 19 rfl) (by decide) rfl (fun c35 => ?_) (fun c35 => ?_)
            · -- 81
              refine gj_iinc (q := 84) (v := x7 + 1) (gj_dk okX11_blocks 43 rfl) rfl (by decide) (gj_wle (by omega) (by omega)) rfl ?_
              refine gj_goto (tgt := 12) (gj_dk okX11_blocks 44 rfl) (by decide) ?_
              refine gj_sub [(0, jR 0), (1, jI a1), (2, jI x9), (3, jI (x7 + 1))] ⟨rfl, rfl, rfl, rfl, trivial⟩ ?_
              exact ih12 _ _ (by omega)
            · -- 38
              refine gj_aload_n (q := 39) (gj_dk okX11_blocks 20 rfl) rfl rfl ?_
              refine gj_gR (q := 42) (j := 6) (gj_dk okX11_blocks 21 rfl) ff_X11_54 (sh0 hst) (by decide) rfl (rf0_6 hst) rfl ?_
              refine gj_iload_n (q := 43) (gj_dk okX11_blocks 22 rfl) rfl rfl ?_
              refine gj_iconst (q := 44) (gj_dk okX11_blocks 23 rfl) (by decide) rfl ?_
              refine gj_iload (q := 46) (gj_dk okX11_blocks 24 rfl) rfl rfl ?_
              refine gj_iadd (q := 47) (gj_dk okX11_blocks 25 rfl) rfl ?_
              refine gj_callV (q := 50) (z := 35) (ci := 2) [jI x7, jI (gj_w (4 + x10))] rfl (w_X2_wouldSooner hst  _ _) (gj_dk okX11_blocks 26 rfl) ml_X11_297 me_X2_wouldSooner (sh35 hst) rfl (gj_nm rfl) rfl (gj_kI fun x13 S2 M2 h12 => ?_)
              obtain ⟨bx13, eS, eM⟩ := h12; subst eS; subst eM
              refine gj_if_ne (q := 53) (tgt := 56) (gj_dk okX11_blocks 27 rfl) (by decide) rfl (fun c50 => ?_) (fun c50 => ?_)
              · -- 56
                refine gj_iload_n (q := 57) (gj_dk okX11_blocks 29 rfl) rfl rfl ?_
                refine gj_iload_n (q := 58) (gj_dk okX11_blocks 30 rfl) rfl rfl ?_
                refine gj_rng (fun ho58 _ _ => ?_)
                have hb58 : -2147483648 ≤ a1 ∧ a1 < 2147483648 := gj_o0 ho58
                have ha58 : -2147483648 ≤ x9 ∧ x9 < 2147483648 := gj_o1 ho58
                clear ho58
                refine gj_icmp_ne (q := 61) (tgt := 72) (gj_dk okX11_blocks 31 rfl) (by decide) rfl (fun c58 => ?_) (fun c58 => ?_)
                · -- 72
                  refine gj_iinc (q := 75) (v := gj_w (x9 + 1)) (gj_dk okX11_blocks 40 rfl) rfl (by decide) rfl rfl ?_
                  refine gj_iinc (q := 78) (v := x10 + 1) (gj_dk okX11_blocks 41 rfl) rfl (by decide) (gj_wle (by omega) (by omega)) rfl ?_
                  refine gj_goto (tgt := 26) (gj_dk okX11_blocks 42 rfl) (by decide) ?_
                  refine gj_sub [(0, jR 0), (1, jI a1), (2, jI (gj_w (x9 + 1))), (3, jI x7), (4, jI (x10 + 1))] ⟨rfl, rfl, rfl, rfl, rfl, trivial⟩ ?_
                  exact ih26 _ _ (by omega)
                · -- 61
                  refine gj_iload_n (q := 62) (gj_dk okX11_blocks 32 rfl) rfl rfl ?_
                  refine gj_bipush (q := 64) (gj_dk okX11_blocks 33 rfl) (by decide) rfl rfl ?_
                  refine gj_imul (q := 65) (gj_dk okX11_blocks 34 rfl) rfl ?_
                  refine gj_bipush (q := 67) (gj_dk okX11_blocks 35 rfl) (by decide) rfl rfl ?_
                  refine gj_iadd (q := 68) (gj_dk okX11_blocks 36 rfl) rfl ?_
                  refine gj_iload (q := 70) (gj_dk okX11_blocks 37 rfl) rfl rfl ?_
                  refine gj_iadd (q := 71) (gj_dk okX11_blocks 38 rfl) rfl ?_
                  exact gj_iret (gj_dk okX11_blocks 39 rfl) rfl ⟨_, rfl, rfl, w4⟩
              · -- 53
                refine gj_goto (tgt := 75) (gj_dk okX11_blocks 28 rfl) (by decide) ?_
                refine gj_iinc (q := 78) (v := x10 + 1) (gj_dk okX11_blocks 41 rfl) rfl (by decide) (gj_wle (by omega) (by omega)) rfl ?_
                refine gj_goto (tgt := 26) (gj_dk okX11_blocks 42 rfl) (by decide) ?_
                refine gj_sub [(0, jR 0), (1, jI a1), (2, jI x9), (3, jI x7), (4, jI (x10 + 1))] ⟨rfl, rfl, rfl, rfl, rfl, trivial⟩ ?_
                exact ih26 _ _ (by omega)
        refine gj_sub [(0, jR 0), (1, jI a1), (2, jI x6), (3, jI x7), (4, jI 0)] ⟨rfl, rfl, rfl, rfl, rfl, trivial⟩ ?_
        exact L26 _ _ _ (Nat.lt_succ_self _)
  refine gj_sub [(0, jR 0), (1, jI a1), (2, jI 0), (3, jI 0)] ⟨rfl, rfl, rfl, rfl, trivial⟩ ?_
  exact L12 _ _ _ (Nat.lt_succ_self _)

set_option maxHeartbeats 4000000 in
set_option maxRecDepth 20000 in
theorem w_X11_parents (hst : gj_Stat S) (a1 : Int)  : gj_C G l 4 0 0 yX11_parents cX11_parents 3 (some .int) [jR 0, jI a1] S M (gj_qI fun x S' M' => S = S' ∧ M = M') := by
  refine gj_Cof (by decide +kernel) (Nat.le_of_ble_eq_true rfl) ?_
  change gj_W G l 4 0 0 yX11_parents cX11_parents 3 (some .int) (gj_qI fun x S' M' => S = S' ∧ M = M') 0 0 0 [(0, jR 0), (1, jI a1)] [] S M
  refine gj_aload_n (q := 1) (gj_dk okX11_parents 0 rfl) rfl rfl ?_
  refine gj_gR (q := 4) (j := 3) (gj_dk okX11_parents 1 rfl) ff_X11_32 (sh0 hst) (by decide) rfl (rf0_3 hst) rfl ?_
  refine gj_callV (q := 7) (z := 14) (ci := 5) [] rfl (w_X5_stands_14 hst  ) (gj_dk okX11_parents 2 rfl) ml_X11_268 me_X5_stands (sh14 hst) rfl (gj_nm rfl) rfl (gj_kI fun x2 S2 M2 h1 => ?_)
  obtain ⟨bx2, eS, eM⟩ := h1; subst eS; subst eM
  refine gj_if_ne (q := 10) (tgt := 13) (gj_dk okX11_parents 3 rfl) (by decide) rfl (fun c7 => ?_) (fun c7 => ?_)
  · -- 13
    refine gj_iload_n (q := 14) (gj_dk okX11_parents 6 rfl) rfl rfl ?_
    refine gj_iconst (q := 15) (gj_dk okX11_parents 7 rfl) (by decide) rfl ?_
    refine gj_icmp_ne (q := 18) (tgt := 33) (gj_dk okX11_parents 8 rfl) (by decide) rfl (fun c15 => ?_) (fun c15 => ?_)
    · -- 33
      refine gj_aload_n (q := 34) (gj_dk okX11_parents 16 rfl) rfl rfl ?_
      refine gj_gR (q := 37) (j := 3) (gj_dk okX11_parents 17 rfl) ff_X11_32 (sh0 hst) (by decide) rfl (rf0_3 hst) rfl ?_
      refine gj_iload_n (q := 38) (gj_dk okX11_parents 18 rfl) rfl rfl ?_
      refine gj_callV (q := 41) (z := 14) (ci := 5) [jI a1] rfl (w_X5_slotOf hst  _) (gj_dk okX11_parents 19 rfl) ml_X11_131 me_X5_slotOf (sh14 hst) rfl (gj_nm rfl) rfl (gj_kI fun x6 S2 M2 h5 => ?_)
      obtain ⟨eS, eM⟩ := h5; subst eS; subst eM
      refine gj_istore_n (q := 42) (gj_dk okX11_parents 20 rfl) (by decide) rfl ?_
      refine gj_iload_n (q := 43) (gj_dk okX11_parents 21 rfl) rfl rfl ?_
      refine gj_iconst (q := 44) (gj_dk okX11_parents 22 rfl) (by decide) rfl ?_
      refine gj_icmp_ne (q := 47) (tgt := 52) (gj_dk okX11_parents 23 rfl) (by decide) rfl (fun c44 => ?_) (fun c44 => ?_)
      · -- 52
        refine gj_aload_n (q := 53) (gj_dk okX11_parents 26 rfl) rfl rfl ?_
        refine gj_gR (q := 56) (j := 7) (gj_dk okX11_parents 27 rfl) ff_X11_63 (sh0 hst) (by decide) rfl (rf0_7 hst) rfl ?_
        refine gj_gR (q := 59) (j := 2) (gj_dk okX11_parents 28 rfl) ff_X11_300 (sh41 hst) (by decide) rfl (rf41_2 hst) rfl ?_
        refine gj_iload_n (q := 60) (gj_dk okX11_parents 29 rfl) rfl rfl ?_
        refine gj_callS (q := 63) [jR 43, jI x6] rfl (c_X7_at (sh43 hst) (by decide) (by decide) _) (gj_dk okX11_parents 30 rfl) ml_X11_139 me_X7_at (gj_nm rfl) rfl (gj_kI fun x10 S2 M2 h9 => ?_)
        obtain ⟨-, eS, eM⟩ := h9; subst eS; subst eM
        refine gj_callS (q := 66) [jI x10] rfl (c_X10_numberOf _) (gj_dk okX11_parents 31 rfl) ml_X11_146 me_X10_numberOf (gj_nm rfl) rfl (gj_kI fun x13 S2 M2 h12 => ?_)
        obtain ⟨-, eS, eM⟩ := h12; subst eS; subst eM
        exact gj_iret (gj_dk okX11_parents 32 rfl) rfl ⟨_, rfl, rfl, rfl⟩
      · -- 47
        refine gj_ldc (q := 49) (z := -2147483648) (gj_dk okX11_parents 24 rfl) kc_X11_135 (by decide) rfl ?_
        refine gj_goto (tgt := 66) (gj_dk okX11_parents 25 rfl) (by decide) ?_
        exact gj_iret (gj_dk okX11_parents 32 rfl) rfl ⟨_, rfl, rfl, rfl⟩
    · -- 18
      refine gj_aload_n (q := 19) (gj_dk okX11_parents 9 rfl) rfl rfl ?_
      refine gj_gR (q := 22) (j := 3) (gj_dk okX11_parents 10 rfl) ff_X11_32 (sh0 hst) (by decide) rfl (rf0_3 hst) rfl ?_
      refine gj_aload_n (q := 23) (gj_dk okX11_parents 11 rfl) rfl rfl ?_
      refine gj_gR (q := 26) (j := 7) (gj_dk okX11_parents 12 rfl) ff_X11_63 (sh0 hst) (by decide) rfl (rf0_7 hst) rfl ?_
      refine gj_gR (q := 29) (j := 2) (gj_dk okX11_parents 13 rfl) ff_X11_300 (sh41 hst) (by decide) rfl (rf41_2 hst) rfl ?_
      refine gj_callV (q := 32) (z := 14) (ci := 5) [jR 43] rfl (w_X5_yearSum hst (sh43 hst) (by decide) ) (gj_dk okX11_parents 14 rfl) ml_X11_301 me_X5_yearSum (sh14 hst) rfl (gj_nm rfl) rfl (gj_kI fun x16 S2 M2 h15 => ?_)
      obtain ⟨eS, eM⟩ := h15; subst eS; subst eM
      exact gj_iret (gj_dk okX11_parents 15 rfl) rfl ⟨_, rfl, rfl, rfl⟩
  · -- 10
    refine gj_ldc (q := 12) (z := -2147483648) (gj_dk okX11_parents 4 rfl) kc_X11_135 (by decide) rfl ?_
    exact gj_iret (gj_dk okX11_parents 5 rfl) rfl ⟨_, rfl, rfl, rfl⟩

set_option maxHeartbeats 4000000 in
set_option maxRecDepth 20000 in
theorem w_X5_sumOf (hst : gj_Stat S) {z : Int} (hz : S.2.1 z = (0, 8)) (h0 : 0 ≤ z) (a2 : Int)  : gj_C G l 4 0 0 yX5_sumOf cX5_sumOf 6 (some .int) [jR 14, jR z, jI a2] S M (gj_qI fun x S' M' => S = S' ∧ M = M') := by
  refine gj_Cof (by decide +kernel) (Nat.le_of_ble_eq_true rfl) ?_
  change gj_W G l 4 0 0 yX5_sumOf cX5_sumOf 6 (some .int) (gj_qI fun x S' M' => S = S' ∧ M = M') 0 0 0 [(0, jR 14), (1, jR z), (2, jI a2)] [] S M
  refine gj_iconst (q := 1) (gj_dk okX5_sumOf 0 rfl) (by decide) rfl ?_
  refine gj_iload_n (q := 2) (gj_dk okX5_sumOf 1 rfl) rfl rfl ?_
  refine gj_aload_n (q := 3) (gj_dk okX5_sumOf 2 rfl) rfl rfl ?_
  refine gj_gI (q := 6) (j := 4) (gj_dk okX5_sumOf 3 rfl) ff_X5_43 (sh14 hst) (by decide) rfl rfl ?_
  refine gj_isub (q := 7) (gj_dk okX5_sumOf 4 rfl) rfl ?_
  refine gj_mmax (q := 10) (gj_dk okX5_sumOf 5 rfl) ml_X5_99 ⟨by omega, Nat.le_of_ble_eq_true rfl⟩ rfl ?_
  refine gj_bipush (q := 12) (gj_dk okX5_sumOf 6 rfl) (by decide) rfl rfl ?_
  refine gj_imul (q := 13) (gj_dk okX5_sumOf 7 rfl) rfl ?_
  refine gj_aload_n (q := 14) (gj_dk okX5_sumOf 8 rfl) rfl rfl ?_
  refine gj_gI (q := 17) (j := 5) (gj_dk okX5_sumOf 9 rfl) ff_X5_46 (sh14 hst) (by decide) rfl rfl ?_
  refine gj_imul (q := 18) (gj_dk okX5_sumOf 10 rfl) rfl ?_
  refine gj_istore_n (q := 19) (gj_dk okX5_sumOf 11 rfl) (by decide) rfl ?_
  refine gj_aload_n (q := 20) (gj_dk okX5_sumOf 12 rfl) rfl rfl ?_
  refine gj_aload_n (q := 21) (gj_dk okX5_sumOf 13 rfl) rfl rfl ?_
  refine gj_callV (q := 24) (z := 14) (ci := 5) [jR z] rfl (w_X5_yearSum hst hz h0 ) (gj_dk okX5_sumOf 14 rfl) ml_X5_104 me_X5_yearSum (sh14 hst) rfl (gj_nm rfl) rfl (gj_kI fun x2 S2 M2 h1 => ?_)
  obtain ⟨eS, eM⟩ := h1; subst eS; subst eM
  refine gj_iload_n (q := 25) (gj_dk okX5_sumOf 15 rfl) rfl rfl ?_
  refine gj_imul (q := 26) (gj_dk okX5_sumOf 16 rfl) rfl ?_
  refine gj_istore (q := 28) (gj_dk okX5_sumOf 17 rfl) (by decide) rfl ?_
  refine gj_iconst (q := 29) (gj_dk okX5_sumOf 18 rfl) (by decide) rfl ?_
  refine gj_istore (q := 31) (gj_dk okX5_sumOf 19 rfl) (by decide) rfl ?_
  have L31 : ∀ (k7 : Nat) (x5 x6 : Int), (2147483647 - x6).toNat < k7 → gj_W G l 4 0 0 yX5_sumOf cX5_sumOf 6 (some .int) (gj_qI fun x S' M' => S = S' ∧ M = M') 0 0 31 [(0, jR 14), (1, jR z), (2, jI a2), (3, jI (gj_w ((gj_w ((f_max 0 (gj_w (a2 - (M 14 4)))) * 16)) * (M 14 5)))), (4, jI x5), (5, jI x6)] [] S M := by
    intro k7
    induction k7 with
    | zero => intro x5 x6 hk31; exact absurd hk31 (Nat.not_lt_zero _)
    | succ k7 ih31 =>
      intro x5 x6 hk31
      refine gj_iload (q := 33) (gj_dk okX5_sumOf 20 rfl) rfl rfl ?_
      refine gj_bipush (q := 35) (gj_dk okX5_sumOf 21 rfl) (by decide) rfl rfl ?_
      refine gj_rng (fun ho35 _ _ => ?_)
      have ha35 : -2147483648 ≤ x6 ∧ x6 < 2147483648 := gj_o1 ho35
      clear ho35
      refine gj_icmp_ge (q := 38) (tgt := 69) (gj_dk okX5_sumOf 22 rfl) (by decide) rfl (fun c35 => ?_) (fun c35 => ?_)
      · -- 69
        refine gj_iload (q := 71) (gj_dk okX5_sumOf 38 rfl) rfl rfl ?_
        exact gj_iret (gj_dk okX5_sumOf 39 rfl) rfl ⟨_, rfl, rfl, rfl⟩
      · -- 38
        refine gj_aload_n (q := 39) (gj_dk okX5_sumOf 23 rfl) rfl rfl ?_
        refine gj_iload (q := 41) (gj_dk okX5_sumOf 24 rfl) rfl rfl ?_
        refine gj_callV (q := 44) (z := 14) (ci := 5) [jI x6] rfl (w_X5_isPerson_14 hst  _) (gj_dk okX5_sumOf 25 rfl) ml_X5_91 me_X5_isPerson (sh14 hst) rfl (gj_nm rfl) rfl (gj_kI fun x9 S2 M2 h8 => ?_)
        obtain ⟨bx9, eS, eM⟩ := h8; subst eS; subst eM
        refine gj_if_eq (q := 47) (tgt := 63) (gj_dk okX5_sumOf 26 rfl) (by decide) rfl (fun c44 => ?_) (fun c44 => ?_)
        · -- 63
          refine gj_iinc (q := 66) (v := x6 + 1) (gj_dk okX5_sumOf 36 rfl) rfl (by decide) (gj_wle (by omega) (by omega)) rfl ?_
          refine gj_goto (tgt := 31) (gj_dk okX5_sumOf 37 rfl) (by decide) ?_
          refine gj_sub [(0, jR 14), (1, jR z), (2, jI a2), (3, jI (gj_w ((gj_w ((f_max 0 (gj_w (a2 - (M 14 4)))) * 16)) * (M 14 5)))), (4, jI x5), (5, jI (x6 + 1))] ⟨rfl, rfl, rfl, rfl, rfl, rfl, trivial⟩ ?_
          exact ih31 _ _ (by omega)
        · -- 47
          refine gj_aload_n (q := 48) (gj_dk okX5_sumOf 27 rfl) rfl rfl ?_
          refine gj_iload (q := 50) (gj_dk okX5_sumOf 28 rfl) rfl rfl ?_
          refine gj_callS (q := 53) [jR z, jI x6] rfl (c_X7_at hz h0 (by decide) _) (gj_dk okX5_sumOf 29 rfl) ml_X5_83 me_X7_at (gj_nm rfl) rfl (gj_kI fun x13 S2 M2 h12 => ?_)
          obtain ⟨-, eS, eM⟩ := h12; subst eS; subst eM
          refine gj_iconst (q := 54) (gj_dk okX5_sumOf 30 rfl) (by decide) rfl ?_
          refine gj_rng (fun ho54 _ _ => ?_)
          have ha54 : -2147483648 ≤ x13 ∧ x13 < 2147483648 := gj_o1 ho54
          clear ho54
          refine gj_icmp_eq (q := 57) (tgt := 63) (gj_dk okX5_sumOf 31 rfl) (by decide) rfl (fun c54 => ?_) (fun c54 => ?_)
          · -- 63
            refine gj_iinc (q := 66) (v := x6 + 1) (gj_dk okX5_sumOf 36 rfl) rfl (by decide) (gj_wle (by omega) (by omega)) rfl ?_
            refine gj_goto (tgt := 31) (gj_dk okX5_sumOf 37 rfl) (by decide) ?_
            refine gj_sub [(0, jR 14), (1, jR z), (2, jI a2), (3, jI (gj_w ((gj_w ((f_max 0 (gj_w (a2 - (M 14 4)))) * 16)) * (M 14 5)))), (4, jI x5), (5, jI (x6 + 1))] ⟨rfl, rfl, rfl, rfl, rfl, rfl, trivial⟩ ?_
            exact ih31 _ _ (by omega)
          · -- 57
            refine gj_iload (q := 59) (gj_dk okX5_sumOf 32 rfl) rfl rfl ?_
            refine gj_iload_n (q := 60) (gj_dk okX5_sumOf 33 rfl) rfl rfl ?_
            refine gj_iadd (q := 61) (gj_dk okX5_sumOf 34 rfl) rfl ?_
            refine gj_istore (q := 63) (gj_dk okX5_sumOf 35 rfl) (by decide) rfl ?_
            refine gj_iinc (q := 66) (v := x6 + 1) (gj_dk okX5_sumOf 36 rfl) rfl (by decide) (gj_wle (by omega) (by omega)) rfl ?_
            refine gj_goto (tgt := 31) (gj_dk okX5_sumOf 37 rfl) (by decide) ?_
            refine gj_sub [(0, jR 14), (1, jR z), (2, jI a2), (3, jI (gj_w ((gj_w ((f_max 0 (gj_w (a2 - (M 14 4)))) * 16)) * (M 14 5)))), (4, jI (gj_w (x5 + (gj_w ((gj_w ((f_max 0 (gj_w (a2 - (M 14 4)))) * 16)) * (M 14 5)))))), (5, jI (x6 + 1))] ⟨rfl, rfl, rfl, rfl, rfl, rfl, trivial⟩ ?_
            exact ih31 _ _ (by omega)
  refine gj_sub [(0, jR 14), (1, jR z), (2, jI a2), (3, jI (gj_w ((gj_w ((f_max 0 (gj_w (a2 - (M 14 4)))) * 16)) * (M 14 5)))), (4, jI (gj_w (x2 * a2))), (5, jI 0)] ⟨rfl, rfl, rfl, rfl, rfl, rfl, trivial⟩ ?_
  exact L31 _ _ _ (Nat.lt_succ_self _)

set_option maxHeartbeats 4000000 in
set_option maxRecDepth 20000 in
theorem w_X11_life (hst : gj_Stat S) (h : w_CW M0 M) (a1 a2 : Int)  : gj_C G l 7 0 0 yX11_life cX11_life 4 (some .int) [jR 0, jI a1, jI a2] S M (gj_qI fun x S' M' => S = S' ∧ w_CW M0 M') := by
  refine gj_Cof (by decide +kernel) (Nat.le_of_ble_eq_true rfl) ?_
  change gj_W G l 7 0 0 yX11_life cX11_life 4 (some .int) (gj_qI fun x S' M' => S = S' ∧ w_CW M0 M') 0 0 0 [(0, jR 0), (1, jI a1), (2, jI a2)] [] S M
  refine gj_aload_n (q := 1) (gj_dk okX11_life 0 rfl) rfl rfl ?_
  refine gj_gR (q := 4) (j := 3) (gj_dk okX11_life 1 rfl) ff_X11_32 (sh0 hst) (by decide) rfl (rf0_3 hst) rfl ?_
  refine gj_callV (q := 7) (z := 14) (ci := 5) [] rfl (w_X5_stands_14 hst  ) (gj_dk okX11_life 2 rfl) ml_X11_268 me_X5_stands (sh14 hst) rfl (gj_nm rfl) rfl (gj_kI fun x2 S2 M2 h1 => ?_)
  obtain ⟨bx2, eS, eM⟩ := h1; subst eS; subst eM
  refine gj_if_eq (q := 10) (tgt := 30) (gj_dk okX11_life 3 rfl) (by decide) rfl (fun c7 => ?_) (fun c7 => ?_)
  · -- 30
    refine gj_ldc (q := 32) (z := -2147483648) (gj_dk okX11_life 15 rfl) kc_X11_135 (by decide) rfl ?_
    exact gj_iret (gj_dk okX11_life 16 rfl) rfl ⟨_, rfl, rfl, h⟩
  · -- 10
    refine gj_iload_n (q := 11) (gj_dk okX11_life 4 rfl) rfl rfl ?_
    refine gj_iconst (q := 12) (gj_dk okX11_life 5 rfl) (by decide) rfl ?_
    refine gj_icmp_lt (q := 15) (tgt := 30) (gj_dk okX11_life 6 rfl) (by decide) rfl (fun c12 => ?_) (fun c12 => ?_)
    · -- 30
      refine gj_ldc (q := 32) (z := -2147483648) (gj_dk okX11_life 15 rfl) kc_X11_135 (by decide) rfl ?_
      exact gj_iret (gj_dk okX11_life 16 rfl) rfl ⟨_, rfl, rfl, h⟩
    · -- 15
      refine gj_iload_n (q := 16) (gj_dk okX11_life 7 rfl) rfl rfl ?_
      refine gj_bipush (q := 18) (gj_dk okX11_life 8 rfl) (by decide) rfl rfl ?_
      refine gj_icmp_gt (q := 21) (tgt := 30) (gj_dk okX11_life 9 rfl) (by decide) rfl (fun c18 => ?_) (fun c18 => ?_)
      · -- 30
        refine gj_ldc (q := 32) (z := -2147483648) (gj_dk okX11_life 15 rfl) kc_X11_135 (by decide) rfl ?_
        exact gj_iret (gj_dk okX11_life 16 rfl) rfl ⟨_, rfl, rfl, h⟩
      · -- 21
        refine gj_iload_n (q := 22) (gj_dk okX11_life 10 rfl) rfl rfl ?_
        refine gj_if_lt (q := 25) (tgt := 30) (gj_dk okX11_life 11 rfl) (by decide) rfl (fun c22 => ?_) (fun c22 => ?_)
        · -- 30
          refine gj_ldc (q := 32) (z := -2147483648) (gj_dk okX11_life 15 rfl) kc_X11_135 (by decide) rfl ?_
          exact gj_iret (gj_dk okX11_life 16 rfl) rfl ⟨_, rfl, rfl, h⟩
        · -- 25
          refine gj_iload_n (q := 26) (gj_dk okX11_life 12 rfl) rfl rfl ?_
          refine gj_iconst (q := 27) (gj_dk okX11_life 13 rfl) (by decide) rfl ?_
          refine gj_icmp_le (q := 30) (tgt := 33) (gj_dk okX11_life 14 rfl) (by decide) rfl (fun c27 => ?_) (fun c27 => ?_)
          · -- 33
            refine gj_aload_n (q := 34) (gj_dk okX11_life 17 rfl) rfl rfl ?_
            refine gj_gR (q := 37) (j := 6) (gj_dk okX11_life 18 rfl) ff_X11_54 (sh0 hst) (by decide) rfl (rf0_6 hst) rfl ?_
            refine gj_iconst (q := 38) (gj_dk okX11_life 19 rfl) (by decide) rfl ?_
            refine gj_callV (q := 41) (z := 35) (ci := 2) [jI 1] rfl (w_X2_gather hst h  _) (gj_dk okX11_life 20 rfl) ml_X11_261 me_X2_gather (sh35 hst) rfl (gj_nm rfl) rfl (gj_kV fun S2 M2 h5 => ?_)
            obtain ⟨eS, w8⟩ := h5; subst eS
            revert w8; generalize M2 = M9; intro w8
            refine gj_aload_n (q := 42) (gj_dk okX11_life 21 rfl) rfl rfl ?_
            refine gj_gR (q := 45) (j := 6) (gj_dk okX11_life 22 rfl) ff_X11_54 (sh0 hst) (by decide) rfl (rf0_6 hst) rfl ?_
            refine gj_iconst (q := 46) (gj_dk okX11_life 23 rfl) (by decide) rfl ?_
            refine gj_callV (q := 49) (z := 35) (ci := 2) [jI 0] rfl (w_X2_look hst w8  _) (gj_dk okX11_life 24 rfl) ml_X11_206 me_X2_look (sh35 hst) rfl (gj_nm rfl) rfl (gj_kV fun S2 M2 h10 => ?_)
            obtain ⟨eS, w13⟩ := h10; subst eS
            revert w13; generalize M2 = M14; intro w13
            refine gj_aload_n (q := 50) (gj_dk okX11_life 25 rfl) rfl rfl ?_
            refine gj_gR (q := 53) (j := 6) (gj_dk okX11_life 26 rfl) ff_X11_54 (sh0 hst) (by decide) rfl (rf0_6 hst) rfl ?_
            refine gj_iconst (q := 54) (gj_dk okX11_life 27 rfl) (by decide) rfl ?_
            refine gj_callV (q := 57) (z := 35) (ci := 2) [jI 0] rfl (w_X2_pairUp hst w13  _) (gj_dk okX11_life 28 rfl) ml_X11_264 me_X2_pairUp (sh35 hst) rfl (gj_nm rfl) rfl (gj_kV fun S2 M2 h15 => ?_)
            obtain ⟨eS, w18⟩ := h15; subst eS
            revert w18; generalize M2 = M19; intro w18
            refine gj_aload_n (q := 58) (gj_dk okX11_life 29 rfl) rfl rfl ?_
            refine gj_gR (q := 61) (j := 3) (gj_dk okX11_life 30 rfl) ff_X11_32 (sh0 hst) (by decide) rfl (rf0_3 hst) rfl ?_
            refine gj_aload_n (q := 62) (gj_dk okX11_life 31 rfl) rfl rfl ?_
            refine gj_gR (q := 65) (j := 6) (gj_dk okX11_life 32 rfl) ff_X11_54 (sh0 hst) (by decide) rfl (rf0_6 hst) rfl ?_
            refine gj_gR (q := 68) (j := 6) (gj_dk okX11_life 33 rfl) ff_X11_267 (sh35 hst) (by decide) rfl (rf35_6 hst) rfl ?_
            refine gj_iload_n (q := 69) (gj_dk okX11_life 34 rfl) rfl rfl ?_
            refine gj_callV (q := 72) (z := 14) (ci := 5) [jR 40, jI a1] rfl (w_X5_sumOf hst (sh40 hst) (by decide) _) (gj_dk okX11_life 35 rfl) ml_X11_305 me_X5_sumOf (sh14 hst) rfl (gj_nm rfl) rfl (gj_kI fun x21 S2 M2 h20 => ?_)
            obtain ⟨eS, eM⟩ := h20; subst eS; subst eM
            refine gj_istore_n (q := 73) (gj_dk okX11_life 36 rfl) (by decide) rfl ?_
            refine gj_iload_n (q := 74) (gj_dk okX11_life 37 rfl) rfl rfl ?_
            refine gj_if_ne (q := 77) (tgt := 81) (gj_dk okX11_life 38 rfl) (by decide) rfl (fun c74 => ?_) (fun c74 => ?_)
            · -- 81
              refine gj_iload_n (q := 82) (gj_dk okX11_life 41 rfl) rfl rfl ?_
              refine gj_aload_n (q := 83) (gj_dk okX11_life 42 rfl) rfl rfl ?_
              refine gj_gR (q := 86) (j := 3) (gj_dk okX11_life 43 rfl) ff_X11_32 (sh0 hst) (by decide) rfl (rf0_3 hst) rfl ?_
              refine gj_aload_n (q := 87) (gj_dk okX11_life 44 rfl) rfl rfl ?_
              refine gj_gR (q := 90) (j := 7) (gj_dk okX11_life 45 rfl) ff_X11_63 (sh0 hst) (by decide) rfl (rf0_7 hst) rfl ?_
              refine gj_gR (q := 93) (j := 2) (gj_dk okX11_life 46 rfl) ff_X11_300 (sh41 hst) (by decide) rfl (rf41_2 hst) rfl ?_
              refine gj_iload_n (q := 94) (gj_dk okX11_life 47 rfl) rfl rfl ?_
              refine gj_callV (q := 97) (z := 14) (ci := 5) [jR 43, jI a1] rfl (w_X5_sumOf hst (sh43 hst) (by decide) _) (gj_dk okX11_life 48 rfl) ml_X11_305 me_X5_sumOf (sh14 hst) rfl (gj_nm rfl) rfl (gj_kI fun x25 S2 M2 h24 => ?_)
              obtain ⟨eS, eM⟩ := h24; subst eS; subst eM
              refine gj_isub (q := 98) (gj_dk okX11_life 49 rfl) rfl ?_
              exact gj_iret (gj_dk okX11_life 50 rfl) rfl ⟨_, rfl, rfl, w18⟩
            · -- 77
              refine gj_iload_n (q := 78) (gj_dk okX11_life 39 rfl) rfl rfl ?_
              refine gj_goto (tgt := 98) (gj_dk okX11_life 40 rfl) (by decide) ?_
              exact gj_iret (gj_dk okX11_life 50 rfl) rfl ⟨_, rfl, rfl, w18⟩
          · -- 30
            refine gj_ldc (q := 32) (z := -2147483648) (gj_dk okX11_life 15 rfl) kc_X11_135 (by decide) rfl ?_
            exact gj_iret (gj_dk okX11_life 16 rfl) rfl ⟨_, rfl, rfl, h⟩

set_option maxHeartbeats 4000000 in
set_option maxRecDepth 20000 in
theorem w_X3_haveTried (hst : gj_Stat S) (a1 : Int)  : gj_C G l 2 0 0 yX3_haveTried cX3_haveTried 2 (some .boolean) [jR 21, jI a1] S M (gj_qI fun x S' M' => (x = 0 ∨ x = 1) ∧ S = S' ∧ M = M') := by
  refine gj_Cof (by decide +kernel) (Nat.le_of_ble_eq_true rfl) ?_
  change gj_W G l 2 0 0 yX3_haveTried cX3_haveTried 2 (some .boolean) (gj_qI fun x S' M' => (x = 0 ∨ x = 1) ∧ S = S' ∧ M = M') 0 0 0 [(0, jR 21), (1, jI a1)] [] S M
  refine gj_aload_n (q := 1) (gj_dk okX3_haveTried 0 rfl) rfl rfl ?_
  refine gj_gR (q := 4) (j := 7) (gj_dk okX3_haveTried 1 rfl) ff_X3_24 (sh21 hst) (by decide) rfl (rf21_7 hst) rfl ?_
  refine gj_iload_n (q := 5) (gj_dk okX3_haveTried 2 rfl) rfl rfl ?_
  refine gj_callS (q := 8) [jR 26, jI a1] rfl (c_X7_at (sh26 hst) (by decide) (by decide) _) (gj_dk okX3_haveTried 3 rfl) ml_X3_75 me_X7_at (gj_nm rfl) rfl (gj_kI fun x2 S2 M2 h1 => ?_)
  obtain ⟨-, eS, eM⟩ := h1; subst eS; subst eM
  refine gj_aload_n (q := 9) (gj_dk okX3_haveTried 4 rfl) rfl rfl ?_
  refine gj_gR (q := 12) (j := 8) (gj_dk okX3_haveTried 5 rfl) ff_X3_27 (sh21 hst) (by decide) rfl (rf21_8 hst) rfl ?_
  refine gj_iload_n (q := 13) (gj_dk okX3_haveTried 6 rfl) rfl rfl ?_
  refine gj_callS (q := 16) [jR 27, jI a1] rfl (c_X7_at (sh27 hst) (by decide) (by decide) _) (gj_dk okX3_haveTried 7 rfl) ml_X3_75 me_X7_at (gj_nm rfl) rfl (gj_kI fun x5 S2 M2 h4 => ?_)
  obtain ⟨-, eS, eM⟩ := h4; subst eS; subst eM
  refine gj_iadd (q := 17) (gj_dk okX3_haveTried 8 rfl) rfl ?_
  refine gj_if_le (q := 20) (tgt := 24) (gj_dk okX3_haveTried 9 rfl) (by decide) rfl (fun c17 => ?_) (fun c17 => ?_)
  · -- 24
    refine gj_iconst (q := 25) (gj_dk okX3_haveTried 12 rfl) (by decide) rfl ?_
    exact gj_zret (gj_dk okX3_haveTried 13 rfl) rfl (by first | decide | assumption | omega) ⟨_, rfl, (by first | decide | assumption | omega), rfl, rfl⟩
  · -- 20
    refine gj_iconst (q := 21) (gj_dk okX3_haveTried 10 rfl) (by decide) rfl ?_
    refine gj_goto (tgt := 25) (gj_dk okX3_haveTried 11 rfl) (by decide) ?_
    exact gj_zret (gj_dk okX3_haveTried 13 rfl) rfl (by first | decide | assumption | omega) ⟨_, rfl, (by first | decide | assumption | omega), rfl, rfl⟩

set_option maxHeartbeats 4000000 in
set_option maxRecDepth 20000 in
theorem w_X11_neverTried (hst : gj_Stat S)   : gj_C G l 3 0 0 yX11_neverTried cX11_neverTried 4 (some .int) [jR 0] S M (gj_qI fun x S' M' => S = S' ∧ M = M') := by
  refine gj_Cof (by decide +kernel) (Nat.le_of_ble_eq_true rfl) ?_
  change gj_W G l 3 0 0 yX11_neverTried cX11_neverTried 4 (some .int) (gj_qI fun x S' M' => S = S' ∧ M = M') 0 0 0 [(0, jR 0)] [] S M
  refine gj_iconst (q := 1) (gj_dk okX11_neverTried 0 rfl) (by decide) rfl ?_
  refine gj_istore_n (q := 2) (gj_dk okX11_neverTried 1 rfl) (by decide) rfl ?_
  refine gj_iconst (q := 3) (gj_dk okX11_neverTried 2 rfl) (by decide) rfl ?_
  refine gj_istore_n (q := 4) (gj_dk okX11_neverTried 3 rfl) (by decide) rfl ?_
  have L4 : ∀ (k3 : Nat) (x1 x2 : Int), (2147483647 - x2).toNat < k3 → gj_W G l 3 0 0 yX11_neverTried cX11_neverTried 4 (some .int) (gj_qI fun x S' M' => S = S' ∧ M = M') 0 0 4 [(0, jR 0), (1, jI x1), (2, jI x2)] [] S M := by
    intro k3
    induction k3 with
    | zero => intro x1 x2 hk4; exact absurd hk4 (Nat.not_lt_zero _)
    | succ k3 ih4 =>
      intro x1 x2 hk4
      refine gj_iload_n (q := 5) (gj_dk okX11_neverTried 4 rfl) rfl rfl ?_
      refine gj_iconst (q := 6) (gj_dk okX11_neverTried 5 rfl) (by decide) rfl ?_
      refine gj_rng (fun ho6 _ _ => ?_)
      have ha6 : -2147483648 ≤ x2 ∧ x2 < 2147483648 := gj_o1 ho6
      clear ho6
      refine gj_icmp_ge (q := 9) (tgt := 50) (gj_dk okX11_neverTried 6 rfl) (by decide) rfl (fun c6 => ?_) (fun c6 => ?_)
      · -- 50
        refine gj_iload_n (q := 51) (gj_dk okX11_neverTried 26 rfl) rfl rfl ?_
        exact gj_iret (gj_dk okX11_neverTried 27 rfl) rfl ⟨_, rfl, rfl, rfl⟩
      · -- 9
        refine gj_aload_n (q := 10) (gj_dk okX11_neverTried 7 rfl) rfl rfl ?_
        refine gj_gR (q := 13) (j := 7) (gj_dk okX11_neverTried 8 rfl) ff_X11_63 (sh0 hst) (by decide) rfl (rf0_7 hst) rfl ?_
        refine gj_gR (q := 16) (j := 2) (gj_dk okX11_neverTried 9 rfl) ff_X11_300 (sh41 hst) (by decide) rfl (rf41_2 hst) rfl ?_
        refine gj_iload_n (q := 17) (gj_dk okX11_neverTried 10 rfl) rfl rfl ?_
        refine gj_callS (q := 20) [jR 43, jI x2] rfl (c_X7_at (sh43 hst) (by decide) (by decide) _) (gj_dk okX11_neverTried 11 rfl) ml_X11_139 me_X7_at (gj_nm rfl) rfl (gj_kI fun x5 S2 M2 h4 => ?_)
        obtain ⟨-, eS, eM⟩ := h4; subst eS; subst eM
        refine gj_istore_n (q := 21) (gj_dk okX11_neverTried 12 rfl) (by decide) rfl ?_
        refine gj_iload_n (q := 22) (gj_dk okX11_neverTried 13 rfl) rfl rfl ?_
        refine gj_iconst (q := 23) (gj_dk okX11_neverTried 14 rfl) (by decide) rfl ?_
        refine gj_rng (fun ho23 _ _ => ?_)
        have ha23 : -2147483648 ≤ x5 ∧ x5 < 2147483648 := gj_o1 ho23
        clear ho23
        refine gj_icmp_eq (q := 26) (tgt := 44) (gj_dk okX11_neverTried 15 rfl) (by decide) rfl (fun c23 => ?_) (fun c23 => ?_)
        · -- 44
          refine gj_iinc (q := 47) (v := x2 + 1) (gj_dk okX11_neverTried 24 rfl) rfl (by decide) (gj_wle (by omega) (by omega)) rfl ?_
          refine gj_goto (tgt := 4) (gj_dk okX11_neverTried 25 rfl) (by decide) ?_
          refine gj_sub [(0, jR 0), (1, jI x1), (2, jI (x2 + 1))] ⟨rfl, rfl, rfl, trivial⟩ ?_
          exact ih4 _ _ (by omega)
        · -- 26
          refine gj_aload_n (q := 27) (gj_dk okX11_neverTried 16 rfl) rfl rfl ?_
          refine gj_gR (q := 30) (j := 4) (gj_dk okX11_neverTried 17 rfl) ff_X11_38 (sh0 hst) (by decide) rfl (rf0_4 hst) rfl ?_
          refine gj_iload_n (q := 31) (gj_dk okX11_neverTried 18 rfl) rfl rfl ?_
          refine gj_iload_n (q := 32) (gj_dk okX11_neverTried 19 rfl) rfl rfl ?_
          refine gj_callS (q := 35) [jI x2, jI x5] rfl (c_X10_couple _ _) (gj_dk okX11_neverTried 20 rfl) ml_X11_161 me_X10_couple (gj_nm rfl) rfl (gj_kI fun x8 S2 M2 h7 => ?_)
          obtain ⟨-, eS, eM⟩ := h7; subst eS; subst eM
          refine gj_callV (q := 38) (z := 21) (ci := 3) [jI x8] rfl (w_X3_haveTried hst  _) (gj_dk okX11_neverTried 21 rfl) ml_X11_337 me_X3_haveTried (sh21 hst) rfl (gj_nm rfl) rfl (gj_kI fun x11 S2 M2 h10 => ?_)
          obtain ⟨bx11, eS, eM⟩ := h10; subst eS; subst eM
          refine gj_if_ne (q := 41) (tgt := 44) (gj_dk okX11_neverTried 22 rfl) (by decide) rfl (fun c38 => ?_) (fun c38 => ?_)
          · -- 44
            refine gj_iinc (q := 47) (v := x2 + 1) (gj_dk okX11_neverTried 24 rfl) rfl (by decide) (gj_wle (by omega) (by omega)) rfl ?_
            refine gj_goto (tgt := 4) (gj_dk okX11_neverTried 25 rfl) (by decide) ?_
            refine gj_sub [(0, jR 0), (1, jI x1), (2, jI (x2 + 1))] ⟨rfl, rfl, rfl, trivial⟩ ?_
            exact ih4 _ _ (by omega)
          · -- 41
            refine gj_iinc (q := 44) (v := gj_w (x1 + 1)) (gj_dk okX11_neverTried 23 rfl) rfl (by decide) rfl rfl ?_
            refine gj_iinc (q := 47) (v := x2 + 1) (gj_dk okX11_neverTried 24 rfl) rfl (by decide) (gj_wle (by omega) (by omega)) rfl ?_
            refine gj_goto (tgt := 4) (gj_dk okX11_neverTried 25 rfl) (by decide) ?_
            refine gj_sub [(0, jR 0), (1, jI (gj_w (x1 + 1))), (2, jI (x2 + 1))] ⟨rfl, rfl, rfl, trivial⟩ ?_
            exact ih4 _ _ (by omega)
  refine gj_sub [(0, jR 0), (1, jI 0), (2, jI 0)] ⟨rfl, rfl, rfl, trivial⟩ ?_
  exact L4 _ _ _ (Nat.lt_succ_self _)

set_option maxHeartbeats 4000000 in
set_option maxRecDepth 20000 in
theorem w_X11_never (hst : gj_Stat S) (a1 : Int)  : gj_C G l 4 0 0 yX11_never cX11_never 2 (some .int) [jR 0, jI a1] S M (gj_qI fun x S' M' => S = S' ∧ M = M') := by
  refine gj_Cof (by decide +kernel) (Nat.le_of_ble_eq_true rfl) ?_
  change gj_W G l 4 0 0 yX11_never cX11_never 2 (some .int) (gj_qI fun x S' M' => S = S' ∧ M = M') 0 0 0 [(0, jR 0), (1, jI a1)] [] S M
  refine gj_aload_n (q := 1) (gj_dk okX11_never 0 rfl) rfl rfl ?_
  refine gj_gR (q := 4) (j := 3) (gj_dk okX11_never 1 rfl) ff_X11_32 (sh0 hst) (by decide) rfl (rf0_3 hst) rfl ?_
  refine gj_callV (q := 7) (z := 14) (ci := 5) [] rfl (w_X5_stands_14 hst  ) (gj_dk okX11_never 2 rfl) ml_X11_268 me_X5_stands (sh14 hst) rfl (gj_nm rfl) rfl (gj_kI fun x2 S2 M2 h1 => ?_)
  obtain ⟨bx2, eS, eM⟩ := h1; subst eS; subst eM
  refine gj_if_ne (q := 10) (tgt := 13) (gj_dk okX11_never 3 rfl) (by decide) rfl (fun c7 => ?_) (fun c7 => ?_)
  · -- 13
    refine gj_iload_n (q := 14) (gj_dk okX11_never 6 rfl) rfl rfl ?_
    by_cases c14_0 : a1 = 0
    · refine gj_lookup (tgt := 40) (off := 26) (gj_dk okX11_never 7 rfl) (by decide) (by rw [c14_0]; rfl) (by decide) ?_
      refine gj_aload_n (q := 41) (gj_dk okX11_never 8 rfl) rfl rfl ?_
      refine gj_callV (q := 44) (z := 0) (ci := 9) [] rfl (w_X11_neverTried hst  ) (gj_dk okX11_never 9 rfl) ml_X11_308 me_X11_neverTried (sh0 hst) rfl (gj_nm rfl) rfl (gj_kI fun x6 S2 M2 h5 => ?_)
      obtain ⟨eS, eM⟩ := h5; subst eS; subst eM
      exact gj_iret (gj_dk okX11_never 10 rfl) rfl ⟨_, rfl, rfl, rfl⟩
    by_cases c14_1 : a1 = 1
    · refine gj_lookup (tgt := 45) (off := 31) (gj_dk okX11_never 7 rfl) (by decide) (by rw [c14_1]; rfl) (by decide) ?_
      refine gj_aload_n (q := 46) (gj_dk okX11_never 11 rfl) rfl rfl ?_
      refine gj_gR (q := 49) (j := 3) (gj_dk okX11_never 12 rfl) ff_X11_32 (sh0 hst) (by decide) rfl (rf0_3 hst) rfl ?_
      refine gj_aload_n (q := 50) (gj_dk okX11_never 13 rfl) rfl rfl ?_
      refine gj_gR (q := 53) (j := 7) (gj_dk okX11_never 14 rfl) ff_X11_63 (sh0 hst) (by decide) rfl (rf0_7 hst) rfl ?_
      refine gj_gR (q := 56) (j := 2) (gj_dk okX11_never 15 rfl) ff_X11_300 (sh41 hst) (by decide) rfl (rf41_2 hst) rfl ?_
      refine gj_callV (q := 59) (z := 14) (ci := 5) [jR 43] rfl (w_X5_yearSum hst (sh43 hst) (by decide) ) (gj_dk okX11_never 16 rfl) ml_X11_301 me_X5_yearSum (sh14 hst) rfl (gj_nm rfl) rfl (gj_kI fun x10 S2 M2 h9 => ?_)
      obtain ⟨eS, eM⟩ := h9; subst eS; subst eM
      refine gj_aload_n (q := 60) (gj_dk okX11_never 17 rfl) rfl rfl ?_
      refine gj_gR (q := 63) (j := 3) (gj_dk okX11_never 18 rfl) ff_X11_32 (sh0 hst) (by decide) rfl (rf0_3 hst) rfl ?_
      refine gj_aload_n (q := 64) (gj_dk okX11_never 19 rfl) rfl rfl ?_
      refine gj_gR (q := 67) (j := 4) (gj_dk okX11_never 20 rfl) ff_X11_38 (sh0 hst) (by decide) rfl (rf0_4 hst) rfl ?_
      refine gj_gR (q := 70) (j := 3) (gj_dk okX11_never 21 rfl) ff_X11_143 (sh21 hst) (by decide) rfl (rf21_3 hst) rfl ?_
      refine gj_callV (q := 73) (z := 14) (ci := 5) [jR 22] rfl (w_X5_yearSum hst (sh22 hst) (by decide) ) (gj_dk okX11_never 22 rfl) ml_X11_301 me_X5_yearSum (sh14 hst) rfl (gj_nm rfl) rfl (gj_kI fun x14 S2 M2 h13 => ?_)
      obtain ⟨eS, eM⟩ := h13; subst eS; subst eM
      refine gj_isub (q := 74) (gj_dk okX11_never 23 rfl) rfl ?_
      exact gj_iret (gj_dk okX11_never 24 rfl) rfl ⟨_, rfl, rfl, rfl⟩
    refine gj_lookup (tgt := 75) (off := 61) (gj_dk okX11_never 7 rfl) (by decide) (by simp [Op.lookupswitch.offset, c14_0, Ne.symm c14_0, c14_1, Ne.symm c14_1]) (by decide) ?_
    refine gj_ldc (q := 77) (z := -2147483648) (gj_dk okX11_never 25 rfl) kc_X11_135 (by decide) rfl ?_
    exact gj_iret (gj_dk okX11_never 26 rfl) rfl ⟨_, rfl, rfl, rfl⟩
  · -- 10
    refine gj_ldc (q := 12) (z := -2147483648) (gj_dk okX11_never 4 rfl) kc_X11_135 (by decide) rfl ?_
    exact gj_iret (gj_dk okX11_never 5 rfl) rfl ⟨_, rfl, rfl, rfl⟩

set_option maxHeartbeats 4000000 in
set_option maxRecDepth 20000 in
theorem w_X3_pairsOf (hst : gj_Stat S) (a1 : Int)  : gj_C G l 2 0 0 yX3_pairsOf cX3_pairsOf 4 (some .int) [jR 21, jI a1] S M (gj_qI fun x S' M' => S = S' ∧ M = M') := by
  refine gj_Cof (by decide +kernel) (Nat.le_of_ble_eq_true rfl) ?_
  change gj_W G l 2 0 0 yX3_pairsOf cX3_pairsOf 4 (some .int) (gj_qI fun x S' M' => S = S' ∧ M = M') 0 0 0 [(0, jR 21), (1, jI a1)] [] S M
  refine gj_iconst (q := 1) (gj_dk okX3_pairsOf 0 rfl) (by decide) rfl ?_
  refine gj_istore_n (q := 2) (gj_dk okX3_pairsOf 1 rfl) (by decide) rfl ?_
  refine gj_iconst (q := 3) (gj_dk okX3_pairsOf 2 rfl) (by decide) rfl ?_
  refine gj_istore_n (q := 4) (gj_dk okX3_pairsOf 3 rfl) (by decide) rfl ?_
  have L4 : ∀ (k3 : Nat) (x1 x2 : Int), (2147483647 - x2).toNat < k3 → gj_W G l 2 0 0 yX3_pairsOf cX3_pairsOf 4 (some .int) (gj_qI fun x S' M' => S = S' ∧ M = M') 0 0 4 [(0, jR 21), (1, jI a1), (2, jI x1), (3, jI x2)] [] S M := by
    intro k3
    induction k3 with
    | zero => intro x1 x2 hk4; exact absurd hk4 (Nat.not_lt_zero _)
    | succ k3 ih4 =>
      intro x1 x2 hk4
      refine gj_iload_n (q := 5) (gj_dk okX3_pairsOf 4 rfl) rfl rfl ?_
      refine gj_iconst (q := 6) (gj_dk okX3_pairsOf 5 rfl) (by decide) rfl ?_
      refine gj_rng (fun ho6 _ _ => ?_)
      have ha6 : -2147483648 ≤ x2 ∧ x2 < 2147483648 := gj_o1 ho6
      clear ho6
      refine gj_icmp_ge (q := 9) (tgt := 42) (gj_dk okX3_pairsOf 6 rfl) (by decide) rfl (fun c6 => ?_) (fun c6 => ?_)
      · -- 42
        refine gj_iload_n (q := 43) (gj_dk okX3_pairsOf 22 rfl) rfl rfl ?_
        exact gj_iret (gj_dk okX3_pairsOf 23 rfl) rfl ⟨_, rfl, rfl, rfl⟩
      · -- 9
        refine gj_aload_n (q := 10) (gj_dk okX3_pairsOf 7 rfl) rfl rfl ?_
        refine gj_gR (q := 13) (j := 3) (gj_dk okX3_pairsOf 8 rfl) ff_X3_9 (sh21 hst) (by decide) rfl (rf21_3 hst) rfl ?_
        refine gj_iload_n (q := 14) (gj_dk okX3_pairsOf 9 rfl) rfl rfl ?_
        refine gj_callS (q := 17) [jR 22, jI x2] rfl (c_X7_at (sh22 hst) (by decide) (by decide) _) (gj_dk okX3_pairsOf 10 rfl) ml_X3_75 me_X7_at (gj_nm rfl) rfl (gj_kI fun x5 S2 M2 h4 => ?_)
        obtain ⟨-, eS, eM⟩ := h4; subst eS; subst eM
        refine gj_iconst (q := 18) (gj_dk okX3_pairsOf 11 rfl) (by decide) rfl ?_
        refine gj_rng (fun ho18 _ _ => ?_)
        have ha18 : -2147483648 ≤ x5 ∧ x5 < 2147483648 := gj_o1 ho18
        clear ho18
        refine gj_icmp_eq (q := 21) (tgt := 36) (gj_dk okX3_pairsOf 12 rfl) (by decide) rfl (fun c18 => ?_) (fun c18 => ?_)
        · -- 36
          refine gj_iinc (q := 39) (v := x2 + 1) (gj_dk okX3_pairsOf 20 rfl) rfl (by decide) (gj_wle (by omega) (by omega)) rfl ?_
          refine gj_goto (tgt := 4) (gj_dk okX3_pairsOf 21 rfl) (by decide) ?_
          refine gj_sub [(0, jR 21), (1, jI a1), (2, jI x1), (3, jI (x2 + 1))] ⟨rfl, rfl, rfl, rfl, trivial⟩ ?_
          exact ih4 _ _ (by omega)
        · -- 21
          refine gj_aload_n (q := 22) (gj_dk okX3_pairsOf 13 rfl) rfl rfl ?_
          refine gj_gR (q := 25) (j := 5) (gj_dk okX3_pairsOf 14 rfl) ff_X3_18 (sh21 hst) (by decide) rfl (rf21_5 hst) rfl ?_
          refine gj_iload_n (q := 26) (gj_dk okX3_pairsOf 15 rfl) rfl rfl ?_
          refine gj_callS (q := 29) [jR 24, jI x2] rfl (c_X7_at (sh24 hst) (by decide) (by decide) _) (gj_dk okX3_pairsOf 16 rfl) ml_X3_75 me_X7_at (gj_nm rfl) rfl (gj_kI fun x8 S2 M2 h7 => ?_)
          obtain ⟨-, eS, eM⟩ := h7; subst eS; subst eM
          refine gj_iload_n (q := 30) (gj_dk okX3_pairsOf 17 rfl) rfl rfl ?_
          refine gj_rng (fun ho30 _ _ => ?_)
          have hb30 : -2147483648 ≤ a1 ∧ a1 < 2147483648 := gj_o0 ho30
          have ha30 : -2147483648 ≤ x8 ∧ x8 < 2147483648 := gj_o1 ho30
          clear ho30
          refine gj_icmp_lt (q := 33) (tgt := 36) (gj_dk okX3_pairsOf 18 rfl) (by decide) rfl (fun c30 => ?_) (fun c30 => ?_)
          · -- 36
            refine gj_iinc (q := 39) (v := x2 + 1) (gj_dk okX3_pairsOf 20 rfl) rfl (by decide) (gj_wle (by omega) (by omega)) rfl ?_
            refine gj_goto (tgt := 4) (gj_dk okX3_pairsOf 21 rfl) (by decide) ?_
            refine gj_sub [(0, jR 21), (1, jI a1), (2, jI x1), (3, jI (x2 + 1))] ⟨rfl, rfl, rfl, rfl, trivial⟩ ?_
            exact ih4 _ _ (by omega)
          · -- 33
            refine gj_iinc (q := 36) (v := gj_w (x1 + 1)) (gj_dk okX3_pairsOf 19 rfl) rfl (by decide) rfl rfl ?_
            refine gj_iinc (q := 39) (v := x2 + 1) (gj_dk okX3_pairsOf 20 rfl) rfl (by decide) (gj_wle (by omega) (by omega)) rfl ?_
            refine gj_goto (tgt := 4) (gj_dk okX3_pairsOf 21 rfl) (by decide) ?_
            refine gj_sub [(0, jR 21), (1, jI a1), (2, jI (gj_w (x1 + 1))), (3, jI (x2 + 1))] ⟨rfl, rfl, rfl, rfl, trivial⟩ ?_
            exact ih4 _ _ (by omega)
  refine gj_sub [(0, jR 21), (1, jI a1), (2, jI 0), (3, jI 0)] ⟨rfl, rfl, rfl, rfl, trivial⟩ ?_
  exact L4 _ _ _ (Nat.lt_succ_self _)

set_option maxHeartbeats 4000000 in
set_option maxRecDepth 20000 in
theorem w_X11_pairs (hst : gj_Stat S) (a1 a2 : Int)  : gj_C G l 3 0 0 yX11_pairs cX11_pairs 3 (some .int) [jR 0, jI a1, jI a2] S M (gj_qI fun x S' M' => S = S' ∧ M = M') := by
  refine gj_Cof (by decide +kernel) (Nat.le_of_ble_eq_true rfl) ?_
  change gj_W G l 3 0 0 yX11_pairs cX11_pairs 3 (some .int) (gj_qI fun x S' M' => S = S' ∧ M = M') 0 0 0 [(0, jR 0), (1, jI a1), (2, jI a2)] [] S M
  refine gj_iload_n (q := 1) (gj_dk okX11_pairs 0 rfl) rfl rfl ?_
  refine gj_if_lt (q := 4) (tgt := 10) (gj_dk okX11_pairs 1 rfl) (by decide) rfl (fun c1 => ?_) (fun c1 => ?_)
  · -- 10
    refine gj_iconst (q := 11) (gj_dk okX11_pairs 5 rfl) (by decide) rfl ?_
    exact gj_iret (gj_dk okX11_pairs 6 rfl) rfl ⟨_, rfl, rfl, rfl⟩
  · -- 4
    refine gj_iload_n (q := 5) (gj_dk okX11_pairs 2 rfl) rfl rfl ?_
    refine gj_bipush (q := 7) (gj_dk okX11_pairs 3 rfl) (by decide) rfl rfl ?_
    refine gj_icmp_le (q := 10) (tgt := 12) (gj_dk okX11_pairs 4 rfl) (by decide) rfl (fun c7 => ?_) (fun c7 => ?_)
    · -- 12
      refine gj_iload_n (q := 13) (gj_dk okX11_pairs 7 rfl) rfl rfl ?_
      by_cases c13_0 : a2 = 0
      · refine gj_lookup (tgt := 40) (off := 27) (gj_dk okX11_pairs 8 rfl) (by decide) (by rw [c13_0]; rfl) (by decide) ?_
        refine gj_aload_n (q := 41) (gj_dk okX11_pairs 9 rfl) rfl rfl ?_
        refine gj_gR (q := 44) (j := 4) (gj_dk okX11_pairs 10 rfl) ff_X11_38 (sh0 hst) (by decide) rfl (rf0_4 hst) rfl ?_
        refine gj_iconst (q := 45) (gj_dk okX11_pairs 11 rfl) (by decide) rfl ?_
        refine gj_callV (q := 48) (z := 21) (ci := 3) [jI 0] rfl (w_X3_pairsOf hst  _) (gj_dk okX11_pairs 12 rfl) ml_X11_311 me_X3_pairsOf (sh21 hst) rfl (gj_nm rfl) rfl (gj_kI fun x2 S2 M2 h1 => ?_)
        obtain ⟨eS, eM⟩ := h1; subst eS; subst eM
        exact gj_iret (gj_dk okX11_pairs 13 rfl) rfl ⟨_, rfl, rfl, rfl⟩
      by_cases c13_1 : a2 = 1
      · refine gj_lookup (tgt := 49) (off := 36) (gj_dk okX11_pairs 8 rfl) (by decide) (by rw [c13_1]; rfl) (by decide) ?_
        refine gj_aload_n (q := 50) (gj_dk okX11_pairs 14 rfl) rfl rfl ?_
        refine gj_gR (q := 53) (j := 4) (gj_dk okX11_pairs 15 rfl) ff_X11_38 (sh0 hst) (by decide) rfl (rf0_4 hst) rfl ?_
        refine gj_iload_n (q := 54) (gj_dk okX11_pairs 16 rfl) rfl rfl ?_
        refine gj_callV (q := 57) (z := 21) (ci := 3) [jI a1] rfl (w_X3_pairsOf hst  _) (gj_dk okX11_pairs 17 rfl) ml_X11_311 me_X3_pairsOf (sh21 hst) rfl (gj_nm rfl) rfl (gj_kI fun x6 S2 M2 h5 => ?_)
        obtain ⟨eS, eM⟩ := h5; subst eS; subst eM
        exact gj_iret (gj_dk okX11_pairs 18 rfl) rfl ⟨_, rfl, rfl, rfl⟩
      refine gj_lookup (tgt := 58) (off := 45) (gj_dk okX11_pairs 8 rfl) (by decide) (by simp [Op.lookupswitch.offset, c13_0, Ne.symm c13_0, c13_1, Ne.symm c13_1]) (by decide) ?_
      refine gj_iconst (q := 59) (gj_dk okX11_pairs 19 rfl) (by decide) rfl ?_
      exact gj_iret (gj_dk okX11_pairs 20 rfl) rfl ⟨_, rfl, rfl, rfl⟩
    · -- 10
      refine gj_iconst (q := 11) (gj_dk okX11_pairs 5 rfl) (by decide) rfl ?_
      exact gj_iret (gj_dk okX11_pairs 6 rfl) rfl ⟨_, rfl, rfl, rfl⟩

set_option maxHeartbeats 4000000 in
set_option maxRecDepth 20000 in
theorem w_X11_pictureAt (hst : gj_Stat S) (a1 : Int)  : gj_C G l 1 0 0 yX11_pictureAt cX11_pictureAt 2 (some (.object "MayGreen$Life")) [jR 0, jI a1] S M (gj_qR fun x S' M' => (x = -1 ∨ x = 47 ∨ x = 57 ∨ x = 67) ∧ S = S' ∧ M = M') := by
  refine gj_Cof (by decide +kernel) (Nat.le_of_ble_eq_true rfl) ?_
  change gj_W G l 1 0 0 yX11_pictureAt cX11_pictureAt 2 (some (.object "MayGreen$Life")) (gj_qR fun x S' M' => (x = -1 ∨ x = 47 ∨ x = 57 ∨ x = 67) ∧ S = S' ∧ M = M') 0 0 0 [(0, jR 0), (1, jI a1)] [] S M
  refine gj_iload_n (q := 1) (gj_dk okX11_pictureAt 0 rfl) rfl rfl ?_
  refine gj_if_lt (q := 4) (tgt := 13) (gj_dk okX11_pictureAt 1 rfl) (by decide) rfl (fun c1 => ?_) (fun c1 => ?_)
  · -- 13
    refine gj_null (q := 14) (gj_dk okX11_pictureAt 7 rfl) rfl ?_
    refine gj_goto (tgt := 23) (gj_dk okX11_pictureAt 8 rfl) (by decide) ?_
    exact gj_aret (gj_dk okX11_pictureAt 13 rfl) rfl ⟨_, rfl, (by decide), rfl, rfl⟩
  · -- 4
    refine gj_iload_n (q := 5) (gj_dk okX11_pictureAt 2 rfl) rfl rfl ?_
    refine gj_aload_n (q := 6) (gj_dk okX11_pictureAt 3 rfl) rfl rfl ?_
    refine gj_gR (q := 9) (j := 9) (gj_dk okX11_pictureAt 4 rfl) ff_X11_76 (sh0 hst) (by decide) rfl (rf0_9 hst) rfl ?_
    refine gj_alen (q := 10) (gj_dk okX11_pictureAt 5 rfl) (sh46 hst) (by decide) rfl ?_
    refine gj_icmp_lt (q := 13) (tgt := 17) (gj_dk okX11_pictureAt 6 rfl) (by decide) rfl (fun c10 => ?_) (fun c10 => ?_)
    · -- 17
      refine gj_aload_n (q := 18) (gj_dk okX11_pictureAt 9 rfl) rfl rfl ?_
      refine gj_gR (q := 21) (j := 9) (gj_dk okX11_pictureAt 10 rfl) ff_X11_76 (sh0 hst) (by decide) rfl (rf0_9 hst) rfl ?_
      refine gj_iload_n (q := 22) (gj_dk okX11_pictureAt 11 rfl) rfl rfl ?_
      have hi22 : a1 = 0 ∨ a1 = 1 ∨ a1 = 2 := by omega
      rcases hi22 with hi22 | hi22 | hi22
      · refine gj_aald (q := 23) (w := 47) (gj_dk okX11_pictureAt 12 rfl) (sh46 hst) (by omega) (by omega) (by omega) (by rw [hi22]; exact (rf46_0 hst)) rfl ?_
        exact gj_aret (gj_dk okX11_pictureAt 13 rfl) rfl ⟨_, rfl, (by decide), rfl, rfl⟩
      · refine gj_aald (q := 23) (w := 57) (gj_dk okX11_pictureAt 12 rfl) (sh46 hst) (by omega) (by omega) (by omega) (by rw [hi22]; exact (rf46_1 hst)) rfl ?_
        exact gj_aret (gj_dk okX11_pictureAt 13 rfl) rfl ⟨_, rfl, (by decide), rfl, rfl⟩
      · refine gj_aald (q := 23) (w := 67) (gj_dk okX11_pictureAt 12 rfl) (sh46 hst) (by omega) (by omega) (by omega) (by rw [hi22]; exact (rf46_2 hst)) rfl ?_
        exact gj_aret (gj_dk okX11_pictureAt 13 rfl) rfl ⟨_, rfl, (by decide), rfl, rfl⟩
    · -- 13
      refine gj_null (q := 14) (gj_dk okX11_pictureAt 7 rfl) rfl ?_
      refine gj_goto (tgt := 23) (gj_dk okX11_pictureAt 8 rfl) (by decide) ?_
      exact gj_aret (gj_dk okX11_pictureAt 13 rfl) rfl ⟨_, rfl, (by decide), rfl, rfl⟩

set_option maxHeartbeats 4000000 in
set_option maxRecDepth 20000 in
theorem w_X1_copyOf_55_29 (hst : gj_Stat S) (h : w_CW M0 M)   : gj_C G l 2 0 0 yX1_copyOf cX1_copyOf 2 none [jR 55, jR 29] S M (gj_qV fun S' M' => S = S' ∧ w_CW M0 M') := by
  refine gj_Cof (by decide +kernel) (Nat.le_of_ble_eq_true rfl) ?_
  change gj_W G l 2 0 0 yX1_copyOf cX1_copyOf 2 none (gj_qV fun S' M' => S = S' ∧ w_CW M0 M') 0 0 0 [(0, jR 55), (1, jR 29)] [] S M
  refine gj_aload_n (q := 1) (gj_dk okX1_copyOf 0 rfl) rfl rfl ?_
  refine gj_ifnonnull (q := 4) (tgt := 5) (gj_dk okX1_copyOf 1 rfl) (by decide) rfl (fun c1 => ?_) (fun c1 => ?_)
  · -- 5
    refine gj_aload_n (q := 6) (gj_dk okX1_copyOf 3 rfl) rfl rfl ?_
    refine gj_aload_n (q := 7) (gj_dk okX1_copyOf 4 rfl) rfl rfl ?_
    refine gj_gI (q := 10) (j := 1) (gj_dk okX1_copyOf 5 rfl) ff_X1_19 (sh29 hst) (by decide) rfl rfl ?_
    refine gj_pfI (q := 13) (j := 1) (gj_dk okX1_copyOf 6 rfl) ff_X1_19 (sh55 hst) (by decide) rfl rfl ?_
    refine gj_abs (fun M1 e3 => ?_)
    have w2 : w_CW M0 M1 := by rw [e3]; exact h.up (by decide) rfl
    clear e3
    refine gj_aload_n (q := 14) (gj_dk okX1_copyOf 7 rfl) rfl rfl ?_
    refine gj_aload_n (q := 15) (gj_dk okX1_copyOf 8 rfl) rfl rfl ?_
    refine gj_gI (q := 18) (j := 2) (gj_dk okX1_copyOf 9 rfl) ff_X1_15 (sh29 hst) (by decide) rfl rfl ?_
    refine gj_pfI (q := 21) (j := 2) (gj_dk okX1_copyOf 10 rfl) ff_X1_15 (sh55 hst) (by decide) rfl rfl ?_
    refine gj_abs (fun M4 e6 => ?_)
    have w5 : w_CW M0 M4 := by rw [e6]; exact w2.up (by decide) rfl
    clear e6
    refine gj_aload_n (q := 22) (gj_dk okX1_copyOf 11 rfl) rfl rfl ?_
    refine gj_gR (q := 25) (j := 0) (gj_dk okX1_copyOf 12 rfl) ff_X1_11 (sh29 hst) (by decide) rfl (rf29_0 hst) rfl ?_
    refine gj_aload_n (q := 26) (gj_dk okX1_copyOf 13 rfl) rfl rfl ?_
    refine gj_gR (q := 29) (j := 0) (gj_dk okX1_copyOf 14 rfl) ff_X1_11 (sh55 hst) (by decide) rfl (rf55_0 hst) rfl ?_
    refine gj_callS (q := 32) [jR 30, jR 56] rfl (c_X7_copy (sh30 hst) (by decide) (by decide) (sh56 hst) (by decide) (by decide) (by decide)) (gj_dk okX1_copyOf 15 rfl) ml_X1_22 me_X7_copy (gj_nm rfl) rfl (gj_kV fun S2 M2 h7 => ?_)
    obtain ⟨eS, eM⟩ := h7; subst eS
    have w10 : w_CW M0 M2 := by rw [← eM]; exact w_CW.copy w5 (by decide) (by decide)
    clear eM
    revert w10; generalize M2 = M11; intro w10
    exact gj_vret (gj_dk okX1_copyOf 16 rfl) rfl ⟨rfl, rfl, w10⟩
  · first | exact absurd c1 (by decide) | exact absurd rfl c1

set_option maxHeartbeats 4000000 in
set_option maxRecDepth 20000 in
theorem w_X1_copyOf_65_29 (hst : gj_Stat S) (h : w_CW M0 M)   : gj_C G l 2 0 0 yX1_copyOf cX1_copyOf 2 none [jR 65, jR 29] S M (gj_qV fun S' M' => S = S' ∧ w_CW M0 M') := by
  refine gj_Cof (by decide +kernel) (Nat.le_of_ble_eq_true rfl) ?_
  change gj_W G l 2 0 0 yX1_copyOf cX1_copyOf 2 none (gj_qV fun S' M' => S = S' ∧ w_CW M0 M') 0 0 0 [(0, jR 65), (1, jR 29)] [] S M
  refine gj_aload_n (q := 1) (gj_dk okX1_copyOf 0 rfl) rfl rfl ?_
  refine gj_ifnonnull (q := 4) (tgt := 5) (gj_dk okX1_copyOf 1 rfl) (by decide) rfl (fun c1 => ?_) (fun c1 => ?_)
  · -- 5
    refine gj_aload_n (q := 6) (gj_dk okX1_copyOf 3 rfl) rfl rfl ?_
    refine gj_aload_n (q := 7) (gj_dk okX1_copyOf 4 rfl) rfl rfl ?_
    refine gj_gI (q := 10) (j := 1) (gj_dk okX1_copyOf 5 rfl) ff_X1_19 (sh29 hst) (by decide) rfl rfl ?_
    refine gj_pfI (q := 13) (j := 1) (gj_dk okX1_copyOf 6 rfl) ff_X1_19 (sh65 hst) (by decide) rfl rfl ?_
    refine gj_abs (fun M1 e3 => ?_)
    have w2 : w_CW M0 M1 := by rw [e3]; exact h.up (by decide) rfl
    clear e3
    refine gj_aload_n (q := 14) (gj_dk okX1_copyOf 7 rfl) rfl rfl ?_
    refine gj_aload_n (q := 15) (gj_dk okX1_copyOf 8 rfl) rfl rfl ?_
    refine gj_gI (q := 18) (j := 2) (gj_dk okX1_copyOf 9 rfl) ff_X1_15 (sh29 hst) (by decide) rfl rfl ?_
    refine gj_pfI (q := 21) (j := 2) (gj_dk okX1_copyOf 10 rfl) ff_X1_15 (sh65 hst) (by decide) rfl rfl ?_
    refine gj_abs (fun M4 e6 => ?_)
    have w5 : w_CW M0 M4 := by rw [e6]; exact w2.up (by decide) rfl
    clear e6
    refine gj_aload_n (q := 22) (gj_dk okX1_copyOf 11 rfl) rfl rfl ?_
    refine gj_gR (q := 25) (j := 0) (gj_dk okX1_copyOf 12 rfl) ff_X1_11 (sh29 hst) (by decide) rfl (rf29_0 hst) rfl ?_
    refine gj_aload_n (q := 26) (gj_dk okX1_copyOf 13 rfl) rfl rfl ?_
    refine gj_gR (q := 29) (j := 0) (gj_dk okX1_copyOf 14 rfl) ff_X1_11 (sh65 hst) (by decide) rfl (rf65_0 hst) rfl ?_
    refine gj_callS (q := 32) [jR 30, jR 66] rfl (c_X7_copy (sh30 hst) (by decide) (by decide) (sh66 hst) (by decide) (by decide) (by decide)) (gj_dk okX1_copyOf 15 rfl) ml_X1_22 me_X7_copy (gj_nm rfl) rfl (gj_kV fun S2 M2 h7 => ?_)
    obtain ⟨eS, eM⟩ := h7; subst eS
    have w10 : w_CW M0 M2 := by rw [← eM]; exact w_CW.copy w5 (by decide) (by decide)
    clear eM
    revert w10; generalize M2 = M11; intro w10
    exact gj_vret (gj_dk okX1_copyOf 16 rfl) rfl ⟨rfl, rfl, w10⟩
  · first | exact absurd c1 (by decide) | exact absurd rfl c1

set_option maxHeartbeats 4000000 in
set_option maxRecDepth 20000 in
theorem w_X1_copyOf_75_29 (hst : gj_Stat S) (h : w_CW M0 M)   : gj_C G l 2 0 0 yX1_copyOf cX1_copyOf 2 none [jR 75, jR 29] S M (gj_qV fun S' M' => S = S' ∧ w_CW M0 M') := by
  refine gj_Cof (by decide +kernel) (Nat.le_of_ble_eq_true rfl) ?_
  change gj_W G l 2 0 0 yX1_copyOf cX1_copyOf 2 none (gj_qV fun S' M' => S = S' ∧ w_CW M0 M') 0 0 0 [(0, jR 75), (1, jR 29)] [] S M
  refine gj_aload_n (q := 1) (gj_dk okX1_copyOf 0 rfl) rfl rfl ?_
  refine gj_ifnonnull (q := 4) (tgt := 5) (gj_dk okX1_copyOf 1 rfl) (by decide) rfl (fun c1 => ?_) (fun c1 => ?_)
  · -- 5
    refine gj_aload_n (q := 6) (gj_dk okX1_copyOf 3 rfl) rfl rfl ?_
    refine gj_aload_n (q := 7) (gj_dk okX1_copyOf 4 rfl) rfl rfl ?_
    refine gj_gI (q := 10) (j := 1) (gj_dk okX1_copyOf 5 rfl) ff_X1_19 (sh29 hst) (by decide) rfl rfl ?_
    refine gj_pfI (q := 13) (j := 1) (gj_dk okX1_copyOf 6 rfl) ff_X1_19 (sh75 hst) (by decide) rfl rfl ?_
    refine gj_abs (fun M1 e3 => ?_)
    have w2 : w_CW M0 M1 := by rw [e3]; exact h.up (by decide) rfl
    clear e3
    refine gj_aload_n (q := 14) (gj_dk okX1_copyOf 7 rfl) rfl rfl ?_
    refine gj_aload_n (q := 15) (gj_dk okX1_copyOf 8 rfl) rfl rfl ?_
    refine gj_gI (q := 18) (j := 2) (gj_dk okX1_copyOf 9 rfl) ff_X1_15 (sh29 hst) (by decide) rfl rfl ?_
    refine gj_pfI (q := 21) (j := 2) (gj_dk okX1_copyOf 10 rfl) ff_X1_15 (sh75 hst) (by decide) rfl rfl ?_
    refine gj_abs (fun M4 e6 => ?_)
    have w5 : w_CW M0 M4 := by rw [e6]; exact w2.up (by decide) rfl
    clear e6
    refine gj_aload_n (q := 22) (gj_dk okX1_copyOf 11 rfl) rfl rfl ?_
    refine gj_gR (q := 25) (j := 0) (gj_dk okX1_copyOf 12 rfl) ff_X1_11 (sh29 hst) (by decide) rfl (rf29_0 hst) rfl ?_
    refine gj_aload_n (q := 26) (gj_dk okX1_copyOf 13 rfl) rfl rfl ?_
    refine gj_gR (q := 29) (j := 0) (gj_dk okX1_copyOf 14 rfl) ff_X1_11 (sh75 hst) (by decide) rfl (rf75_0 hst) rfl ?_
    refine gj_callS (q := 32) [jR 30, jR 76] rfl (c_X7_copy (sh30 hst) (by decide) (by decide) (sh76 hst) (by decide) (by decide) (by decide)) (gj_dk okX1_copyOf 15 rfl) ml_X1_22 me_X7_copy (gj_nm rfl) rfl (gj_kV fun S2 M2 h7 => ?_)
    obtain ⟨eS, eM⟩ := h7; subst eS
    have w10 : w_CW M0 M2 := by rw [← eM]; exact w_CW.copy w5 (by decide) (by decide)
    clear eM
    revert w10; generalize M2 = M11; intro w10
    exact gj_vret (gj_dk okX1_copyOf 16 rfl) rfl ⟨rfl, rfl, w10⟩
  · first | exact absurd c1 (by decide) | exact absurd rfl c1

set_option maxHeartbeats 4000000 in
set_option maxRecDepth 20000 in
theorem w_X1_copyOf_29_55 (hst : gj_Stat S) (h : w_CW M0 M)   : gj_C G l 2 0 0 yX1_copyOf cX1_copyOf 2 none [jR 29, jR 55] S M (gj_qV fun S' M' => S = S' ∧ w_CW M0 M') := by
  refine gj_Cof (by decide +kernel) (Nat.le_of_ble_eq_true rfl) ?_
  change gj_W G l 2 0 0 yX1_copyOf cX1_copyOf 2 none (gj_qV fun S' M' => S = S' ∧ w_CW M0 M') 0 0 0 [(0, jR 29), (1, jR 55)] [] S M
  refine gj_aload_n (q := 1) (gj_dk okX1_copyOf 0 rfl) rfl rfl ?_
  refine gj_ifnonnull (q := 4) (tgt := 5) (gj_dk okX1_copyOf 1 rfl) (by decide) rfl (fun c1 => ?_) (fun c1 => ?_)
  · -- 5
    refine gj_aload_n (q := 6) (gj_dk okX1_copyOf 3 rfl) rfl rfl ?_
    refine gj_aload_n (q := 7) (gj_dk okX1_copyOf 4 rfl) rfl rfl ?_
    refine gj_gI (q := 10) (j := 1) (gj_dk okX1_copyOf 5 rfl) ff_X1_19 (sh55 hst) (by decide) rfl rfl ?_
    refine gj_pfI (q := 13) (j := 1) (gj_dk okX1_copyOf 6 rfl) ff_X1_19 (sh29 hst) (by decide) rfl rfl ?_
    refine gj_abs (fun M1 e3 => ?_)
    have w2 : w_CW M0 M1 := by rw [e3]; exact h.up (by decide) rfl
    clear e3
    refine gj_aload_n (q := 14) (gj_dk okX1_copyOf 7 rfl) rfl rfl ?_
    refine gj_aload_n (q := 15) (gj_dk okX1_copyOf 8 rfl) rfl rfl ?_
    refine gj_gI (q := 18) (j := 2) (gj_dk okX1_copyOf 9 rfl) ff_X1_15 (sh55 hst) (by decide) rfl rfl ?_
    refine gj_pfI (q := 21) (j := 2) (gj_dk okX1_copyOf 10 rfl) ff_X1_15 (sh29 hst) (by decide) rfl rfl ?_
    refine gj_abs (fun M4 e6 => ?_)
    have w5 : w_CW M0 M4 := by rw [e6]; exact w2.up (by decide) rfl
    clear e6
    refine gj_aload_n (q := 22) (gj_dk okX1_copyOf 11 rfl) rfl rfl ?_
    refine gj_gR (q := 25) (j := 0) (gj_dk okX1_copyOf 12 rfl) ff_X1_11 (sh55 hst) (by decide) rfl (rf55_0 hst) rfl ?_
    refine gj_aload_n (q := 26) (gj_dk okX1_copyOf 13 rfl) rfl rfl ?_
    refine gj_gR (q := 29) (j := 0) (gj_dk okX1_copyOf 14 rfl) ff_X1_11 (sh29 hst) (by decide) rfl (rf29_0 hst) rfl ?_
    refine gj_callS (q := 32) [jR 56, jR 30] rfl (c_X7_copy (sh56 hst) (by decide) (by decide) (sh30 hst) (by decide) (by decide) (by decide)) (gj_dk okX1_copyOf 15 rfl) ml_X1_22 me_X7_copy (gj_nm rfl) rfl (gj_kV fun S2 M2 h7 => ?_)
    obtain ⟨eS, eM⟩ := h7; subst eS
    have w10 : w_CW M0 M2 := by rw [← eM]; exact w_CW.copy w5 (by decide) (by decide)
    clear eM
    revert w10; generalize M2 = M11; intro w10
    exact gj_vret (gj_dk okX1_copyOf 16 rfl) rfl ⟨rfl, rfl, w10⟩
  · first | exact absurd c1 (by decide) | exact absurd rfl c1

set_option maxHeartbeats 4000000 in
set_option maxRecDepth 20000 in
theorem w_X1_copyOf_29_65 (hst : gj_Stat S) (h : w_CW M0 M)   : gj_C G l 2 0 0 yX1_copyOf cX1_copyOf 2 none [jR 29, jR 65] S M (gj_qV fun S' M' => S = S' ∧ w_CW M0 M') := by
  refine gj_Cof (by decide +kernel) (Nat.le_of_ble_eq_true rfl) ?_
  change gj_W G l 2 0 0 yX1_copyOf cX1_copyOf 2 none (gj_qV fun S' M' => S = S' ∧ w_CW M0 M') 0 0 0 [(0, jR 29), (1, jR 65)] [] S M
  refine gj_aload_n (q := 1) (gj_dk okX1_copyOf 0 rfl) rfl rfl ?_
  refine gj_ifnonnull (q := 4) (tgt := 5) (gj_dk okX1_copyOf 1 rfl) (by decide) rfl (fun c1 => ?_) (fun c1 => ?_)
  · -- 5
    refine gj_aload_n (q := 6) (gj_dk okX1_copyOf 3 rfl) rfl rfl ?_
    refine gj_aload_n (q := 7) (gj_dk okX1_copyOf 4 rfl) rfl rfl ?_
    refine gj_gI (q := 10) (j := 1) (gj_dk okX1_copyOf 5 rfl) ff_X1_19 (sh65 hst) (by decide) rfl rfl ?_
    refine gj_pfI (q := 13) (j := 1) (gj_dk okX1_copyOf 6 rfl) ff_X1_19 (sh29 hst) (by decide) rfl rfl ?_
    refine gj_abs (fun M1 e3 => ?_)
    have w2 : w_CW M0 M1 := by rw [e3]; exact h.up (by decide) rfl
    clear e3
    refine gj_aload_n (q := 14) (gj_dk okX1_copyOf 7 rfl) rfl rfl ?_
    refine gj_aload_n (q := 15) (gj_dk okX1_copyOf 8 rfl) rfl rfl ?_
    refine gj_gI (q := 18) (j := 2) (gj_dk okX1_copyOf 9 rfl) ff_X1_15 (sh65 hst) (by decide) rfl rfl ?_
    refine gj_pfI (q := 21) (j := 2) (gj_dk okX1_copyOf 10 rfl) ff_X1_15 (sh29 hst) (by decide) rfl rfl ?_
    refine gj_abs (fun M4 e6 => ?_)
    have w5 : w_CW M0 M4 := by rw [e6]; exact w2.up (by decide) rfl
    clear e6
    refine gj_aload_n (q := 22) (gj_dk okX1_copyOf 11 rfl) rfl rfl ?_
    refine gj_gR (q := 25) (j := 0) (gj_dk okX1_copyOf 12 rfl) ff_X1_11 (sh65 hst) (by decide) rfl (rf65_0 hst) rfl ?_
    refine gj_aload_n (q := 26) (gj_dk okX1_copyOf 13 rfl) rfl rfl ?_
    refine gj_gR (q := 29) (j := 0) (gj_dk okX1_copyOf 14 rfl) ff_X1_11 (sh29 hst) (by decide) rfl (rf29_0 hst) rfl ?_
    refine gj_callS (q := 32) [jR 66, jR 30] rfl (c_X7_copy (sh66 hst) (by decide) (by decide) (sh30 hst) (by decide) (by decide) (by decide)) (gj_dk okX1_copyOf 15 rfl) ml_X1_22 me_X7_copy (gj_nm rfl) rfl (gj_kV fun S2 M2 h7 => ?_)
    obtain ⟨eS, eM⟩ := h7; subst eS
    have w10 : w_CW M0 M2 := by rw [← eM]; exact w_CW.copy w5 (by decide) (by decide)
    clear eM
    revert w10; generalize M2 = M11; intro w10
    exact gj_vret (gj_dk okX1_copyOf 16 rfl) rfl ⟨rfl, rfl, w10⟩
  · first | exact absurd c1 (by decide) | exact absurd rfl c1

set_option maxHeartbeats 4000000 in
set_option maxRecDepth 20000 in
theorem w_X1_copyOf_29_75 (hst : gj_Stat S) (h : w_CW M0 M)   : gj_C G l 2 0 0 yX1_copyOf cX1_copyOf 2 none [jR 29, jR 75] S M (gj_qV fun S' M' => S = S' ∧ w_CW M0 M') := by
  refine gj_Cof (by decide +kernel) (Nat.le_of_ble_eq_true rfl) ?_
  change gj_W G l 2 0 0 yX1_copyOf cX1_copyOf 2 none (gj_qV fun S' M' => S = S' ∧ w_CW M0 M') 0 0 0 [(0, jR 29), (1, jR 75)] [] S M
  refine gj_aload_n (q := 1) (gj_dk okX1_copyOf 0 rfl) rfl rfl ?_
  refine gj_ifnonnull (q := 4) (tgt := 5) (gj_dk okX1_copyOf 1 rfl) (by decide) rfl (fun c1 => ?_) (fun c1 => ?_)
  · -- 5
    refine gj_aload_n (q := 6) (gj_dk okX1_copyOf 3 rfl) rfl rfl ?_
    refine gj_aload_n (q := 7) (gj_dk okX1_copyOf 4 rfl) rfl rfl ?_
    refine gj_gI (q := 10) (j := 1) (gj_dk okX1_copyOf 5 rfl) ff_X1_19 (sh75 hst) (by decide) rfl rfl ?_
    refine gj_pfI (q := 13) (j := 1) (gj_dk okX1_copyOf 6 rfl) ff_X1_19 (sh29 hst) (by decide) rfl rfl ?_
    refine gj_abs (fun M1 e3 => ?_)
    have w2 : w_CW M0 M1 := by rw [e3]; exact h.up (by decide) rfl
    clear e3
    refine gj_aload_n (q := 14) (gj_dk okX1_copyOf 7 rfl) rfl rfl ?_
    refine gj_aload_n (q := 15) (gj_dk okX1_copyOf 8 rfl) rfl rfl ?_
    refine gj_gI (q := 18) (j := 2) (gj_dk okX1_copyOf 9 rfl) ff_X1_15 (sh75 hst) (by decide) rfl rfl ?_
    refine gj_pfI (q := 21) (j := 2) (gj_dk okX1_copyOf 10 rfl) ff_X1_15 (sh29 hst) (by decide) rfl rfl ?_
    refine gj_abs (fun M4 e6 => ?_)
    have w5 : w_CW M0 M4 := by rw [e6]; exact w2.up (by decide) rfl
    clear e6
    refine gj_aload_n (q := 22) (gj_dk okX1_copyOf 11 rfl) rfl rfl ?_
    refine gj_gR (q := 25) (j := 0) (gj_dk okX1_copyOf 12 rfl) ff_X1_11 (sh75 hst) (by decide) rfl (rf75_0 hst) rfl ?_
    refine gj_aload_n (q := 26) (gj_dk okX1_copyOf 13 rfl) rfl rfl ?_
    refine gj_gR (q := 29) (j := 0) (gj_dk okX1_copyOf 14 rfl) ff_X1_11 (sh29 hst) (by decide) rfl (rf29_0 hst) rfl ?_
    refine gj_callS (q := 32) [jR 76, jR 30] rfl (c_X7_copy (sh76 hst) (by decide) (by decide) (sh30 hst) (by decide) (by decide) (by decide)) (gj_dk okX1_copyOf 15 rfl) ml_X1_22 me_X7_copy (gj_nm rfl) rfl (gj_kV fun S2 M2 h7 => ?_)
    obtain ⟨eS, eM⟩ := h7; subst eS
    have w10 : w_CW M0 M2 := by rw [← eM]; exact w_CW.copy w5 (by decide) (by decide)
    clear eM
    revert w10; generalize M2 = M11; intro w10
    exact gj_vret (gj_dk okX1_copyOf 16 rfl) rfl ⟨rfl, rfl, w10⟩
  · first | exact absurd c1 (by decide) | exact absurd rfl c1

set_option maxHeartbeats 4000000 in
set_option maxRecDepth 20000 in
theorem w_X3_copyOf_47_21 (hst : gj_Stat S) (h : w_CW M0 M)   : gj_C G l 3 0 0 yX3_copyOf cX3_copyOf 2 none [jR 47, jR 21] S M (gj_qV fun S' M' => S = S' ∧ w_CW M0 M') := by
  refine gj_Cof (by decide +kernel) (Nat.le_of_ble_eq_true rfl) ?_
  change gj_W G l 3 0 0 yX3_copyOf cX3_copyOf 2 none (gj_qV fun S' M' => S = S' ∧ w_CW M0 M') 0 0 0 [(0, jR 47), (1, jR 21)] [] S M
  refine gj_aload_n (q := 1) (gj_dk okX3_copyOf 0 rfl) rfl rfl ?_
  refine gj_ifnonnull (q := 4) (tgt := 5) (gj_dk okX3_copyOf 1 rfl) (by decide) rfl (fun c1 => ?_) (fun c1 => ?_)
  · -- 5
    refine gj_aload_n (q := 6) (gj_dk okX3_copyOf 3 rfl) rfl rfl ?_
    refine gj_aload_n (q := 7) (gj_dk okX3_copyOf 4 rfl) rfl rfl ?_
    refine gj_gI (q := 10) (j := 0) (gj_dk okX3_copyOf 5 rfl) ff_X3_46 (sh21 hst) (by decide) rfl rfl ?_
    refine gj_pfI (q := 13) (j := 0) (gj_dk okX3_copyOf 6 rfl) ff_X3_46 (sh47 hst) (by decide) rfl rfl ?_
    refine gj_abs (fun M1 e3 => ?_)
    have w2 : w_CW M0 M1 := by rw [e3]; exact h.up (by decide) rfl
    clear e3
    refine gj_aload_n (q := 14) (gj_dk okX3_copyOf 7 rfl) rfl rfl ?_
    refine gj_aload_n (q := 15) (gj_dk okX3_copyOf 8 rfl) rfl rfl ?_
    refine gj_gI (q := 18) (j := 1) (gj_dk okX3_copyOf 9 rfl) ff_X3_50 (sh21 hst) (by decide) rfl rfl ?_
    refine gj_pfI (q := 21) (j := 1) (gj_dk okX3_copyOf 10 rfl) ff_X3_50 (sh47 hst) (by decide) rfl rfl ?_
    refine gj_abs (fun M4 e6 => ?_)
    have w5 : w_CW M0 M4 := by rw [e6]; exact w2.up (by decide) rfl
    clear e6
    refine gj_aload_n (q := 22) (gj_dk okX3_copyOf 11 rfl) rfl rfl ?_
    refine gj_aload_n (q := 23) (gj_dk okX3_copyOf 12 rfl) rfl rfl ?_
    refine gj_gI (q := 26) (j := 2) (gj_dk okX3_copyOf 13 rfl) ff_X3_53 (sh21 hst) (by decide) rfl rfl ?_
    refine gj_pfI (q := 29) (j := 2) (gj_dk okX3_copyOf 14 rfl) ff_X3_53 (sh47 hst) (by decide) rfl rfl ?_
    refine gj_abs (fun M7 e9 => ?_)
    have w8 : w_CW M0 M7 := by rw [e9]; exact w5.up (by decide) rfl
    clear e9
    refine gj_aload_n (q := 30) (gj_dk okX3_copyOf 15 rfl) rfl rfl ?_
    refine gj_gR (q := 33) (j := 3) (gj_dk okX3_copyOf 16 rfl) ff_X3_9 (sh21 hst) (by decide) rfl (rf21_3 hst) rfl ?_
    refine gj_aload_n (q := 34) (gj_dk okX3_copyOf 17 rfl) rfl rfl ?_
    refine gj_gR (q := 37) (j := 3) (gj_dk okX3_copyOf 18 rfl) ff_X3_9 (sh47 hst) (by decide) rfl (rf47_3 hst) rfl ?_
    refine gj_callS (q := 40) [jR 22, jR 48] rfl (c_X7_copy (sh22 hst) (by decide) (by decide) (sh48 hst) (by decide) (by decide) (by decide)) (gj_dk okX3_copyOf 19 rfl) ml_X3_59 me_X7_copy (gj_nm rfl) rfl (gj_kV fun S2 M2 h10 => ?_)
    obtain ⟨eS, eM⟩ := h10; subst eS
    have w13 : w_CW M0 M2 := by rw [← eM]; exact w_CW.copy w8 (by decide) (by decide)
    clear eM
    revert w13; generalize M2 = M14; intro w13
    refine gj_aload_n (q := 41) (gj_dk okX3_copyOf 20 rfl) rfl rfl ?_
    refine gj_gR (q := 44) (j := 4) (gj_dk okX3_copyOf 21 rfl) ff_X3_15 (sh21 hst) (by decide) rfl (rf21_4 hst) rfl ?_
    refine gj_aload_n (q := 45) (gj_dk okX3_copyOf 22 rfl) rfl rfl ?_
    refine gj_gR (q := 48) (j := 4) (gj_dk okX3_copyOf 23 rfl) ff_X3_15 (sh47 hst) (by decide) rfl (rf47_4 hst) rfl ?_
    refine gj_callS (q := 51) [jR 23, jR 49] rfl (c_X7_copy (sh23 hst) (by decide) (by decide) (sh49 hst) (by decide) (by decide) (by decide)) (gj_dk okX3_copyOf 24 rfl) ml_X3_59 me_X7_copy (gj_nm rfl) rfl (gj_kV fun S2 M2 h15 => ?_)
    obtain ⟨eS, eM⟩ := h15; subst eS
    have w18 : w_CW M0 M2 := by rw [← eM]; exact w_CW.copy w13 (by decide) (by decide)
    clear eM
    revert w18; generalize M2 = M19; intro w18
    refine gj_aload_n (q := 52) (gj_dk okX3_copyOf 25 rfl) rfl rfl ?_
    refine gj_gR (q := 55) (j := 5) (gj_dk okX3_copyOf 26 rfl) ff_X3_18 (sh21 hst) (by decide) rfl (rf21_5 hst) rfl ?_
    refine gj_aload_n (q := 56) (gj_dk okX3_copyOf 27 rfl) rfl rfl ?_
    refine gj_gR (q := 59) (j := 5) (gj_dk okX3_copyOf 28 rfl) ff_X3_18 (sh47 hst) (by decide) rfl (rf47_5 hst) rfl ?_
    refine gj_callS (q := 62) [jR 24, jR 50] rfl (c_X7_copy (sh24 hst) (by decide) (by decide) (sh50 hst) (by decide) (by decide) (by decide)) (gj_dk okX3_copyOf 29 rfl) ml_X3_59 me_X7_copy (gj_nm rfl) rfl (gj_kV fun S2 M2 h20 => ?_)
    obtain ⟨eS, eM⟩ := h20; subst eS
    have w23 : w_CW M0 M2 := by rw [← eM]; exact w_CW.copy w18 (by decide) (by decide)
    clear eM
    revert w23; generalize M2 = M24; intro w23
    refine gj_aload_n (q := 63) (gj_dk okX3_copyOf 30 rfl) rfl rfl ?_
    refine gj_gR (q := 66) (j := 6) (gj_dk okX3_copyOf 31 rfl) ff_X3_21 (sh21 hst) (by decide) rfl (rf21_6 hst) rfl ?_
    refine gj_aload_n (q := 67) (gj_dk okX3_copyOf 32 rfl) rfl rfl ?_
    refine gj_gR (q := 70) (j := 6) (gj_dk okX3_copyOf 33 rfl) ff_X3_21 (sh47 hst) (by decide) rfl (rf47_6 hst) rfl ?_
    refine gj_callS (q := 73) [jR 25, jR 51] rfl (c_X7_copy (sh25 hst) (by decide) (by decide) (sh51 hst) (by decide) (by decide) (by decide)) (gj_dk okX3_copyOf 34 rfl) ml_X3_59 me_X7_copy (gj_nm rfl) rfl (gj_kV fun S2 M2 h25 => ?_)
    obtain ⟨eS, eM⟩ := h25; subst eS
    have w28 : w_CW M0 M2 := by rw [← eM]; exact w_CW.copy w23 (by decide) (by decide)
    clear eM
    revert w28; generalize M2 = M29; intro w28
    refine gj_aload_n (q := 74) (gj_dk okX3_copyOf 35 rfl) rfl rfl ?_
    refine gj_gR (q := 77) (j := 7) (gj_dk okX3_copyOf 36 rfl) ff_X3_24 (sh21 hst) (by decide) rfl (rf21_7 hst) rfl ?_
    refine gj_aload_n (q := 78) (gj_dk okX3_copyOf 37 rfl) rfl rfl ?_
    refine gj_gR (q := 81) (j := 7) (gj_dk okX3_copyOf 38 rfl) ff_X3_24 (sh47 hst) (by decide) rfl (rf47_7 hst) rfl ?_
    refine gj_callS (q := 84) [jR 26, jR 52] rfl (c_X7_copy (sh26 hst) (by decide) (by decide) (sh52 hst) (by decide) (by decide) (by decide)) (gj_dk okX3_copyOf 39 rfl) ml_X3_59 me_X7_copy (gj_nm rfl) rfl (gj_kV fun S2 M2 h30 => ?_)
    obtain ⟨eS, eM⟩ := h30; subst eS
    have w33 : w_CW M0 M2 := by rw [← eM]; exact w_CW.copy w28 (by decide) (by decide)
    clear eM
    revert w33; generalize M2 = M34; intro w33
    refine gj_aload_n (q := 85) (gj_dk okX3_copyOf 40 rfl) rfl rfl ?_
    refine gj_gR (q := 88) (j := 8) (gj_dk okX3_copyOf 41 rfl) ff_X3_27 (sh21 hst) (by decide) rfl (rf21_8 hst) rfl ?_
    refine gj_aload_n (q := 89) (gj_dk okX3_copyOf 42 rfl) rfl rfl ?_
    refine gj_gR (q := 92) (j := 8) (gj_dk okX3_copyOf 43 rfl) ff_X3_27 (sh47 hst) (by decide) rfl (rf47_8 hst) rfl ?_
    refine gj_callS (q := 95) [jR 27, jR 53] rfl (c_X7_copy (sh27 hst) (by decide) (by decide) (sh53 hst) (by decide) (by decide) (by decide)) (gj_dk okX3_copyOf 44 rfl) ml_X3_59 me_X7_copy (gj_nm rfl) rfl (gj_kV fun S2 M2 h35 => ?_)
    obtain ⟨eS, eM⟩ := h35; subst eS
    have w38 : w_CW M0 M2 := by rw [← eM]; exact w_CW.copy w33 (by decide) (by decide)
    clear eM
    revert w38; generalize M2 = M39; intro w38
    refine gj_aload_n (q := 96) (gj_dk okX3_copyOf 45 rfl) rfl rfl ?_
    refine gj_gR (q := 99) (j := 9) (gj_dk okX3_copyOf 46 rfl) ff_X3_30 (sh21 hst) (by decide) rfl (rf21_9 hst) rfl ?_
    refine gj_aload_n (q := 100) (gj_dk okX3_copyOf 47 rfl) rfl rfl ?_
    refine gj_gR (q := 103) (j := 9) (gj_dk okX3_copyOf 48 rfl) ff_X3_30 (sh47 hst) (by decide) rfl (rf47_9 hst) rfl ?_
    refine gj_callS (q := 106) [jR 28, jR 54] rfl (c_X7_copy (sh28 hst) (by decide) (by decide) (sh54 hst) (by decide) (by decide) (by decide)) (gj_dk okX3_copyOf 49 rfl) ml_X3_59 me_X7_copy (gj_nm rfl) rfl (gj_kV fun S2 M2 h40 => ?_)
    obtain ⟨eS, eM⟩ := h40; subst eS
    have w43 : w_CW M0 M2 := by rw [← eM]; exact w_CW.copy w38 (by decide) (by decide)
    clear eM
    revert w43; generalize M2 = M44; intro w43
    refine gj_aload_n (q := 107) (gj_dk okX3_copyOf 50 rfl) rfl rfl ?_
    refine gj_gR (q := 110) (j := 10) (gj_dk okX3_copyOf 51 rfl) ff_X3_36 (sh47 hst) (by decide) rfl (rf47_10 hst) rfl ?_
    refine gj_aload_n (q := 111) (gj_dk okX3_copyOf 52 rfl) rfl rfl ?_
    refine gj_gR (q := 114) (j := 10) (gj_dk okX3_copyOf 53 rfl) ff_X3_36 (sh21 hst) (by decide) rfl (rf21_10 hst) rfl ?_
    refine gj_callV (q := 117) (z := 55) (ci := 1) [jR 29] rfl (w_X1_copyOf_55_29 hst w43  ) (gj_dk okX3_copyOf 54 rfl) ml_X3_63 me_X1_copyOf (sh55 hst) rfl (gj_nm rfl) rfl (gj_kV fun S2 M2 h45 => ?_)
    obtain ⟨eS, w48⟩ := h45; subst eS
    revert w48; generalize M2 = M49; intro w48
    exact gj_vret (gj_dk okX3_copyOf 55 rfl) rfl ⟨rfl, rfl, w48⟩
  · first | exact absurd c1 (by decide) | exact absurd rfl c1

set_option maxHeartbeats 4000000 in
set_option maxRecDepth 20000 in
theorem w_X3_copyOf_57_21 (hst : gj_Stat S) (h : w_CW M0 M)   : gj_C G l 3 0 0 yX3_copyOf cX3_copyOf 2 none [jR 57, jR 21] S M (gj_qV fun S' M' => S = S' ∧ w_CW M0 M') := by
  refine gj_Cof (by decide +kernel) (Nat.le_of_ble_eq_true rfl) ?_
  change gj_W G l 3 0 0 yX3_copyOf cX3_copyOf 2 none (gj_qV fun S' M' => S = S' ∧ w_CW M0 M') 0 0 0 [(0, jR 57), (1, jR 21)] [] S M
  refine gj_aload_n (q := 1) (gj_dk okX3_copyOf 0 rfl) rfl rfl ?_
  refine gj_ifnonnull (q := 4) (tgt := 5) (gj_dk okX3_copyOf 1 rfl) (by decide) rfl (fun c1 => ?_) (fun c1 => ?_)
  · -- 5
    refine gj_aload_n (q := 6) (gj_dk okX3_copyOf 3 rfl) rfl rfl ?_
    refine gj_aload_n (q := 7) (gj_dk okX3_copyOf 4 rfl) rfl rfl ?_
    refine gj_gI (q := 10) (j := 0) (gj_dk okX3_copyOf 5 rfl) ff_X3_46 (sh21 hst) (by decide) rfl rfl ?_
    refine gj_pfI (q := 13) (j := 0) (gj_dk okX3_copyOf 6 rfl) ff_X3_46 (sh57 hst) (by decide) rfl rfl ?_
    refine gj_abs (fun M1 e3 => ?_)
    have w2 : w_CW M0 M1 := by rw [e3]; exact h.up (by decide) rfl
    clear e3
    refine gj_aload_n (q := 14) (gj_dk okX3_copyOf 7 rfl) rfl rfl ?_
    refine gj_aload_n (q := 15) (gj_dk okX3_copyOf 8 rfl) rfl rfl ?_
    refine gj_gI (q := 18) (j := 1) (gj_dk okX3_copyOf 9 rfl) ff_X3_50 (sh21 hst) (by decide) rfl rfl ?_
    refine gj_pfI (q := 21) (j := 1) (gj_dk okX3_copyOf 10 rfl) ff_X3_50 (sh57 hst) (by decide) rfl rfl ?_
    refine gj_abs (fun M4 e6 => ?_)
    have w5 : w_CW M0 M4 := by rw [e6]; exact w2.up (by decide) rfl
    clear e6
    refine gj_aload_n (q := 22) (gj_dk okX3_copyOf 11 rfl) rfl rfl ?_
    refine gj_aload_n (q := 23) (gj_dk okX3_copyOf 12 rfl) rfl rfl ?_
    refine gj_gI (q := 26) (j := 2) (gj_dk okX3_copyOf 13 rfl) ff_X3_53 (sh21 hst) (by decide) rfl rfl ?_
    refine gj_pfI (q := 29) (j := 2) (gj_dk okX3_copyOf 14 rfl) ff_X3_53 (sh57 hst) (by decide) rfl rfl ?_
    refine gj_abs (fun M7 e9 => ?_)
    have w8 : w_CW M0 M7 := by rw [e9]; exact w5.up (by decide) rfl
    clear e9
    refine gj_aload_n (q := 30) (gj_dk okX3_copyOf 15 rfl) rfl rfl ?_
    refine gj_gR (q := 33) (j := 3) (gj_dk okX3_copyOf 16 rfl) ff_X3_9 (sh21 hst) (by decide) rfl (rf21_3 hst) rfl ?_
    refine gj_aload_n (q := 34) (gj_dk okX3_copyOf 17 rfl) rfl rfl ?_
    refine gj_gR (q := 37) (j := 3) (gj_dk okX3_copyOf 18 rfl) ff_X3_9 (sh57 hst) (by decide) rfl (rf57_3 hst) rfl ?_
    refine gj_callS (q := 40) [jR 22, jR 58] rfl (c_X7_copy (sh22 hst) (by decide) (by decide) (sh58 hst) (by decide) (by decide) (by decide)) (gj_dk okX3_copyOf 19 rfl) ml_X3_59 me_X7_copy (gj_nm rfl) rfl (gj_kV fun S2 M2 h10 => ?_)
    obtain ⟨eS, eM⟩ := h10; subst eS
    have w13 : w_CW M0 M2 := by rw [← eM]; exact w_CW.copy w8 (by decide) (by decide)
    clear eM
    revert w13; generalize M2 = M14; intro w13
    refine gj_aload_n (q := 41) (gj_dk okX3_copyOf 20 rfl) rfl rfl ?_
    refine gj_gR (q := 44) (j := 4) (gj_dk okX3_copyOf 21 rfl) ff_X3_15 (sh21 hst) (by decide) rfl (rf21_4 hst) rfl ?_
    refine gj_aload_n (q := 45) (gj_dk okX3_copyOf 22 rfl) rfl rfl ?_
    refine gj_gR (q := 48) (j := 4) (gj_dk okX3_copyOf 23 rfl) ff_X3_15 (sh57 hst) (by decide) rfl (rf57_4 hst) rfl ?_
    refine gj_callS (q := 51) [jR 23, jR 59] rfl (c_X7_copy (sh23 hst) (by decide) (by decide) (sh59 hst) (by decide) (by decide) (by decide)) (gj_dk okX3_copyOf 24 rfl) ml_X3_59 me_X7_copy (gj_nm rfl) rfl (gj_kV fun S2 M2 h15 => ?_)
    obtain ⟨eS, eM⟩ := h15; subst eS
    have w18 : w_CW M0 M2 := by rw [← eM]; exact w_CW.copy w13 (by decide) (by decide)
    clear eM
    revert w18; generalize M2 = M19; intro w18
    refine gj_aload_n (q := 52) (gj_dk okX3_copyOf 25 rfl) rfl rfl ?_
    refine gj_gR (q := 55) (j := 5) (gj_dk okX3_copyOf 26 rfl) ff_X3_18 (sh21 hst) (by decide) rfl (rf21_5 hst) rfl ?_
    refine gj_aload_n (q := 56) (gj_dk okX3_copyOf 27 rfl) rfl rfl ?_
    refine gj_gR (q := 59) (j := 5) (gj_dk okX3_copyOf 28 rfl) ff_X3_18 (sh57 hst) (by decide) rfl (rf57_5 hst) rfl ?_
    refine gj_callS (q := 62) [jR 24, jR 60] rfl (c_X7_copy (sh24 hst) (by decide) (by decide) (sh60 hst) (by decide) (by decide) (by decide)) (gj_dk okX3_copyOf 29 rfl) ml_X3_59 me_X7_copy (gj_nm rfl) rfl (gj_kV fun S2 M2 h20 => ?_)
    obtain ⟨eS, eM⟩ := h20; subst eS
    have w23 : w_CW M0 M2 := by rw [← eM]; exact w_CW.copy w18 (by decide) (by decide)
    clear eM
    revert w23; generalize M2 = M24; intro w23
    refine gj_aload_n (q := 63) (gj_dk okX3_copyOf 30 rfl) rfl rfl ?_
    refine gj_gR (q := 66) (j := 6) (gj_dk okX3_copyOf 31 rfl) ff_X3_21 (sh21 hst) (by decide) rfl (rf21_6 hst) rfl ?_
    refine gj_aload_n (q := 67) (gj_dk okX3_copyOf 32 rfl) rfl rfl ?_
    refine gj_gR (q := 70) (j := 6) (gj_dk okX3_copyOf 33 rfl) ff_X3_21 (sh57 hst) (by decide) rfl (rf57_6 hst) rfl ?_
    refine gj_callS (q := 73) [jR 25, jR 61] rfl (c_X7_copy (sh25 hst) (by decide) (by decide) (sh61 hst) (by decide) (by decide) (by decide)) (gj_dk okX3_copyOf 34 rfl) ml_X3_59 me_X7_copy (gj_nm rfl) rfl (gj_kV fun S2 M2 h25 => ?_)
    obtain ⟨eS, eM⟩ := h25; subst eS
    have w28 : w_CW M0 M2 := by rw [← eM]; exact w_CW.copy w23 (by decide) (by decide)
    clear eM
    revert w28; generalize M2 = M29; intro w28
    refine gj_aload_n (q := 74) (gj_dk okX3_copyOf 35 rfl) rfl rfl ?_
    refine gj_gR (q := 77) (j := 7) (gj_dk okX3_copyOf 36 rfl) ff_X3_24 (sh21 hst) (by decide) rfl (rf21_7 hst) rfl ?_
    refine gj_aload_n (q := 78) (gj_dk okX3_copyOf 37 rfl) rfl rfl ?_
    refine gj_gR (q := 81) (j := 7) (gj_dk okX3_copyOf 38 rfl) ff_X3_24 (sh57 hst) (by decide) rfl (rf57_7 hst) rfl ?_
    refine gj_callS (q := 84) [jR 26, jR 62] rfl (c_X7_copy (sh26 hst) (by decide) (by decide) (sh62 hst) (by decide) (by decide) (by decide)) (gj_dk okX3_copyOf 39 rfl) ml_X3_59 me_X7_copy (gj_nm rfl) rfl (gj_kV fun S2 M2 h30 => ?_)
    obtain ⟨eS, eM⟩ := h30; subst eS
    have w33 : w_CW M0 M2 := by rw [← eM]; exact w_CW.copy w28 (by decide) (by decide)
    clear eM
    revert w33; generalize M2 = M34; intro w33
    refine gj_aload_n (q := 85) (gj_dk okX3_copyOf 40 rfl) rfl rfl ?_
    refine gj_gR (q := 88) (j := 8) (gj_dk okX3_copyOf 41 rfl) ff_X3_27 (sh21 hst) (by decide) rfl (rf21_8 hst) rfl ?_
    refine gj_aload_n (q := 89) (gj_dk okX3_copyOf 42 rfl) rfl rfl ?_
    refine gj_gR (q := 92) (j := 8) (gj_dk okX3_copyOf 43 rfl) ff_X3_27 (sh57 hst) (by decide) rfl (rf57_8 hst) rfl ?_
    refine gj_callS (q := 95) [jR 27, jR 63] rfl (c_X7_copy (sh27 hst) (by decide) (by decide) (sh63 hst) (by decide) (by decide) (by decide)) (gj_dk okX3_copyOf 44 rfl) ml_X3_59 me_X7_copy (gj_nm rfl) rfl (gj_kV fun S2 M2 h35 => ?_)
    obtain ⟨eS, eM⟩ := h35; subst eS
    have w38 : w_CW M0 M2 := by rw [← eM]; exact w_CW.copy w33 (by decide) (by decide)
    clear eM
    revert w38; generalize M2 = M39; intro w38
    refine gj_aload_n (q := 96) (gj_dk okX3_copyOf 45 rfl) rfl rfl ?_
    refine gj_gR (q := 99) (j := 9) (gj_dk okX3_copyOf 46 rfl) ff_X3_30 (sh21 hst) (by decide) rfl (rf21_9 hst) rfl ?_
    refine gj_aload_n (q := 100) (gj_dk okX3_copyOf 47 rfl) rfl rfl ?_
    refine gj_gR (q := 103) (j := 9) (gj_dk okX3_copyOf 48 rfl) ff_X3_30 (sh57 hst) (by decide) rfl (rf57_9 hst) rfl ?_
    refine gj_callS (q := 106) [jR 28, jR 64] rfl (c_X7_copy (sh28 hst) (by decide) (by decide) (sh64 hst) (by decide) (by decide) (by decide)) (gj_dk okX3_copyOf 49 rfl) ml_X3_59 me_X7_copy (gj_nm rfl) rfl (gj_kV fun S2 M2 h40 => ?_)
    obtain ⟨eS, eM⟩ := h40; subst eS
    have w43 : w_CW M0 M2 := by rw [← eM]; exact w_CW.copy w38 (by decide) (by decide)
    clear eM
    revert w43; generalize M2 = M44; intro w43
    refine gj_aload_n (q := 107) (gj_dk okX3_copyOf 50 rfl) rfl rfl ?_
    refine gj_gR (q := 110) (j := 10) (gj_dk okX3_copyOf 51 rfl) ff_X3_36 (sh57 hst) (by decide) rfl (rf57_10 hst) rfl ?_
    refine gj_aload_n (q := 111) (gj_dk okX3_copyOf 52 rfl) rfl rfl ?_
    refine gj_gR (q := 114) (j := 10) (gj_dk okX3_copyOf 53 rfl) ff_X3_36 (sh21 hst) (by decide) rfl (rf21_10 hst) rfl ?_
    refine gj_callV (q := 117) (z := 65) (ci := 1) [jR 29] rfl (w_X1_copyOf_65_29 hst w43  ) (gj_dk okX3_copyOf 54 rfl) ml_X3_63 me_X1_copyOf (sh65 hst) rfl (gj_nm rfl) rfl (gj_kV fun S2 M2 h45 => ?_)
    obtain ⟨eS, w48⟩ := h45; subst eS
    revert w48; generalize M2 = M49; intro w48
    exact gj_vret (gj_dk okX3_copyOf 55 rfl) rfl ⟨rfl, rfl, w48⟩
  · first | exact absurd c1 (by decide) | exact absurd rfl c1

set_option maxHeartbeats 4000000 in
set_option maxRecDepth 20000 in
theorem w_X3_copyOf_67_21 (hst : gj_Stat S) (h : w_CW M0 M)   : gj_C G l 3 0 0 yX3_copyOf cX3_copyOf 2 none [jR 67, jR 21] S M (gj_qV fun S' M' => S = S' ∧ w_CW M0 M') := by
  refine gj_Cof (by decide +kernel) (Nat.le_of_ble_eq_true rfl) ?_
  change gj_W G l 3 0 0 yX3_copyOf cX3_copyOf 2 none (gj_qV fun S' M' => S = S' ∧ w_CW M0 M') 0 0 0 [(0, jR 67), (1, jR 21)] [] S M
  refine gj_aload_n (q := 1) (gj_dk okX3_copyOf 0 rfl) rfl rfl ?_
  refine gj_ifnonnull (q := 4) (tgt := 5) (gj_dk okX3_copyOf 1 rfl) (by decide) rfl (fun c1 => ?_) (fun c1 => ?_)
  · -- 5
    refine gj_aload_n (q := 6) (gj_dk okX3_copyOf 3 rfl) rfl rfl ?_
    refine gj_aload_n (q := 7) (gj_dk okX3_copyOf 4 rfl) rfl rfl ?_
    refine gj_gI (q := 10) (j := 0) (gj_dk okX3_copyOf 5 rfl) ff_X3_46 (sh21 hst) (by decide) rfl rfl ?_
    refine gj_pfI (q := 13) (j := 0) (gj_dk okX3_copyOf 6 rfl) ff_X3_46 (sh67 hst) (by decide) rfl rfl ?_
    refine gj_abs (fun M1 e3 => ?_)
    have w2 : w_CW M0 M1 := by rw [e3]; exact h.up (by decide) rfl
    clear e3
    refine gj_aload_n (q := 14) (gj_dk okX3_copyOf 7 rfl) rfl rfl ?_
    refine gj_aload_n (q := 15) (gj_dk okX3_copyOf 8 rfl) rfl rfl ?_
    refine gj_gI (q := 18) (j := 1) (gj_dk okX3_copyOf 9 rfl) ff_X3_50 (sh21 hst) (by decide) rfl rfl ?_
    refine gj_pfI (q := 21) (j := 1) (gj_dk okX3_copyOf 10 rfl) ff_X3_50 (sh67 hst) (by decide) rfl rfl ?_
    refine gj_abs (fun M4 e6 => ?_)
    have w5 : w_CW M0 M4 := by rw [e6]; exact w2.up (by decide) rfl
    clear e6
    refine gj_aload_n (q := 22) (gj_dk okX3_copyOf 11 rfl) rfl rfl ?_
    refine gj_aload_n (q := 23) (gj_dk okX3_copyOf 12 rfl) rfl rfl ?_
    refine gj_gI (q := 26) (j := 2) (gj_dk okX3_copyOf 13 rfl) ff_X3_53 (sh21 hst) (by decide) rfl rfl ?_
    refine gj_pfI (q := 29) (j := 2) (gj_dk okX3_copyOf 14 rfl) ff_X3_53 (sh67 hst) (by decide) rfl rfl ?_
    refine gj_abs (fun M7 e9 => ?_)
    have w8 : w_CW M0 M7 := by rw [e9]; exact w5.up (by decide) rfl
    clear e9
    refine gj_aload_n (q := 30) (gj_dk okX3_copyOf 15 rfl) rfl rfl ?_
    refine gj_gR (q := 33) (j := 3) (gj_dk okX3_copyOf 16 rfl) ff_X3_9 (sh21 hst) (by decide) rfl (rf21_3 hst) rfl ?_
    refine gj_aload_n (q := 34) (gj_dk okX3_copyOf 17 rfl) rfl rfl ?_
    refine gj_gR (q := 37) (j := 3) (gj_dk okX3_copyOf 18 rfl) ff_X3_9 (sh67 hst) (by decide) rfl (rf67_3 hst) rfl ?_
    refine gj_callS (q := 40) [jR 22, jR 68] rfl (c_X7_copy (sh22 hst) (by decide) (by decide) (sh68 hst) (by decide) (by decide) (by decide)) (gj_dk okX3_copyOf 19 rfl) ml_X3_59 me_X7_copy (gj_nm rfl) rfl (gj_kV fun S2 M2 h10 => ?_)
    obtain ⟨eS, eM⟩ := h10; subst eS
    have w13 : w_CW M0 M2 := by rw [← eM]; exact w_CW.copy w8 (by decide) (by decide)
    clear eM
    revert w13; generalize M2 = M14; intro w13
    refine gj_aload_n (q := 41) (gj_dk okX3_copyOf 20 rfl) rfl rfl ?_
    refine gj_gR (q := 44) (j := 4) (gj_dk okX3_copyOf 21 rfl) ff_X3_15 (sh21 hst) (by decide) rfl (rf21_4 hst) rfl ?_
    refine gj_aload_n (q := 45) (gj_dk okX3_copyOf 22 rfl) rfl rfl ?_
    refine gj_gR (q := 48) (j := 4) (gj_dk okX3_copyOf 23 rfl) ff_X3_15 (sh67 hst) (by decide) rfl (rf67_4 hst) rfl ?_
    refine gj_callS (q := 51) [jR 23, jR 69] rfl (c_X7_copy (sh23 hst) (by decide) (by decide) (sh69 hst) (by decide) (by decide) (by decide)) (gj_dk okX3_copyOf 24 rfl) ml_X3_59 me_X7_copy (gj_nm rfl) rfl (gj_kV fun S2 M2 h15 => ?_)
    obtain ⟨eS, eM⟩ := h15; subst eS
    have w18 : w_CW M0 M2 := by rw [← eM]; exact w_CW.copy w13 (by decide) (by decide)
    clear eM
    revert w18; generalize M2 = M19; intro w18
    refine gj_aload_n (q := 52) (gj_dk okX3_copyOf 25 rfl) rfl rfl ?_
    refine gj_gR (q := 55) (j := 5) (gj_dk okX3_copyOf 26 rfl) ff_X3_18 (sh21 hst) (by decide) rfl (rf21_5 hst) rfl ?_
    refine gj_aload_n (q := 56) (gj_dk okX3_copyOf 27 rfl) rfl rfl ?_
    refine gj_gR (q := 59) (j := 5) (gj_dk okX3_copyOf 28 rfl) ff_X3_18 (sh67 hst) (by decide) rfl (rf67_5 hst) rfl ?_
    refine gj_callS (q := 62) [jR 24, jR 70] rfl (c_X7_copy (sh24 hst) (by decide) (by decide) (sh70 hst) (by decide) (by decide) (by decide)) (gj_dk okX3_copyOf 29 rfl) ml_X3_59 me_X7_copy (gj_nm rfl) rfl (gj_kV fun S2 M2 h20 => ?_)
    obtain ⟨eS, eM⟩ := h20; subst eS
    have w23 : w_CW M0 M2 := by rw [← eM]; exact w_CW.copy w18 (by decide) (by decide)
    clear eM
    revert w23; generalize M2 = M24; intro w23
    refine gj_aload_n (q := 63) (gj_dk okX3_copyOf 30 rfl) rfl rfl ?_
    refine gj_gR (q := 66) (j := 6) (gj_dk okX3_copyOf 31 rfl) ff_X3_21 (sh21 hst) (by decide) rfl (rf21_6 hst) rfl ?_
    refine gj_aload_n (q := 67) (gj_dk okX3_copyOf 32 rfl) rfl rfl ?_
    refine gj_gR (q := 70) (j := 6) (gj_dk okX3_copyOf 33 rfl) ff_X3_21 (sh67 hst) (by decide) rfl (rf67_6 hst) rfl ?_
    refine gj_callS (q := 73) [jR 25, jR 71] rfl (c_X7_copy (sh25 hst) (by decide) (by decide) (sh71 hst) (by decide) (by decide) (by decide)) (gj_dk okX3_copyOf 34 rfl) ml_X3_59 me_X7_copy (gj_nm rfl) rfl (gj_kV fun S2 M2 h25 => ?_)
    obtain ⟨eS, eM⟩ := h25; subst eS
    have w28 : w_CW M0 M2 := by rw [← eM]; exact w_CW.copy w23 (by decide) (by decide)
    clear eM
    revert w28; generalize M2 = M29; intro w28
    refine gj_aload_n (q := 74) (gj_dk okX3_copyOf 35 rfl) rfl rfl ?_
    refine gj_gR (q := 77) (j := 7) (gj_dk okX3_copyOf 36 rfl) ff_X3_24 (sh21 hst) (by decide) rfl (rf21_7 hst) rfl ?_
    refine gj_aload_n (q := 78) (gj_dk okX3_copyOf 37 rfl) rfl rfl ?_
    refine gj_gR (q := 81) (j := 7) (gj_dk okX3_copyOf 38 rfl) ff_X3_24 (sh67 hst) (by decide) rfl (rf67_7 hst) rfl ?_
    refine gj_callS (q := 84) [jR 26, jR 72] rfl (c_X7_copy (sh26 hst) (by decide) (by decide) (sh72 hst) (by decide) (by decide) (by decide)) (gj_dk okX3_copyOf 39 rfl) ml_X3_59 me_X7_copy (gj_nm rfl) rfl (gj_kV fun S2 M2 h30 => ?_)
    obtain ⟨eS, eM⟩ := h30; subst eS
    have w33 : w_CW M0 M2 := by rw [← eM]; exact w_CW.copy w28 (by decide) (by decide)
    clear eM
    revert w33; generalize M2 = M34; intro w33
    refine gj_aload_n (q := 85) (gj_dk okX3_copyOf 40 rfl) rfl rfl ?_
    refine gj_gR (q := 88) (j := 8) (gj_dk okX3_copyOf 41 rfl) ff_X3_27 (sh21 hst) (by decide) rfl (rf21_8 hst) rfl ?_
    refine gj_aload_n (q := 89) (gj_dk okX3_copyOf 42 rfl) rfl rfl ?_
    refine gj_gR (q := 92) (j := 8) (gj_dk okX3_copyOf 43 rfl) ff_X3_27 (sh67 hst) (by decide) rfl (rf67_8 hst) rfl ?_
    refine gj_callS (q := 95) [jR 27, jR 73] rfl (c_X7_copy (sh27 hst) (by decide) (by decide) (sh73 hst) (by decide) (by decide) (by decide)) (gj_dk okX3_copyOf 44 rfl) ml_X3_59 me_X7_copy (gj_nm rfl) rfl (gj_kV fun S2 M2 h35 => ?_)
    obtain ⟨eS, eM⟩ := h35; subst eS
    have w38 : w_CW M0 M2 := by rw [← eM]; exact w_CW.copy w33 (by decide) (by decide)
    clear eM
    revert w38; generalize M2 = M39; intro w38
    refine gj_aload_n (q := 96) (gj_dk okX3_copyOf 45 rfl) rfl rfl ?_
    refine gj_gR (q := 99) (j := 9) (gj_dk okX3_copyOf 46 rfl) ff_X3_30 (sh21 hst) (by decide) rfl (rf21_9 hst) rfl ?_
    refine gj_aload_n (q := 100) (gj_dk okX3_copyOf 47 rfl) rfl rfl ?_
    refine gj_gR (q := 103) (j := 9) (gj_dk okX3_copyOf 48 rfl) ff_X3_30 (sh67 hst) (by decide) rfl (rf67_9 hst) rfl ?_
    refine gj_callS (q := 106) [jR 28, jR 74] rfl (c_X7_copy (sh28 hst) (by decide) (by decide) (sh74 hst) (by decide) (by decide) (by decide)) (gj_dk okX3_copyOf 49 rfl) ml_X3_59 me_X7_copy (gj_nm rfl) rfl (gj_kV fun S2 M2 h40 => ?_)
    obtain ⟨eS, eM⟩ := h40; subst eS
    have w43 : w_CW M0 M2 := by rw [← eM]; exact w_CW.copy w38 (by decide) (by decide)
    clear eM
    revert w43; generalize M2 = M44; intro w43
    refine gj_aload_n (q := 107) (gj_dk okX3_copyOf 50 rfl) rfl rfl ?_
    refine gj_gR (q := 110) (j := 10) (gj_dk okX3_copyOf 51 rfl) ff_X3_36 (sh67 hst) (by decide) rfl (rf67_10 hst) rfl ?_
    refine gj_aload_n (q := 111) (gj_dk okX3_copyOf 52 rfl) rfl rfl ?_
    refine gj_gR (q := 114) (j := 10) (gj_dk okX3_copyOf 53 rfl) ff_X3_36 (sh21 hst) (by decide) rfl (rf21_10 hst) rfl ?_
    refine gj_callV (q := 117) (z := 75) (ci := 1) [jR 29] rfl (w_X1_copyOf_75_29 hst w43  ) (gj_dk okX3_copyOf 54 rfl) ml_X3_63 me_X1_copyOf (sh75 hst) rfl (gj_nm rfl) rfl (gj_kV fun S2 M2 h45 => ?_)
    obtain ⟨eS, w48⟩ := h45; subst eS
    revert w48; generalize M2 = M49; intro w48
    exact gj_vret (gj_dk okX3_copyOf 55 rfl) rfl ⟨rfl, rfl, w48⟩
  · first | exact absurd c1 (by decide) | exact absurd rfl c1

set_option maxHeartbeats 4000000 in
set_option maxRecDepth 20000 in
theorem w_X3_copyOf_21_47 (hst : gj_Stat S) (h : w_CW M0 M)   : gj_C G l 3 0 0 yX3_copyOf cX3_copyOf 2 none [jR 21, jR 47] S M (gj_qV fun S' M' => S = S' ∧ w_CW M0 M') := by
  refine gj_Cof (by decide +kernel) (Nat.le_of_ble_eq_true rfl) ?_
  change gj_W G l 3 0 0 yX3_copyOf cX3_copyOf 2 none (gj_qV fun S' M' => S = S' ∧ w_CW M0 M') 0 0 0 [(0, jR 21), (1, jR 47)] [] S M
  refine gj_aload_n (q := 1) (gj_dk okX3_copyOf 0 rfl) rfl rfl ?_
  refine gj_ifnonnull (q := 4) (tgt := 5) (gj_dk okX3_copyOf 1 rfl) (by decide) rfl (fun c1 => ?_) (fun c1 => ?_)
  · -- 5
    refine gj_aload_n (q := 6) (gj_dk okX3_copyOf 3 rfl) rfl rfl ?_
    refine gj_aload_n (q := 7) (gj_dk okX3_copyOf 4 rfl) rfl rfl ?_
    refine gj_gI (q := 10) (j := 0) (gj_dk okX3_copyOf 5 rfl) ff_X3_46 (sh47 hst) (by decide) rfl rfl ?_
    refine gj_pfI (q := 13) (j := 0) (gj_dk okX3_copyOf 6 rfl) ff_X3_46 (sh21 hst) (by decide) rfl rfl ?_
    refine gj_abs (fun M1 e3 => ?_)
    have w2 : w_CW M0 M1 := by rw [e3]; exact h.up (by decide) rfl
    clear e3
    refine gj_aload_n (q := 14) (gj_dk okX3_copyOf 7 rfl) rfl rfl ?_
    refine gj_aload_n (q := 15) (gj_dk okX3_copyOf 8 rfl) rfl rfl ?_
    refine gj_gI (q := 18) (j := 1) (gj_dk okX3_copyOf 9 rfl) ff_X3_50 (sh47 hst) (by decide) rfl rfl ?_
    refine gj_pfI (q := 21) (j := 1) (gj_dk okX3_copyOf 10 rfl) ff_X3_50 (sh21 hst) (by decide) rfl rfl ?_
    refine gj_abs (fun M4 e6 => ?_)
    have w5 : w_CW M0 M4 := by rw [e6]; exact w2.up (by decide) rfl
    clear e6
    refine gj_aload_n (q := 22) (gj_dk okX3_copyOf 11 rfl) rfl rfl ?_
    refine gj_aload_n (q := 23) (gj_dk okX3_copyOf 12 rfl) rfl rfl ?_
    refine gj_gI (q := 26) (j := 2) (gj_dk okX3_copyOf 13 rfl) ff_X3_53 (sh47 hst) (by decide) rfl rfl ?_
    refine gj_pfI (q := 29) (j := 2) (gj_dk okX3_copyOf 14 rfl) ff_X3_53 (sh21 hst) (by decide) rfl rfl ?_
    refine gj_abs (fun M7 e9 => ?_)
    have w8 : w_CW M0 M7 := by rw [e9]; exact w5.up (by decide) rfl
    clear e9
    refine gj_aload_n (q := 30) (gj_dk okX3_copyOf 15 rfl) rfl rfl ?_
    refine gj_gR (q := 33) (j := 3) (gj_dk okX3_copyOf 16 rfl) ff_X3_9 (sh47 hst) (by decide) rfl (rf47_3 hst) rfl ?_
    refine gj_aload_n (q := 34) (gj_dk okX3_copyOf 17 rfl) rfl rfl ?_
    refine gj_gR (q := 37) (j := 3) (gj_dk okX3_copyOf 18 rfl) ff_X3_9 (sh21 hst) (by decide) rfl (rf21_3 hst) rfl ?_
    refine gj_callS (q := 40) [jR 48, jR 22] rfl (c_X7_copy (sh48 hst) (by decide) (by decide) (sh22 hst) (by decide) (by decide) (by decide)) (gj_dk okX3_copyOf 19 rfl) ml_X3_59 me_X7_copy (gj_nm rfl) rfl (gj_kV fun S2 M2 h10 => ?_)
    obtain ⟨eS, eM⟩ := h10; subst eS
    have w13 : w_CW M0 M2 := by rw [← eM]; exact w_CW.copy w8 (by decide) (by decide)
    clear eM
    revert w13; generalize M2 = M14; intro w13
    refine gj_aload_n (q := 41) (gj_dk okX3_copyOf 20 rfl) rfl rfl ?_
    refine gj_gR (q := 44) (j := 4) (gj_dk okX3_copyOf 21 rfl) ff_X3_15 (sh47 hst) (by decide) rfl (rf47_4 hst) rfl ?_
    refine gj_aload_n (q := 45) (gj_dk okX3_copyOf 22 rfl) rfl rfl ?_
    refine gj_gR (q := 48) (j := 4) (gj_dk okX3_copyOf 23 rfl) ff_X3_15 (sh21 hst) (by decide) rfl (rf21_4 hst) rfl ?_
    refine gj_callS (q := 51) [jR 49, jR 23] rfl (c_X7_copy (sh49 hst) (by decide) (by decide) (sh23 hst) (by decide) (by decide) (by decide)) (gj_dk okX3_copyOf 24 rfl) ml_X3_59 me_X7_copy (gj_nm rfl) rfl (gj_kV fun S2 M2 h15 => ?_)
    obtain ⟨eS, eM⟩ := h15; subst eS
    have w18 : w_CW M0 M2 := by rw [← eM]; exact w_CW.copy w13 (by decide) (by decide)
    clear eM
    revert w18; generalize M2 = M19; intro w18
    refine gj_aload_n (q := 52) (gj_dk okX3_copyOf 25 rfl) rfl rfl ?_
    refine gj_gR (q := 55) (j := 5) (gj_dk okX3_copyOf 26 rfl) ff_X3_18 (sh47 hst) (by decide) rfl (rf47_5 hst) rfl ?_
    refine gj_aload_n (q := 56) (gj_dk okX3_copyOf 27 rfl) rfl rfl ?_
    refine gj_gR (q := 59) (j := 5) (gj_dk okX3_copyOf 28 rfl) ff_X3_18 (sh21 hst) (by decide) rfl (rf21_5 hst) rfl ?_
    refine gj_callS (q := 62) [jR 50, jR 24] rfl (c_X7_copy (sh50 hst) (by decide) (by decide) (sh24 hst) (by decide) (by decide) (by decide)) (gj_dk okX3_copyOf 29 rfl) ml_X3_59 me_X7_copy (gj_nm rfl) rfl (gj_kV fun S2 M2 h20 => ?_)
    obtain ⟨eS, eM⟩ := h20; subst eS
    have w23 : w_CW M0 M2 := by rw [← eM]; exact w_CW.copy w18 (by decide) (by decide)
    clear eM
    revert w23; generalize M2 = M24; intro w23
    refine gj_aload_n (q := 63) (gj_dk okX3_copyOf 30 rfl) rfl rfl ?_
    refine gj_gR (q := 66) (j := 6) (gj_dk okX3_copyOf 31 rfl) ff_X3_21 (sh47 hst) (by decide) rfl (rf47_6 hst) rfl ?_
    refine gj_aload_n (q := 67) (gj_dk okX3_copyOf 32 rfl) rfl rfl ?_
    refine gj_gR (q := 70) (j := 6) (gj_dk okX3_copyOf 33 rfl) ff_X3_21 (sh21 hst) (by decide) rfl (rf21_6 hst) rfl ?_
    refine gj_callS (q := 73) [jR 51, jR 25] rfl (c_X7_copy (sh51 hst) (by decide) (by decide) (sh25 hst) (by decide) (by decide) (by decide)) (gj_dk okX3_copyOf 34 rfl) ml_X3_59 me_X7_copy (gj_nm rfl) rfl (gj_kV fun S2 M2 h25 => ?_)
    obtain ⟨eS, eM⟩ := h25; subst eS
    have w28 : w_CW M0 M2 := by rw [← eM]; exact w_CW.copy w23 (by decide) (by decide)
    clear eM
    revert w28; generalize M2 = M29; intro w28
    refine gj_aload_n (q := 74) (gj_dk okX3_copyOf 35 rfl) rfl rfl ?_
    refine gj_gR (q := 77) (j := 7) (gj_dk okX3_copyOf 36 rfl) ff_X3_24 (sh47 hst) (by decide) rfl (rf47_7 hst) rfl ?_
    refine gj_aload_n (q := 78) (gj_dk okX3_copyOf 37 rfl) rfl rfl ?_
    refine gj_gR (q := 81) (j := 7) (gj_dk okX3_copyOf 38 rfl) ff_X3_24 (sh21 hst) (by decide) rfl (rf21_7 hst) rfl ?_
    refine gj_callS (q := 84) [jR 52, jR 26] rfl (c_X7_copy (sh52 hst) (by decide) (by decide) (sh26 hst) (by decide) (by decide) (by decide)) (gj_dk okX3_copyOf 39 rfl) ml_X3_59 me_X7_copy (gj_nm rfl) rfl (gj_kV fun S2 M2 h30 => ?_)
    obtain ⟨eS, eM⟩ := h30; subst eS
    have w33 : w_CW M0 M2 := by rw [← eM]; exact w_CW.copy w28 (by decide) (by decide)
    clear eM
    revert w33; generalize M2 = M34; intro w33
    refine gj_aload_n (q := 85) (gj_dk okX3_copyOf 40 rfl) rfl rfl ?_
    refine gj_gR (q := 88) (j := 8) (gj_dk okX3_copyOf 41 rfl) ff_X3_27 (sh47 hst) (by decide) rfl (rf47_8 hst) rfl ?_
    refine gj_aload_n (q := 89) (gj_dk okX3_copyOf 42 rfl) rfl rfl ?_
    refine gj_gR (q := 92) (j := 8) (gj_dk okX3_copyOf 43 rfl) ff_X3_27 (sh21 hst) (by decide) rfl (rf21_8 hst) rfl ?_
    refine gj_callS (q := 95) [jR 53, jR 27] rfl (c_X7_copy (sh53 hst) (by decide) (by decide) (sh27 hst) (by decide) (by decide) (by decide)) (gj_dk okX3_copyOf 44 rfl) ml_X3_59 me_X7_copy (gj_nm rfl) rfl (gj_kV fun S2 M2 h35 => ?_)
    obtain ⟨eS, eM⟩ := h35; subst eS
    have w38 : w_CW M0 M2 := by rw [← eM]; exact w_CW.copy w33 (by decide) (by decide)
    clear eM
    revert w38; generalize M2 = M39; intro w38
    refine gj_aload_n (q := 96) (gj_dk okX3_copyOf 45 rfl) rfl rfl ?_
    refine gj_gR (q := 99) (j := 9) (gj_dk okX3_copyOf 46 rfl) ff_X3_30 (sh47 hst) (by decide) rfl (rf47_9 hst) rfl ?_
    refine gj_aload_n (q := 100) (gj_dk okX3_copyOf 47 rfl) rfl rfl ?_
    refine gj_gR (q := 103) (j := 9) (gj_dk okX3_copyOf 48 rfl) ff_X3_30 (sh21 hst) (by decide) rfl (rf21_9 hst) rfl ?_
    refine gj_callS (q := 106) [jR 54, jR 28] rfl (c_X7_copy (sh54 hst) (by decide) (by decide) (sh28 hst) (by decide) (by decide) (by decide)) (gj_dk okX3_copyOf 49 rfl) ml_X3_59 me_X7_copy (gj_nm rfl) rfl (gj_kV fun S2 M2 h40 => ?_)
    obtain ⟨eS, eM⟩ := h40; subst eS
    have w43 : w_CW M0 M2 := by rw [← eM]; exact w_CW.copy w38 (by decide) (by decide)
    clear eM
    revert w43; generalize M2 = M44; intro w43
    refine gj_aload_n (q := 107) (gj_dk okX3_copyOf 50 rfl) rfl rfl ?_
    refine gj_gR (q := 110) (j := 10) (gj_dk okX3_copyOf 51 rfl) ff_X3_36 (sh21 hst) (by decide) rfl (rf21_10 hst) rfl ?_
    refine gj_aload_n (q := 111) (gj_dk okX3_copyOf 52 rfl) rfl rfl ?_
    refine gj_gR (q := 114) (j := 10) (gj_dk okX3_copyOf 53 rfl) ff_X3_36 (sh47 hst) (by decide) rfl (rf47_10 hst) rfl ?_
    refine gj_callV (q := 117) (z := 29) (ci := 1) [jR 55] rfl (w_X1_copyOf_29_55 hst w43  ) (gj_dk okX3_copyOf 54 rfl) ml_X3_63 me_X1_copyOf (sh29 hst) rfl (gj_nm rfl) rfl (gj_kV fun S2 M2 h45 => ?_)
    obtain ⟨eS, w48⟩ := h45; subst eS
    revert w48; generalize M2 = M49; intro w48
    exact gj_vret (gj_dk okX3_copyOf 55 rfl) rfl ⟨rfl, rfl, w48⟩
  · first | exact absurd c1 (by decide) | exact absurd rfl c1

set_option maxHeartbeats 4000000 in
set_option maxRecDepth 20000 in
theorem w_X3_copyOf_21_57 (hst : gj_Stat S) (h : w_CW M0 M)   : gj_C G l 3 0 0 yX3_copyOf cX3_copyOf 2 none [jR 21, jR 57] S M (gj_qV fun S' M' => S = S' ∧ w_CW M0 M') := by
  refine gj_Cof (by decide +kernel) (Nat.le_of_ble_eq_true rfl) ?_
  change gj_W G l 3 0 0 yX3_copyOf cX3_copyOf 2 none (gj_qV fun S' M' => S = S' ∧ w_CW M0 M') 0 0 0 [(0, jR 21), (1, jR 57)] [] S M
  refine gj_aload_n (q := 1) (gj_dk okX3_copyOf 0 rfl) rfl rfl ?_
  refine gj_ifnonnull (q := 4) (tgt := 5) (gj_dk okX3_copyOf 1 rfl) (by decide) rfl (fun c1 => ?_) (fun c1 => ?_)
  · -- 5
    refine gj_aload_n (q := 6) (gj_dk okX3_copyOf 3 rfl) rfl rfl ?_
    refine gj_aload_n (q := 7) (gj_dk okX3_copyOf 4 rfl) rfl rfl ?_
    refine gj_gI (q := 10) (j := 0) (gj_dk okX3_copyOf 5 rfl) ff_X3_46 (sh57 hst) (by decide) rfl rfl ?_
    refine gj_pfI (q := 13) (j := 0) (gj_dk okX3_copyOf 6 rfl) ff_X3_46 (sh21 hst) (by decide) rfl rfl ?_
    refine gj_abs (fun M1 e3 => ?_)
    have w2 : w_CW M0 M1 := by rw [e3]; exact h.up (by decide) rfl
    clear e3
    refine gj_aload_n (q := 14) (gj_dk okX3_copyOf 7 rfl) rfl rfl ?_
    refine gj_aload_n (q := 15) (gj_dk okX3_copyOf 8 rfl) rfl rfl ?_
    refine gj_gI (q := 18) (j := 1) (gj_dk okX3_copyOf 9 rfl) ff_X3_50 (sh57 hst) (by decide) rfl rfl ?_
    refine gj_pfI (q := 21) (j := 1) (gj_dk okX3_copyOf 10 rfl) ff_X3_50 (sh21 hst) (by decide) rfl rfl ?_
    refine gj_abs (fun M4 e6 => ?_)
    have w5 : w_CW M0 M4 := by rw [e6]; exact w2.up (by decide) rfl
    clear e6
    refine gj_aload_n (q := 22) (gj_dk okX3_copyOf 11 rfl) rfl rfl ?_
    refine gj_aload_n (q := 23) (gj_dk okX3_copyOf 12 rfl) rfl rfl ?_
    refine gj_gI (q := 26) (j := 2) (gj_dk okX3_copyOf 13 rfl) ff_X3_53 (sh57 hst) (by decide) rfl rfl ?_
    refine gj_pfI (q := 29) (j := 2) (gj_dk okX3_copyOf 14 rfl) ff_X3_53 (sh21 hst) (by decide) rfl rfl ?_
    refine gj_abs (fun M7 e9 => ?_)
    have w8 : w_CW M0 M7 := by rw [e9]; exact w5.up (by decide) rfl
    clear e9
    refine gj_aload_n (q := 30) (gj_dk okX3_copyOf 15 rfl) rfl rfl ?_
    refine gj_gR (q := 33) (j := 3) (gj_dk okX3_copyOf 16 rfl) ff_X3_9 (sh57 hst) (by decide) rfl (rf57_3 hst) rfl ?_
    refine gj_aload_n (q := 34) (gj_dk okX3_copyOf 17 rfl) rfl rfl ?_
    refine gj_gR (q := 37) (j := 3) (gj_dk okX3_copyOf 18 rfl) ff_X3_9 (sh21 hst) (by decide) rfl (rf21_3 hst) rfl ?_
    refine gj_callS (q := 40) [jR 58, jR 22] rfl (c_X7_copy (sh58 hst) (by decide) (by decide) (sh22 hst) (by decide) (by decide) (by decide)) (gj_dk okX3_copyOf 19 rfl) ml_X3_59 me_X7_copy (gj_nm rfl) rfl (gj_kV fun S2 M2 h10 => ?_)
    obtain ⟨eS, eM⟩ := h10; subst eS
    have w13 : w_CW M0 M2 := by rw [← eM]; exact w_CW.copy w8 (by decide) (by decide)
    clear eM
    revert w13; generalize M2 = M14; intro w13
    refine gj_aload_n (q := 41) (gj_dk okX3_copyOf 20 rfl) rfl rfl ?_
    refine gj_gR (q := 44) (j := 4) (gj_dk okX3_copyOf 21 rfl) ff_X3_15 (sh57 hst) (by decide) rfl (rf57_4 hst) rfl ?_
    refine gj_aload_n (q := 45) (gj_dk okX3_copyOf 22 rfl) rfl rfl ?_
    refine gj_gR (q := 48) (j := 4) (gj_dk okX3_copyOf 23 rfl) ff_X3_15 (sh21 hst) (by decide) rfl (rf21_4 hst) rfl ?_
    refine gj_callS (q := 51) [jR 59, jR 23] rfl (c_X7_copy (sh59 hst) (by decide) (by decide) (sh23 hst) (by decide) (by decide) (by decide)) (gj_dk okX3_copyOf 24 rfl) ml_X3_59 me_X7_copy (gj_nm rfl) rfl (gj_kV fun S2 M2 h15 => ?_)
    obtain ⟨eS, eM⟩ := h15; subst eS
    have w18 : w_CW M0 M2 := by rw [← eM]; exact w_CW.copy w13 (by decide) (by decide)
    clear eM
    revert w18; generalize M2 = M19; intro w18
    refine gj_aload_n (q := 52) (gj_dk okX3_copyOf 25 rfl) rfl rfl ?_
    refine gj_gR (q := 55) (j := 5) (gj_dk okX3_copyOf 26 rfl) ff_X3_18 (sh57 hst) (by decide) rfl (rf57_5 hst) rfl ?_
    refine gj_aload_n (q := 56) (gj_dk okX3_copyOf 27 rfl) rfl rfl ?_
    refine gj_gR (q := 59) (j := 5) (gj_dk okX3_copyOf 28 rfl) ff_X3_18 (sh21 hst) (by decide) rfl (rf21_5 hst) rfl ?_
    refine gj_callS (q := 62) [jR 60, jR 24] rfl (c_X7_copy (sh60 hst) (by decide) (by decide) (sh24 hst) (by decide) (by decide) (by decide)) (gj_dk okX3_copyOf 29 rfl) ml_X3_59 me_X7_copy (gj_nm rfl) rfl (gj_kV fun S2 M2 h20 => ?_)
    obtain ⟨eS, eM⟩ := h20; subst eS
    have w23 : w_CW M0 M2 := by rw [← eM]; exact w_CW.copy w18 (by decide) (by decide)
    clear eM
    revert w23; generalize M2 = M24; intro w23
    refine gj_aload_n (q := 63) (gj_dk okX3_copyOf 30 rfl) rfl rfl ?_
    refine gj_gR (q := 66) (j := 6) (gj_dk okX3_copyOf 31 rfl) ff_X3_21 (sh57 hst) (by decide) rfl (rf57_6 hst) rfl ?_
    refine gj_aload_n (q := 67) (gj_dk okX3_copyOf 32 rfl) rfl rfl ?_
    refine gj_gR (q := 70) (j := 6) (gj_dk okX3_copyOf 33 rfl) ff_X3_21 (sh21 hst) (by decide) rfl (rf21_6 hst) rfl ?_
    refine gj_callS (q := 73) [jR 61, jR 25] rfl (c_X7_copy (sh61 hst) (by decide) (by decide) (sh25 hst) (by decide) (by decide) (by decide)) (gj_dk okX3_copyOf 34 rfl) ml_X3_59 me_X7_copy (gj_nm rfl) rfl (gj_kV fun S2 M2 h25 => ?_)
    obtain ⟨eS, eM⟩ := h25; subst eS
    have w28 : w_CW M0 M2 := by rw [← eM]; exact w_CW.copy w23 (by decide) (by decide)
    clear eM
    revert w28; generalize M2 = M29; intro w28
    refine gj_aload_n (q := 74) (gj_dk okX3_copyOf 35 rfl) rfl rfl ?_
    refine gj_gR (q := 77) (j := 7) (gj_dk okX3_copyOf 36 rfl) ff_X3_24 (sh57 hst) (by decide) rfl (rf57_7 hst) rfl ?_
    refine gj_aload_n (q := 78) (gj_dk okX3_copyOf 37 rfl) rfl rfl ?_
    refine gj_gR (q := 81) (j := 7) (gj_dk okX3_copyOf 38 rfl) ff_X3_24 (sh21 hst) (by decide) rfl (rf21_7 hst) rfl ?_
    refine gj_callS (q := 84) [jR 62, jR 26] rfl (c_X7_copy (sh62 hst) (by decide) (by decide) (sh26 hst) (by decide) (by decide) (by decide)) (gj_dk okX3_copyOf 39 rfl) ml_X3_59 me_X7_copy (gj_nm rfl) rfl (gj_kV fun S2 M2 h30 => ?_)
    obtain ⟨eS, eM⟩ := h30; subst eS
    have w33 : w_CW M0 M2 := by rw [← eM]; exact w_CW.copy w28 (by decide) (by decide)
    clear eM
    revert w33; generalize M2 = M34; intro w33
    refine gj_aload_n (q := 85) (gj_dk okX3_copyOf 40 rfl) rfl rfl ?_
    refine gj_gR (q := 88) (j := 8) (gj_dk okX3_copyOf 41 rfl) ff_X3_27 (sh57 hst) (by decide) rfl (rf57_8 hst) rfl ?_
    refine gj_aload_n (q := 89) (gj_dk okX3_copyOf 42 rfl) rfl rfl ?_
    refine gj_gR (q := 92) (j := 8) (gj_dk okX3_copyOf 43 rfl) ff_X3_27 (sh21 hst) (by decide) rfl (rf21_8 hst) rfl ?_
    refine gj_callS (q := 95) [jR 63, jR 27] rfl (c_X7_copy (sh63 hst) (by decide) (by decide) (sh27 hst) (by decide) (by decide) (by decide)) (gj_dk okX3_copyOf 44 rfl) ml_X3_59 me_X7_copy (gj_nm rfl) rfl (gj_kV fun S2 M2 h35 => ?_)
    obtain ⟨eS, eM⟩ := h35; subst eS
    have w38 : w_CW M0 M2 := by rw [← eM]; exact w_CW.copy w33 (by decide) (by decide)
    clear eM
    revert w38; generalize M2 = M39; intro w38
    refine gj_aload_n (q := 96) (gj_dk okX3_copyOf 45 rfl) rfl rfl ?_
    refine gj_gR (q := 99) (j := 9) (gj_dk okX3_copyOf 46 rfl) ff_X3_30 (sh57 hst) (by decide) rfl (rf57_9 hst) rfl ?_
    refine gj_aload_n (q := 100) (gj_dk okX3_copyOf 47 rfl) rfl rfl ?_
    refine gj_gR (q := 103) (j := 9) (gj_dk okX3_copyOf 48 rfl) ff_X3_30 (sh21 hst) (by decide) rfl (rf21_9 hst) rfl ?_
    refine gj_callS (q := 106) [jR 64, jR 28] rfl (c_X7_copy (sh64 hst) (by decide) (by decide) (sh28 hst) (by decide) (by decide) (by decide)) (gj_dk okX3_copyOf 49 rfl) ml_X3_59 me_X7_copy (gj_nm rfl) rfl (gj_kV fun S2 M2 h40 => ?_)
    obtain ⟨eS, eM⟩ := h40; subst eS
    have w43 : w_CW M0 M2 := by rw [← eM]; exact w_CW.copy w38 (by decide) (by decide)
    clear eM
    revert w43; generalize M2 = M44; intro w43
    refine gj_aload_n (q := 107) (gj_dk okX3_copyOf 50 rfl) rfl rfl ?_
    refine gj_gR (q := 110) (j := 10) (gj_dk okX3_copyOf 51 rfl) ff_X3_36 (sh21 hst) (by decide) rfl (rf21_10 hst) rfl ?_
    refine gj_aload_n (q := 111) (gj_dk okX3_copyOf 52 rfl) rfl rfl ?_
    refine gj_gR (q := 114) (j := 10) (gj_dk okX3_copyOf 53 rfl) ff_X3_36 (sh57 hst) (by decide) rfl (rf57_10 hst) rfl ?_
    refine gj_callV (q := 117) (z := 29) (ci := 1) [jR 65] rfl (w_X1_copyOf_29_65 hst w43  ) (gj_dk okX3_copyOf 54 rfl) ml_X3_63 me_X1_copyOf (sh29 hst) rfl (gj_nm rfl) rfl (gj_kV fun S2 M2 h45 => ?_)
    obtain ⟨eS, w48⟩ := h45; subst eS
    revert w48; generalize M2 = M49; intro w48
    exact gj_vret (gj_dk okX3_copyOf 55 rfl) rfl ⟨rfl, rfl, w48⟩
  · first | exact absurd c1 (by decide) | exact absurd rfl c1

set_option maxHeartbeats 4000000 in
set_option maxRecDepth 20000 in
theorem w_X3_copyOf_21_67 (hst : gj_Stat S) (h : w_CW M0 M)   : gj_C G l 3 0 0 yX3_copyOf cX3_copyOf 2 none [jR 21, jR 67] S M (gj_qV fun S' M' => S = S' ∧ w_CW M0 M') := by
  refine gj_Cof (by decide +kernel) (Nat.le_of_ble_eq_true rfl) ?_
  change gj_W G l 3 0 0 yX3_copyOf cX3_copyOf 2 none (gj_qV fun S' M' => S = S' ∧ w_CW M0 M') 0 0 0 [(0, jR 21), (1, jR 67)] [] S M
  refine gj_aload_n (q := 1) (gj_dk okX3_copyOf 0 rfl) rfl rfl ?_
  refine gj_ifnonnull (q := 4) (tgt := 5) (gj_dk okX3_copyOf 1 rfl) (by decide) rfl (fun c1 => ?_) (fun c1 => ?_)
  · -- 5
    refine gj_aload_n (q := 6) (gj_dk okX3_copyOf 3 rfl) rfl rfl ?_
    refine gj_aload_n (q := 7) (gj_dk okX3_copyOf 4 rfl) rfl rfl ?_
    refine gj_gI (q := 10) (j := 0) (gj_dk okX3_copyOf 5 rfl) ff_X3_46 (sh67 hst) (by decide) rfl rfl ?_
    refine gj_pfI (q := 13) (j := 0) (gj_dk okX3_copyOf 6 rfl) ff_X3_46 (sh21 hst) (by decide) rfl rfl ?_
    refine gj_abs (fun M1 e3 => ?_)
    have w2 : w_CW M0 M1 := by rw [e3]; exact h.up (by decide) rfl
    clear e3
    refine gj_aload_n (q := 14) (gj_dk okX3_copyOf 7 rfl) rfl rfl ?_
    refine gj_aload_n (q := 15) (gj_dk okX3_copyOf 8 rfl) rfl rfl ?_
    refine gj_gI (q := 18) (j := 1) (gj_dk okX3_copyOf 9 rfl) ff_X3_50 (sh67 hst) (by decide) rfl rfl ?_
    refine gj_pfI (q := 21) (j := 1) (gj_dk okX3_copyOf 10 rfl) ff_X3_50 (sh21 hst) (by decide) rfl rfl ?_
    refine gj_abs (fun M4 e6 => ?_)
    have w5 : w_CW M0 M4 := by rw [e6]; exact w2.up (by decide) rfl
    clear e6
    refine gj_aload_n (q := 22) (gj_dk okX3_copyOf 11 rfl) rfl rfl ?_
    refine gj_aload_n (q := 23) (gj_dk okX3_copyOf 12 rfl) rfl rfl ?_
    refine gj_gI (q := 26) (j := 2) (gj_dk okX3_copyOf 13 rfl) ff_X3_53 (sh67 hst) (by decide) rfl rfl ?_
    refine gj_pfI (q := 29) (j := 2) (gj_dk okX3_copyOf 14 rfl) ff_X3_53 (sh21 hst) (by decide) rfl rfl ?_
    refine gj_abs (fun M7 e9 => ?_)
    have w8 : w_CW M0 M7 := by rw [e9]; exact w5.up (by decide) rfl
    clear e9
    refine gj_aload_n (q := 30) (gj_dk okX3_copyOf 15 rfl) rfl rfl ?_
    refine gj_gR (q := 33) (j := 3) (gj_dk okX3_copyOf 16 rfl) ff_X3_9 (sh67 hst) (by decide) rfl (rf67_3 hst) rfl ?_
    refine gj_aload_n (q := 34) (gj_dk okX3_copyOf 17 rfl) rfl rfl ?_
    refine gj_gR (q := 37) (j := 3) (gj_dk okX3_copyOf 18 rfl) ff_X3_9 (sh21 hst) (by decide) rfl (rf21_3 hst) rfl ?_
    refine gj_callS (q := 40) [jR 68, jR 22] rfl (c_X7_copy (sh68 hst) (by decide) (by decide) (sh22 hst) (by decide) (by decide) (by decide)) (gj_dk okX3_copyOf 19 rfl) ml_X3_59 me_X7_copy (gj_nm rfl) rfl (gj_kV fun S2 M2 h10 => ?_)
    obtain ⟨eS, eM⟩ := h10; subst eS
    have w13 : w_CW M0 M2 := by rw [← eM]; exact w_CW.copy w8 (by decide) (by decide)
    clear eM
    revert w13; generalize M2 = M14; intro w13
    refine gj_aload_n (q := 41) (gj_dk okX3_copyOf 20 rfl) rfl rfl ?_
    refine gj_gR (q := 44) (j := 4) (gj_dk okX3_copyOf 21 rfl) ff_X3_15 (sh67 hst) (by decide) rfl (rf67_4 hst) rfl ?_
    refine gj_aload_n (q := 45) (gj_dk okX3_copyOf 22 rfl) rfl rfl ?_
    refine gj_gR (q := 48) (j := 4) (gj_dk okX3_copyOf 23 rfl) ff_X3_15 (sh21 hst) (by decide) rfl (rf21_4 hst) rfl ?_
    refine gj_callS (q := 51) [jR 69, jR 23] rfl (c_X7_copy (sh69 hst) (by decide) (by decide) (sh23 hst) (by decide) (by decide) (by decide)) (gj_dk okX3_copyOf 24 rfl) ml_X3_59 me_X7_copy (gj_nm rfl) rfl (gj_kV fun S2 M2 h15 => ?_)
    obtain ⟨eS, eM⟩ := h15; subst eS
    have w18 : w_CW M0 M2 := by rw [← eM]; exact w_CW.copy w13 (by decide) (by decide)
    clear eM
    revert w18; generalize M2 = M19; intro w18
    refine gj_aload_n (q := 52) (gj_dk okX3_copyOf 25 rfl) rfl rfl ?_
    refine gj_gR (q := 55) (j := 5) (gj_dk okX3_copyOf 26 rfl) ff_X3_18 (sh67 hst) (by decide) rfl (rf67_5 hst) rfl ?_
    refine gj_aload_n (q := 56) (gj_dk okX3_copyOf 27 rfl) rfl rfl ?_
    refine gj_gR (q := 59) (j := 5) (gj_dk okX3_copyOf 28 rfl) ff_X3_18 (sh21 hst) (by decide) rfl (rf21_5 hst) rfl ?_
    refine gj_callS (q := 62) [jR 70, jR 24] rfl (c_X7_copy (sh70 hst) (by decide) (by decide) (sh24 hst) (by decide) (by decide) (by decide)) (gj_dk okX3_copyOf 29 rfl) ml_X3_59 me_X7_copy (gj_nm rfl) rfl (gj_kV fun S2 M2 h20 => ?_)
    obtain ⟨eS, eM⟩ := h20; subst eS
    have w23 : w_CW M0 M2 := by rw [← eM]; exact w_CW.copy w18 (by decide) (by decide)
    clear eM
    revert w23; generalize M2 = M24; intro w23
    refine gj_aload_n (q := 63) (gj_dk okX3_copyOf 30 rfl) rfl rfl ?_
    refine gj_gR (q := 66) (j := 6) (gj_dk okX3_copyOf 31 rfl) ff_X3_21 (sh67 hst) (by decide) rfl (rf67_6 hst) rfl ?_
    refine gj_aload_n (q := 67) (gj_dk okX3_copyOf 32 rfl) rfl rfl ?_
    refine gj_gR (q := 70) (j := 6) (gj_dk okX3_copyOf 33 rfl) ff_X3_21 (sh21 hst) (by decide) rfl (rf21_6 hst) rfl ?_
    refine gj_callS (q := 73) [jR 71, jR 25] rfl (c_X7_copy (sh71 hst) (by decide) (by decide) (sh25 hst) (by decide) (by decide) (by decide)) (gj_dk okX3_copyOf 34 rfl) ml_X3_59 me_X7_copy (gj_nm rfl) rfl (gj_kV fun S2 M2 h25 => ?_)
    obtain ⟨eS, eM⟩ := h25; subst eS
    have w28 : w_CW M0 M2 := by rw [← eM]; exact w_CW.copy w23 (by decide) (by decide)
    clear eM
    revert w28; generalize M2 = M29; intro w28
    refine gj_aload_n (q := 74) (gj_dk okX3_copyOf 35 rfl) rfl rfl ?_
    refine gj_gR (q := 77) (j := 7) (gj_dk okX3_copyOf 36 rfl) ff_X3_24 (sh67 hst) (by decide) rfl (rf67_7 hst) rfl ?_
    refine gj_aload_n (q := 78) (gj_dk okX3_copyOf 37 rfl) rfl rfl ?_
    refine gj_gR (q := 81) (j := 7) (gj_dk okX3_copyOf 38 rfl) ff_X3_24 (sh21 hst) (by decide) rfl (rf21_7 hst) rfl ?_
    refine gj_callS (q := 84) [jR 72, jR 26] rfl (c_X7_copy (sh72 hst) (by decide) (by decide) (sh26 hst) (by decide) (by decide) (by decide)) (gj_dk okX3_copyOf 39 rfl) ml_X3_59 me_X7_copy (gj_nm rfl) rfl (gj_kV fun S2 M2 h30 => ?_)
    obtain ⟨eS, eM⟩ := h30; subst eS
    have w33 : w_CW M0 M2 := by rw [← eM]; exact w_CW.copy w28 (by decide) (by decide)
    clear eM
    revert w33; generalize M2 = M34; intro w33
    refine gj_aload_n (q := 85) (gj_dk okX3_copyOf 40 rfl) rfl rfl ?_
    refine gj_gR (q := 88) (j := 8) (gj_dk okX3_copyOf 41 rfl) ff_X3_27 (sh67 hst) (by decide) rfl (rf67_8 hst) rfl ?_
    refine gj_aload_n (q := 89) (gj_dk okX3_copyOf 42 rfl) rfl rfl ?_
    refine gj_gR (q := 92) (j := 8) (gj_dk okX3_copyOf 43 rfl) ff_X3_27 (sh21 hst) (by decide) rfl (rf21_8 hst) rfl ?_
    refine gj_callS (q := 95) [jR 73, jR 27] rfl (c_X7_copy (sh73 hst) (by decide) (by decide) (sh27 hst) (by decide) (by decide) (by decide)) (gj_dk okX3_copyOf 44 rfl) ml_X3_59 me_X7_copy (gj_nm rfl) rfl (gj_kV fun S2 M2 h35 => ?_)
    obtain ⟨eS, eM⟩ := h35; subst eS
    have w38 : w_CW M0 M2 := by rw [← eM]; exact w_CW.copy w33 (by decide) (by decide)
    clear eM
    revert w38; generalize M2 = M39; intro w38
    refine gj_aload_n (q := 96) (gj_dk okX3_copyOf 45 rfl) rfl rfl ?_
    refine gj_gR (q := 99) (j := 9) (gj_dk okX3_copyOf 46 rfl) ff_X3_30 (sh67 hst) (by decide) rfl (rf67_9 hst) rfl ?_
    refine gj_aload_n (q := 100) (gj_dk okX3_copyOf 47 rfl) rfl rfl ?_
    refine gj_gR (q := 103) (j := 9) (gj_dk okX3_copyOf 48 rfl) ff_X3_30 (sh21 hst) (by decide) rfl (rf21_9 hst) rfl ?_
    refine gj_callS (q := 106) [jR 74, jR 28] rfl (c_X7_copy (sh74 hst) (by decide) (by decide) (sh28 hst) (by decide) (by decide) (by decide)) (gj_dk okX3_copyOf 49 rfl) ml_X3_59 me_X7_copy (gj_nm rfl) rfl (gj_kV fun S2 M2 h40 => ?_)
    obtain ⟨eS, eM⟩ := h40; subst eS
    have w43 : w_CW M0 M2 := by rw [← eM]; exact w_CW.copy w38 (by decide) (by decide)
    clear eM
    revert w43; generalize M2 = M44; intro w43
    refine gj_aload_n (q := 107) (gj_dk okX3_copyOf 50 rfl) rfl rfl ?_
    refine gj_gR (q := 110) (j := 10) (gj_dk okX3_copyOf 51 rfl) ff_X3_36 (sh21 hst) (by decide) rfl (rf21_10 hst) rfl ?_
    refine gj_aload_n (q := 111) (gj_dk okX3_copyOf 52 rfl) rfl rfl ?_
    refine gj_gR (q := 114) (j := 10) (gj_dk okX3_copyOf 53 rfl) ff_X3_36 (sh67 hst) (by decide) rfl (rf67_10 hst) rfl ?_
    refine gj_callV (q := 117) (z := 29) (ci := 1) [jR 75] rfl (w_X1_copyOf_29_75 hst w43  ) (gj_dk okX3_copyOf 54 rfl) ml_X3_63 me_X1_copyOf (sh29 hst) rfl (gj_nm rfl) rfl (gj_kV fun S2 M2 h45 => ?_)
    obtain ⟨eS, w48⟩ := h45; subst eS
    revert w48; generalize M2 = M49; intro w48
    exact gj_vret (gj_dk okX3_copyOf 55 rfl) rfl ⟨rfl, rfl, w48⟩
  · first | exact absurd c1 (by decide) | exact absurd rfl c1

set_option maxHeartbeats 4000000 in
set_option maxRecDepth 20000 in
theorem w_X11_image (hst : gj_Stat S) (h : w_CW M0 M) (a1 : Int)  : gj_C G l 4 0 0 yX11_image cX11_image 3 (some .boolean) [jR 0, jI a1] S M (gj_qI fun x S' M' => (x = 0 ∨ x = 1) ∧ S = S' ∧ w_CW M0 M') := by
  refine gj_Cof (by decide +kernel) (Nat.le_of_ble_eq_true rfl) ?_
  change gj_W G l 4 0 0 yX11_image cX11_image 3 (some .boolean) (gj_qI fun x S' M' => (x = 0 ∨ x = 1) ∧ S = S' ∧ w_CW M0 M') 0 0 0 [(0, jR 0), (1, jI a1)] [] S M
  refine gj_aload_n (q := 1) (gj_dk okX11_image 0 rfl) rfl rfl ?_
  refine gj_iload_n (q := 2) (gj_dk okX11_image 1 rfl) rfl rfl ?_
  refine gj_callV (q := 5) (z := 0) (ci := 9) [jI a1] rfl (w_X11_pictureAt hst  _) (gj_dk okX11_image 2 rfl) ml_X11_314 me_X11_pictureAt (sh0 hst) rfl (gj_nm rfl) rfl (gj_kR fun x2 S2 M2 h1 => ?_)
  obtain ⟨hx, eS, eM⟩ := h1; subst eS; subst eM
  rcases hx with hx | hx | hx | hx
  · subst hx
    refine gj_astore_n (q := 6) (gj_dk okX11_image 3 rfl) (by decide) rfl ?_
    refine gj_aload_n (q := 7) (gj_dk okX11_image 4 rfl) rfl rfl ?_
    refine gj_ifnonnull (q := 10) (tgt := 16) (gj_dk okX11_image 5 rfl) (by decide) rfl (fun c7 => ?_) (fun c7 => ?_)
    · first | exact absurd c7 (by decide) | exact absurd rfl c7
    · -- 10
      refine gj_aload_n (q := 11) (gj_dk okX11_image 6 rfl) rfl rfl ?_
      refine gj_iconst (q := 12) (gj_dk okX11_image 7 rfl) (by decide) rfl ?_
      refine gj_callV (q := 15) (z := 0) (ci := 9) [jI 0] rfl (w_X11_refuse hst h  _) (gj_dk okX11_image 8 rfl) ml_X11_92 me_X11_refuse (sh0 hst) rfl (gj_nm rfl) rfl (gj_kI fun x5 S2 M2 h4 => ?_)
      obtain ⟨bx5, eS, w7⟩ := h4; subst eS
      revert w7; generalize M2 = M8; intro w7
      exact gj_zret (gj_dk okX11_image 9 rfl) rfl (by first | decide | assumption | omega) ⟨_, rfl, (by first | decide | assumption | omega), rfl, w7⟩
  · subst hx
    refine gj_astore_n (q := 6) (gj_dk okX11_image 3 rfl) (by decide) rfl ?_
    refine gj_aload_n (q := 7) (gj_dk okX11_image 4 rfl) rfl rfl ?_
    refine gj_ifnonnull (q := 10) (tgt := 16) (gj_dk okX11_image 5 rfl) (by decide) rfl (fun c7 => ?_) (fun c7 => ?_)
    · -- 16
      refine gj_aload_n (q := 17) (gj_dk okX11_image 10 rfl) rfl rfl ?_
      refine gj_gR (q := 20) (j := 3) (gj_dk okX11_image 11 rfl) ff_X11_32 (sh0 hst) (by decide) rfl (rf0_3 hst) rfl ?_
      refine gj_callV (q := 23) (z := 14) (ci := 5) [] rfl (w_X5_stands_14 hst  ) (gj_dk okX11_image 12 rfl) ml_X11_268 me_X5_stands (sh14 hst) rfl (gj_nm rfl) rfl (gj_kI fun x10 S2 M2 h9 => ?_)
      obtain ⟨bx10, eS, eM⟩ := h9; subst eS; subst eM
      refine gj_if_ne (q := 26) (tgt := 32) (gj_dk okX11_image 13 rfl) (by decide) rfl (fun c23 => ?_) (fun c23 => ?_)
      · -- 32
        refine gj_aload_n (q := 33) (gj_dk okX11_image 18 rfl) rfl rfl ?_
        refine gj_aload_n (q := 34) (gj_dk okX11_image 19 rfl) rfl rfl ?_
        refine gj_gR (q := 37) (j := 4) (gj_dk okX11_image 20 rfl) ff_X11_38 (sh0 hst) (by decide) rfl (rf0_4 hst) rfl ?_
        refine gj_callV (q := 40) (z := 47) (ci := 3) [jR 21] rfl (w_X3_copyOf_47_21 hst h  ) (gj_dk okX11_image 21 rfl) ml_X11_318 me_X3_copyOf (sh47 hst) rfl (gj_nm rfl) rfl (gj_kV fun S2 M2 h13 => ?_)
        obtain ⟨eS, w16⟩ := h13; subst eS
        revert w16; generalize M2 = M17; intro w16
        refine gj_aload_n (q := 41) (gj_dk okX11_image 22 rfl) rfl rfl ?_
        refine gj_gR (q := 44) (j := 10) (gj_dk okX11_image 23 rfl) ff_X11_80 (sh0 hst) (by decide) rfl (rf0_10 hst) rfl ?_
        refine gj_iload_n (q := 45) (gj_dk okX11_image 24 rfl) rfl rfl ?_
        refine gj_iconst (q := 46) (gj_dk okX11_image 25 rfl) (by decide) rfl ?_
        refine gj_callS (q := 49) [jR 77, jI a1, jI 1] rfl (c_X7_mark (sh77 hst) (by decide) (by decide) _ _ (by first | decide | assumption | omega)) (gj_dk okX11_image 26 rfl) ml_X11_322 me_X7_mark (gj_nm rfl) rfl (gj_kV fun S2 M2 h18 => ?_)
        obtain ⟨eS, eM⟩ := h18; subst eS
        have w21 : w_CW M0 M2 := by rw [← eM]; exact w_CW.put w16 (by decide) (by decide)
        clear eM
        revert w21; generalize M2 = M22; intro w21
        refine gj_iconst (q := 50) (gj_dk okX11_image 27 rfl) (by decide) rfl ?_
        exact gj_zret (gj_dk okX11_image 28 rfl) rfl (by first | decide | assumption | omega) ⟨_, rfl, (by first | decide | assumption | omega), rfl, w21⟩
      · -- 26
        refine gj_aload_n (q := 27) (gj_dk okX11_image 14 rfl) rfl rfl ?_
        refine gj_iconst (q := 28) (gj_dk okX11_image 15 rfl) (by decide) rfl ?_
        refine gj_callV (q := 31) (z := 0) (ci := 9) [jI 2] rfl (w_X11_refuse hst h  _) (gj_dk okX11_image 16 rfl) ml_X11_92 me_X11_refuse (sh0 hst) rfl (gj_nm rfl) rfl (gj_kI fun x24 S2 M2 h23 => ?_)
        obtain ⟨bx24, eS, w26⟩ := h23; subst eS
        revert w26; generalize M2 = M27; intro w26
        exact gj_zret (gj_dk okX11_image 17 rfl) rfl (by first | decide | assumption | omega) ⟨_, rfl, (by first | decide | assumption | omega), rfl, w26⟩
    · first | exact absurd c7 (by decide) | exact absurd rfl c7
  · subst hx
    refine gj_astore_n (q := 6) (gj_dk okX11_image 3 rfl) (by decide) rfl ?_
    refine gj_aload_n (q := 7) (gj_dk okX11_image 4 rfl) rfl rfl ?_
    refine gj_ifnonnull (q := 10) (tgt := 16) (gj_dk okX11_image 5 rfl) (by decide) rfl (fun c7 => ?_) (fun c7 => ?_)
    · -- 16
      refine gj_aload_n (q := 17) (gj_dk okX11_image 10 rfl) rfl rfl ?_
      refine gj_gR (q := 20) (j := 3) (gj_dk okX11_image 11 rfl) ff_X11_32 (sh0 hst) (by decide) rfl (rf0_3 hst) rfl ?_
      refine gj_callV (q := 23) (z := 14) (ci := 5) [] rfl (w_X5_stands_14 hst  ) (gj_dk okX11_image 12 rfl) ml_X11_268 me_X5_stands (sh14 hst) rfl (gj_nm rfl) rfl (gj_kI fun x29 S2 M2 h28 => ?_)
      obtain ⟨bx29, eS, eM⟩ := h28; subst eS; subst eM
      refine gj_if_ne (q := 26) (tgt := 32) (gj_dk okX11_image 13 rfl) (by decide) rfl (fun c23 => ?_) (fun c23 => ?_)
      · -- 32
        refine gj_aload_n (q := 33) (gj_dk okX11_image 18 rfl) rfl rfl ?_
        refine gj_aload_n (q := 34) (gj_dk okX11_image 19 rfl) rfl rfl ?_
        refine gj_gR (q := 37) (j := 4) (gj_dk okX11_image 20 rfl) ff_X11_38 (sh0 hst) (by decide) rfl (rf0_4 hst) rfl ?_
        refine gj_callV (q := 40) (z := 57) (ci := 3) [jR 21] rfl (w_X3_copyOf_57_21 hst h  ) (gj_dk okX11_image 21 rfl) ml_X11_318 me_X3_copyOf (sh57 hst) rfl (gj_nm rfl) rfl (gj_kV fun S2 M2 h32 => ?_)
        obtain ⟨eS, w35⟩ := h32; subst eS
        revert w35; generalize M2 = M36; intro w35
        refine gj_aload_n (q := 41) (gj_dk okX11_image 22 rfl) rfl rfl ?_
        refine gj_gR (q := 44) (j := 10) (gj_dk okX11_image 23 rfl) ff_X11_80 (sh0 hst) (by decide) rfl (rf0_10 hst) rfl ?_
        refine gj_iload_n (q := 45) (gj_dk okX11_image 24 rfl) rfl rfl ?_
        refine gj_iconst (q := 46) (gj_dk okX11_image 25 rfl) (by decide) rfl ?_
        refine gj_callS (q := 49) [jR 77, jI a1, jI 1] rfl (c_X7_mark (sh77 hst) (by decide) (by decide) _ _ (by first | decide | assumption | omega)) (gj_dk okX11_image 26 rfl) ml_X11_322 me_X7_mark (gj_nm rfl) rfl (gj_kV fun S2 M2 h37 => ?_)
        obtain ⟨eS, eM⟩ := h37; subst eS
        have w40 : w_CW M0 M2 := by rw [← eM]; exact w_CW.put w35 (by decide) (by decide)
        clear eM
        revert w40; generalize M2 = M41; intro w40
        refine gj_iconst (q := 50) (gj_dk okX11_image 27 rfl) (by decide) rfl ?_
        exact gj_zret (gj_dk okX11_image 28 rfl) rfl (by first | decide | assumption | omega) ⟨_, rfl, (by first | decide | assumption | omega), rfl, w40⟩
      · -- 26
        refine gj_aload_n (q := 27) (gj_dk okX11_image 14 rfl) rfl rfl ?_
        refine gj_iconst (q := 28) (gj_dk okX11_image 15 rfl) (by decide) rfl ?_
        refine gj_callV (q := 31) (z := 0) (ci := 9) [jI 2] rfl (w_X11_refuse hst h  _) (gj_dk okX11_image 16 rfl) ml_X11_92 me_X11_refuse (sh0 hst) rfl (gj_nm rfl) rfl (gj_kI fun x43 S2 M2 h42 => ?_)
        obtain ⟨bx43, eS, w45⟩ := h42; subst eS
        revert w45; generalize M2 = M46; intro w45
        exact gj_zret (gj_dk okX11_image 17 rfl) rfl (by first | decide | assumption | omega) ⟨_, rfl, (by first | decide | assumption | omega), rfl, w45⟩
    · first | exact absurd c7 (by decide) | exact absurd rfl c7
  · subst hx
    refine gj_astore_n (q := 6) (gj_dk okX11_image 3 rfl) (by decide) rfl ?_
    refine gj_aload_n (q := 7) (gj_dk okX11_image 4 rfl) rfl rfl ?_
    refine gj_ifnonnull (q := 10) (tgt := 16) (gj_dk okX11_image 5 rfl) (by decide) rfl (fun c7 => ?_) (fun c7 => ?_)
    · -- 16
      refine gj_aload_n (q := 17) (gj_dk okX11_image 10 rfl) rfl rfl ?_
      refine gj_gR (q := 20) (j := 3) (gj_dk okX11_image 11 rfl) ff_X11_32 (sh0 hst) (by decide) rfl (rf0_3 hst) rfl ?_
      refine gj_callV (q := 23) (z := 14) (ci := 5) [] rfl (w_X5_stands_14 hst  ) (gj_dk okX11_image 12 rfl) ml_X11_268 me_X5_stands (sh14 hst) rfl (gj_nm rfl) rfl (gj_kI fun x48 S2 M2 h47 => ?_)
      obtain ⟨bx48, eS, eM⟩ := h47; subst eS; subst eM
      refine gj_if_ne (q := 26) (tgt := 32) (gj_dk okX11_image 13 rfl) (by decide) rfl (fun c23 => ?_) (fun c23 => ?_)
      · -- 32
        refine gj_aload_n (q := 33) (gj_dk okX11_image 18 rfl) rfl rfl ?_
        refine gj_aload_n (q := 34) (gj_dk okX11_image 19 rfl) rfl rfl ?_
        refine gj_gR (q := 37) (j := 4) (gj_dk okX11_image 20 rfl) ff_X11_38 (sh0 hst) (by decide) rfl (rf0_4 hst) rfl ?_
        refine gj_callV (q := 40) (z := 67) (ci := 3) [jR 21] rfl (w_X3_copyOf_67_21 hst h  ) (gj_dk okX11_image 21 rfl) ml_X11_318 me_X3_copyOf (sh67 hst) rfl (gj_nm rfl) rfl (gj_kV fun S2 M2 h51 => ?_)
        obtain ⟨eS, w54⟩ := h51; subst eS
        revert w54; generalize M2 = M55; intro w54
        refine gj_aload_n (q := 41) (gj_dk okX11_image 22 rfl) rfl rfl ?_
        refine gj_gR (q := 44) (j := 10) (gj_dk okX11_image 23 rfl) ff_X11_80 (sh0 hst) (by decide) rfl (rf0_10 hst) rfl ?_
        refine gj_iload_n (q := 45) (gj_dk okX11_image 24 rfl) rfl rfl ?_
        refine gj_iconst (q := 46) (gj_dk okX11_image 25 rfl) (by decide) rfl ?_
        refine gj_callS (q := 49) [jR 77, jI a1, jI 1] rfl (c_X7_mark (sh77 hst) (by decide) (by decide) _ _ (by first | decide | assumption | omega)) (gj_dk okX11_image 26 rfl) ml_X11_322 me_X7_mark (gj_nm rfl) rfl (gj_kV fun S2 M2 h56 => ?_)
        obtain ⟨eS, eM⟩ := h56; subst eS
        have w59 : w_CW M0 M2 := by rw [← eM]; exact w_CW.put w54 (by decide) (by decide)
        clear eM
        revert w59; generalize M2 = M60; intro w59
        refine gj_iconst (q := 50) (gj_dk okX11_image 27 rfl) (by decide) rfl ?_
        exact gj_zret (gj_dk okX11_image 28 rfl) rfl (by first | decide | assumption | omega) ⟨_, rfl, (by first | decide | assumption | omega), rfl, w59⟩
      · -- 26
        refine gj_aload_n (q := 27) (gj_dk okX11_image 14 rfl) rfl rfl ?_
        refine gj_iconst (q := 28) (gj_dk okX11_image 15 rfl) (by decide) rfl ?_
        refine gj_callV (q := 31) (z := 0) (ci := 9) [jI 2] rfl (w_X11_refuse hst h  _) (gj_dk okX11_image 16 rfl) ml_X11_92 me_X11_refuse (sh0 hst) rfl (gj_nm rfl) rfl (gj_kI fun x62 S2 M2 h61 => ?_)
        obtain ⟨bx62, eS, w64⟩ := h61; subst eS
        revert w64; generalize M2 = M65; intro w64
        exact gj_zret (gj_dk okX11_image 17 rfl) rfl (by first | decide | assumption | omega) ⟨_, rfl, (by first | decide | assumption | omega), rfl, w64⟩
    · first | exact absurd c7 (by decide) | exact absurd rfl c7

set_option maxHeartbeats 4000000 in
set_option maxRecDepth 20000 in
theorem w_X11_on (hst : gj_Stat S) (h : w_CW M0 M) (a1 : Int)  : gj_C G l 4 0 0 yX11_on cX11_on 3 (some .boolean) [jR 0, jI a1] S M (gj_qI fun x S' M' => (x = 0 ∨ x = 1) ∧ S = S' ∧ w_CW M0 M') := by
  refine gj_Cof (by decide +kernel) (Nat.le_of_ble_eq_true rfl) ?_
  change gj_W G l 4 0 0 yX11_on cX11_on 3 (some .boolean) (gj_qI fun x S' M' => (x = 0 ∨ x = 1) ∧ S = S' ∧ w_CW M0 M') 0 0 0 [(0, jR 0), (1, jI a1)] [] S M
  refine gj_aload_n (q := 1) (gj_dk okX11_on 0 rfl) rfl rfl ?_
  refine gj_iload_n (q := 2) (gj_dk okX11_on 1 rfl) rfl rfl ?_
  refine gj_callV (q := 5) (z := 0) (ci := 9) [jI a1] rfl (w_X11_pictureAt hst  _) (gj_dk okX11_on 2 rfl) ml_X11_314 me_X11_pictureAt (sh0 hst) rfl (gj_nm rfl) rfl (gj_kR fun x2 S2 M2 h1 => ?_)
  obtain ⟨hx, eS, eM⟩ := h1; subst eS; subst eM
  rcases hx with hx | hx | hx | hx
  · subst hx
    refine gj_astore_n (q := 6) (gj_dk okX11_on 3 rfl) (by decide) rfl ?_
    refine gj_aload_n (q := 7) (gj_dk okX11_on 4 rfl) rfl rfl ?_
    refine gj_ifnull (q := 10) (tgt := 21) (gj_dk okX11_on 5 rfl) (by decide) rfl (fun c7 => ?_) (fun c7 => ?_)
    · -- 21
      refine gj_aload_n (q := 22) (gj_dk okX11_on 11 rfl) rfl rfl ?_
      refine gj_iconst (q := 23) (gj_dk okX11_on 12 rfl) (by decide) rfl ?_
      refine gj_callV (q := 26) (z := 0) (ci := 9) [jI 0] rfl (w_X11_refuse hst h  _) (gj_dk okX11_on 13 rfl) ml_X11_92 me_X11_refuse (sh0 hst) rfl (gj_nm rfl) rfl (gj_kI fun x5 S2 M2 h4 => ?_)
      obtain ⟨bx5, eS, w7⟩ := h4; subst eS
      revert w7; generalize M2 = M8; intro w7
      exact gj_zret (gj_dk okX11_on 14 rfl) rfl (by first | decide | assumption | omega) ⟨_, rfl, (by first | decide | assumption | omega), rfl, w7⟩
    · first | exact absurd c7 (by decide) | exact absurd rfl c7
  · subst hx
    refine gj_astore_n (q := 6) (gj_dk okX11_on 3 rfl) (by decide) rfl ?_
    refine gj_aload_n (q := 7) (gj_dk okX11_on 4 rfl) rfl rfl ?_
    refine gj_ifnull (q := 10) (tgt := 21) (gj_dk okX11_on 5 rfl) (by decide) rfl (fun c7 => ?_) (fun c7 => ?_)
    · first | exact absurd c7 (by decide) | exact absurd rfl c7
    · -- 10
      refine gj_aload_n (q := 11) (gj_dk okX11_on 6 rfl) rfl rfl ?_
      refine gj_gR (q := 14) (j := 10) (gj_dk okX11_on 7 rfl) ff_X11_80 (sh0 hst) (by decide) rfl (rf0_10 hst) rfl ?_
      refine gj_iload_n (q := 15) (gj_dk okX11_on 8 rfl) rfl rfl ?_
      refine gj_callS (q := 18) [jR 77, jI a1] rfl (c_X7_is (sh77 hst) (by decide) (by decide) _) (gj_dk okX11_on 9 rfl) ml_X11_326 me_X7_is (gj_nm rfl) rfl (gj_kI fun x10 S2 M2 h9 => ?_)
      obtain ⟨-, eS, eM⟩ := h9; subst eS; subst eM
      refine gj_if_ne (q := 21) (tgt := 27) (gj_dk okX11_on 10 rfl) (by decide) rfl (fun c18 => ?_) (fun c18 => ?_)
      · -- 27
        refine gj_aload_n (q := 28) (gj_dk okX11_on 15 rfl) rfl rfl ?_
        refine gj_gR (q := 31) (j := 4) (gj_dk okX11_on 16 rfl) ff_X11_38 (sh0 hst) (by decide) rfl (rf0_4 hst) rfl ?_
        refine gj_aload_n (q := 32) (gj_dk okX11_on 17 rfl) rfl rfl ?_
        refine gj_callV (q := 35) (z := 21) (ci := 3) [jR 47] rfl (w_X3_copyOf_21_47 hst h  ) (gj_dk okX11_on 18 rfl) ml_X11_318 me_X3_copyOf (sh21 hst) rfl (gj_nm rfl) rfl (gj_kV fun S2 M2 h12 => ?_)
        obtain ⟨eS, w15⟩ := h12; subst eS
        revert w15; generalize M2 = M16; intro w15
        refine gj_iconst (q := 36) (gj_dk okX11_on 19 rfl) (by decide) rfl ?_
        exact gj_zret (gj_dk okX11_on 20 rfl) rfl (by first | decide | assumption | omega) ⟨_, rfl, (by first | decide | assumption | omega), rfl, w15⟩
      · -- 21
        refine gj_aload_n (q := 22) (gj_dk okX11_on 11 rfl) rfl rfl ?_
        refine gj_iconst (q := 23) (gj_dk okX11_on 12 rfl) (by decide) rfl ?_
        refine gj_callV (q := 26) (z := 0) (ci := 9) [jI 0] rfl (w_X11_refuse hst h  _) (gj_dk okX11_on 13 rfl) ml_X11_92 me_X11_refuse (sh0 hst) rfl (gj_nm rfl) rfl (gj_kI fun x18 S2 M2 h17 => ?_)
        obtain ⟨bx18, eS, w20⟩ := h17; subst eS
        revert w20; generalize M2 = M21; intro w20
        exact gj_zret (gj_dk okX11_on 14 rfl) rfl (by first | decide | assumption | omega) ⟨_, rfl, (by first | decide | assumption | omega), rfl, w20⟩
  · subst hx
    refine gj_astore_n (q := 6) (gj_dk okX11_on 3 rfl) (by decide) rfl ?_
    refine gj_aload_n (q := 7) (gj_dk okX11_on 4 rfl) rfl rfl ?_
    refine gj_ifnull (q := 10) (tgt := 21) (gj_dk okX11_on 5 rfl) (by decide) rfl (fun c7 => ?_) (fun c7 => ?_)
    · first | exact absurd c7 (by decide) | exact absurd rfl c7
    · -- 10
      refine gj_aload_n (q := 11) (gj_dk okX11_on 6 rfl) rfl rfl ?_
      refine gj_gR (q := 14) (j := 10) (gj_dk okX11_on 7 rfl) ff_X11_80 (sh0 hst) (by decide) rfl (rf0_10 hst) rfl ?_
      refine gj_iload_n (q := 15) (gj_dk okX11_on 8 rfl) rfl rfl ?_
      refine gj_callS (q := 18) [jR 77, jI a1] rfl (c_X7_is (sh77 hst) (by decide) (by decide) _) (gj_dk okX11_on 9 rfl) ml_X11_326 me_X7_is (gj_nm rfl) rfl (gj_kI fun x23 S2 M2 h22 => ?_)
      obtain ⟨-, eS, eM⟩ := h22; subst eS; subst eM
      refine gj_if_ne (q := 21) (tgt := 27) (gj_dk okX11_on 10 rfl) (by decide) rfl (fun c18 => ?_) (fun c18 => ?_)
      · -- 27
        refine gj_aload_n (q := 28) (gj_dk okX11_on 15 rfl) rfl rfl ?_
        refine gj_gR (q := 31) (j := 4) (gj_dk okX11_on 16 rfl) ff_X11_38 (sh0 hst) (by decide) rfl (rf0_4 hst) rfl ?_
        refine gj_aload_n (q := 32) (gj_dk okX11_on 17 rfl) rfl rfl ?_
        refine gj_callV (q := 35) (z := 21) (ci := 3) [jR 57] rfl (w_X3_copyOf_21_57 hst h  ) (gj_dk okX11_on 18 rfl) ml_X11_318 me_X3_copyOf (sh21 hst) rfl (gj_nm rfl) rfl (gj_kV fun S2 M2 h25 => ?_)
        obtain ⟨eS, w28⟩ := h25; subst eS
        revert w28; generalize M2 = M29; intro w28
        refine gj_iconst (q := 36) (gj_dk okX11_on 19 rfl) (by decide) rfl ?_
        exact gj_zret (gj_dk okX11_on 20 rfl) rfl (by first | decide | assumption | omega) ⟨_, rfl, (by first | decide | assumption | omega), rfl, w28⟩
      · -- 21
        refine gj_aload_n (q := 22) (gj_dk okX11_on 11 rfl) rfl rfl ?_
        refine gj_iconst (q := 23) (gj_dk okX11_on 12 rfl) (by decide) rfl ?_
        refine gj_callV (q := 26) (z := 0) (ci := 9) [jI 0] rfl (w_X11_refuse hst h  _) (gj_dk okX11_on 13 rfl) ml_X11_92 me_X11_refuse (sh0 hst) rfl (gj_nm rfl) rfl (gj_kI fun x31 S2 M2 h30 => ?_)
        obtain ⟨bx31, eS, w33⟩ := h30; subst eS
        revert w33; generalize M2 = M34; intro w33
        exact gj_zret (gj_dk okX11_on 14 rfl) rfl (by first | decide | assumption | omega) ⟨_, rfl, (by first | decide | assumption | omega), rfl, w33⟩
  · subst hx
    refine gj_astore_n (q := 6) (gj_dk okX11_on 3 rfl) (by decide) rfl ?_
    refine gj_aload_n (q := 7) (gj_dk okX11_on 4 rfl) rfl rfl ?_
    refine gj_ifnull (q := 10) (tgt := 21) (gj_dk okX11_on 5 rfl) (by decide) rfl (fun c7 => ?_) (fun c7 => ?_)
    · first | exact absurd c7 (by decide) | exact absurd rfl c7
    · -- 10
      refine gj_aload_n (q := 11) (gj_dk okX11_on 6 rfl) rfl rfl ?_
      refine gj_gR (q := 14) (j := 10) (gj_dk okX11_on 7 rfl) ff_X11_80 (sh0 hst) (by decide) rfl (rf0_10 hst) rfl ?_
      refine gj_iload_n (q := 15) (gj_dk okX11_on 8 rfl) rfl rfl ?_
      refine gj_callS (q := 18) [jR 77, jI a1] rfl (c_X7_is (sh77 hst) (by decide) (by decide) _) (gj_dk okX11_on 9 rfl) ml_X11_326 me_X7_is (gj_nm rfl) rfl (gj_kI fun x36 S2 M2 h35 => ?_)
      obtain ⟨-, eS, eM⟩ := h35; subst eS; subst eM
      refine gj_if_ne (q := 21) (tgt := 27) (gj_dk okX11_on 10 rfl) (by decide) rfl (fun c18 => ?_) (fun c18 => ?_)
      · -- 27
        refine gj_aload_n (q := 28) (gj_dk okX11_on 15 rfl) rfl rfl ?_
        refine gj_gR (q := 31) (j := 4) (gj_dk okX11_on 16 rfl) ff_X11_38 (sh0 hst) (by decide) rfl (rf0_4 hst) rfl ?_
        refine gj_aload_n (q := 32) (gj_dk okX11_on 17 rfl) rfl rfl ?_
        refine gj_callV (q := 35) (z := 21) (ci := 3) [jR 67] rfl (w_X3_copyOf_21_67 hst h  ) (gj_dk okX11_on 18 rfl) ml_X11_318 me_X3_copyOf (sh21 hst) rfl (gj_nm rfl) rfl (gj_kV fun S2 M2 h38 => ?_)
        obtain ⟨eS, w41⟩ := h38; subst eS
        revert w41; generalize M2 = M42; intro w41
        refine gj_iconst (q := 36) (gj_dk okX11_on 19 rfl) (by decide) rfl ?_
        exact gj_zret (gj_dk okX11_on 20 rfl) rfl (by first | decide | assumption | omega) ⟨_, rfl, (by first | decide | assumption | omega), rfl, w41⟩
      · -- 21
        refine gj_aload_n (q := 22) (gj_dk okX11_on 11 rfl) rfl rfl ?_
        refine gj_iconst (q := 23) (gj_dk okX11_on 12 rfl) (by decide) rfl ?_
        refine gj_callV (q := 26) (z := 0) (ci := 9) [jI 0] rfl (w_X11_refuse hst h  _) (gj_dk okX11_on 13 rfl) ml_X11_92 me_X11_refuse (sh0 hst) rfl (gj_nm rfl) rfl (gj_kI fun x44 S2 M2 h43 => ?_)
        obtain ⟨bx44, eS, w46⟩ := h43; subst eS
        revert w46; generalize M2 = M47; intro w46
        exact gj_zret (gj_dk okX11_on 14 rfl) rfl (by first | decide | assumption | omega) ⟨_, rfl, (by first | decide | assumption | omega), rfl, w46⟩

set_option maxHeartbeats 4000000 in
set_option maxRecDepth 20000 in
theorem w_X11_status (hst : gj_Stat S) (a1 : Int)  : gj_C G l 1 0 0 yX11_status cX11_status 2 (some .int) [jR 0, jI a1] S M (gj_qI fun x S' M' => S = S' ∧ M = M') := by
  refine gj_Cof (by decide +kernel) (Nat.le_of_ble_eq_true rfl) ?_
  change gj_W G l 1 0 0 yX11_status cX11_status 2 (some .int) (gj_qI fun x S' M' => S = S' ∧ M = M') 0 0 0 [(0, jR 0), (1, jI a1)] [] S M
  refine gj_iload_n (q := 1) (gj_dk okX11_status 0 rfl) rfl rfl ?_
  refine gj_if_lt (q := 4) (tgt := 13) (gj_dk okX11_status 1 rfl) (by decide) rfl (fun c1 => ?_) (fun c1 => ?_)
  · -- 13
    refine gj_iconst (q := 14) (gj_dk okX11_status 7 rfl) (by decide) rfl ?_
    refine gj_goto (tgt := 23) (gj_dk okX11_status 8 rfl) (by decide) ?_
    exact gj_iret (gj_dk okX11_status 13 rfl) rfl ⟨_, rfl, rfl, rfl⟩
  · -- 4
    refine gj_iload_n (q := 5) (gj_dk okX11_status 2 rfl) rfl rfl ?_
    refine gj_aload_n (q := 6) (gj_dk okX11_status 3 rfl) rfl rfl ?_
    refine gj_gR (q := 9) (j := 11) (gj_dk okX11_status 4 rfl) ff_X11_84 (sh0 hst) (by decide) rfl (rf0_11 hst) rfl ?_
    refine gj_alen (q := 10) (gj_dk okX11_status 5 rfl) (sh78 hst) (by decide) rfl ?_
    refine gj_icmp_lt (q := 13) (tgt := 17) (gj_dk okX11_status 6 rfl) (by decide) rfl (fun c10 => ?_) (fun c10 => ?_)
    · -- 17
      refine gj_aload_n (q := 18) (gj_dk okX11_status 9 rfl) rfl rfl ?_
      refine gj_gR (q := 21) (j := 11) (gj_dk okX11_status 10 rfl) ff_X11_84 (sh0 hst) (by decide) rfl (rf0_11 hst) rfl ?_
      refine gj_iload_n (q := 22) (gj_dk okX11_status 11 rfl) rfl rfl ?_
      refine gj_iald (q := 23) (gj_dk okX11_status 12 rfl) (sh78 hst) (by omega) (by omega) rfl ?_
      exact gj_iret (gj_dk okX11_status 13 rfl) rfl ⟨_, rfl, rfl, rfl⟩
    · -- 13
      refine gj_iconst (q := 14) (gj_dk okX11_status 7 rfl) (by decide) rfl ?_
      refine gj_goto (tgt := 23) (gj_dk okX11_status 8 rfl) (by decide) ?_
      exact gj_iret (gj_dk okX11_status 13 rfl) rfl ⟨_, rfl, rfl, rfl⟩

set_option maxHeartbeats 4000000 in
set_option maxRecDepth 20000 in
theorem w_X11_count (hst : gj_Stat S) (a1 : Int)  : gj_C G l 2 0 0 yX11_count cX11_count 3 (some .int) [jR 0, jI a1] S M (gj_qI fun x S' M' => S = S' ∧ M = M') := by
  refine gj_Cof (by decide +kernel) (Nat.le_of_ble_eq_true rfl) ?_
  change gj_W G l 2 0 0 yX11_count cX11_count 3 (some .int) (gj_qI fun x S' M' => S = S' ∧ M = M') 0 0 0 [(0, jR 0), (1, jI a1)] [] S M
  refine gj_aload_n (q := 1) (gj_dk okX11_count 0 rfl) rfl rfl ?_
  refine gj_gR (q := 4) (j := 3) (gj_dk okX11_count 1 rfl) ff_X11_32 (sh0 hst) (by decide) rfl (rf0_3 hst) rfl ?_
  refine gj_callV (q := 7) (z := 14) (ci := 5) [] rfl (w_X5_stands_14 hst  ) (gj_dk okX11_count 2 rfl) ml_X11_268 me_X5_stands (sh14 hst) rfl (gj_nm rfl) rfl (gj_kI fun x2 S2 M2 h1 => ?_)
  obtain ⟨bx2, eS, eM⟩ := h1; subst eS; subst eM
  refine gj_istore_n (q := 8) (gj_dk okX11_count 3 rfl) (by decide) rfl ?_
  refine gj_iload_n (q := 9) (gj_dk okX11_count 4 rfl) rfl rfl ?_
  by_cases c9_0 : a1 = 0
  · refine gj_tabIn (tgt := 48) (off := 39) 0 (gj_dk okX11_count 5 rfl) c9_0 ⟨by decide, by decide, rfl⟩ (by decide) ?_
    refine gj_aload_n (q := 49) (gj_dk okX11_count 6 rfl) rfl rfl ?_
    refine gj_gR (q := 52) (j := 3) (gj_dk okX11_count 7 rfl) ff_X11_32 (sh0 hst) (by decide) rfl (rf0_3 hst) rfl ?_
    refine gj_gI (q := 55) (j := 0) (gj_dk okX11_count 8 rfl) ff_X11_124 (sh14 hst) (by decide) rfl rfl ?_
    exact gj_iret (gj_dk okX11_count 9 rfl) rfl ⟨_, rfl, rfl, rfl⟩
  by_cases c9_1 : a1 = 1
  · refine gj_tabIn (tgt := 56) (off := 47) 1 (gj_dk okX11_count 5 rfl) c9_1 ⟨by decide, by decide, rfl⟩ (by decide) ?_
    refine gj_aload_n (q := 57) (gj_dk okX11_count 10 rfl) rfl rfl ?_
    refine gj_gR (q := 60) (j := 3) (gj_dk okX11_count 11 rfl) ff_X11_32 (sh0 hst) (by decide) rfl (rf0_3 hst) rfl ?_
    refine gj_gI (q := 63) (j := 1) (gj_dk okX11_count 12 rfl) ff_X11_128 (sh14 hst) (by decide) rfl rfl ?_
    exact gj_iret (gj_dk okX11_count 13 rfl) rfl ⟨_, rfl, rfl, rfl⟩
  by_cases c9_2 : a1 = 2
  · refine gj_tabIn (tgt := 64) (off := 55) 2 (gj_dk okX11_count 5 rfl) c9_2 ⟨by decide, by decide, rfl⟩ (by decide) ?_
    refine gj_iload_n (q := 65) (gj_dk okX11_count 14 rfl) rfl rfl ?_
    refine gj_if_eq (q := 68) (tgt := 78) (gj_dk okX11_count 15 rfl) (by decide) rfl (fun c65 => ?_) (fun c65 => ?_)
    · -- 78
      refine gj_iconst (q := 79) (gj_dk okX11_count 20 rfl) (by decide) rfl ?_
      exact gj_iret (gj_dk okX11_count 21 rfl) rfl ⟨_, rfl, rfl, rfl⟩
    · -- 68
      refine gj_aload_n (q := 69) (gj_dk okX11_count 16 rfl) rfl rfl ?_
      refine gj_gR (q := 72) (j := 4) (gj_dk okX11_count 17 rfl) ff_X11_38 (sh0 hst) (by decide) rfl (rf0_4 hst) rfl ?_
      refine gj_gI (q := 75) (j := 0) (gj_dk okX11_count 18 rfl) ff_X11_275 (sh21 hst) (by decide) rfl rfl ?_
      refine gj_goto (tgt := 79) (gj_dk okX11_count 19 rfl) (by decide) ?_
      exact gj_iret (gj_dk okX11_count 21 rfl) rfl ⟨_, rfl, rfl, rfl⟩
  by_cases c9_3 : a1 = 3
  · refine gj_tabIn (tgt := 80) (off := 71) 3 (gj_dk okX11_count 5 rfl) c9_3 ⟨by decide, by decide, rfl⟩ (by decide) ?_
    refine gj_iload_n (q := 81) (gj_dk okX11_count 22 rfl) rfl rfl ?_
    refine gj_if_eq (q := 84) (tgt := 94) (gj_dk okX11_count 23 rfl) (by decide) rfl (fun c81 => ?_) (fun c81 => ?_)
    · -- 94
      refine gj_iconst (q := 95) (gj_dk okX11_count 28 rfl) (by decide) rfl ?_
      exact gj_iret (gj_dk okX11_count 29 rfl) rfl ⟨_, rfl, rfl, rfl⟩
    · -- 84
      refine gj_aload_n (q := 85) (gj_dk okX11_count 24 rfl) rfl rfl ?_
      refine gj_gR (q := 88) (j := 4) (gj_dk okX11_count 25 rfl) ff_X11_38 (sh0 hst) (by decide) rfl (rf0_4 hst) rfl ?_
      refine gj_gI (q := 91) (j := 1) (gj_dk okX11_count 26 rfl) ff_X11_254 (sh21 hst) (by decide) rfl rfl ?_
      refine gj_goto (tgt := 95) (gj_dk okX11_count 27 rfl) (by decide) ?_
      exact gj_iret (gj_dk okX11_count 29 rfl) rfl ⟨_, rfl, rfl, rfl⟩
  by_cases c9_4 : a1 = 4
  · refine gj_tabIn (tgt := 96) (off := 87) 4 (gj_dk okX11_count 5 rfl) c9_4 ⟨by decide, by decide, rfl⟩ (by decide) ?_
    refine gj_iload_n (q := 97) (gj_dk okX11_count 30 rfl) rfl rfl ?_
    refine gj_if_eq (q := 100) (tgt := 110) (gj_dk okX11_count 31 rfl) (by decide) rfl (fun c97 => ?_) (fun c97 => ?_)
    · -- 110
      refine gj_iconst (q := 111) (gj_dk okX11_count 36 rfl) (by decide) rfl ?_
      exact gj_iret (gj_dk okX11_count 37 rfl) rfl ⟨_, rfl, rfl, rfl⟩
    · -- 100
      refine gj_aload_n (q := 101) (gj_dk okX11_count 32 rfl) rfl rfl ?_
      refine gj_gR (q := 104) (j := 3) (gj_dk okX11_count 33 rfl) ff_X11_32 (sh0 hst) (by decide) rfl (rf0_3 hst) rfl ?_
      refine gj_gI (q := 107) (j := 9) (gj_dk okX11_count 34 rfl) ff_X11_330 (sh14 hst) (by decide) rfl rfl ?_
      refine gj_goto (tgt := 111) (gj_dk okX11_count 35 rfl) (by decide) ?_
      exact gj_iret (gj_dk okX11_count 37 rfl) rfl ⟨_, rfl, rfl, rfl⟩
  by_cases c9_5 : a1 = 5
  · refine gj_tabIn (tgt := 112) (off := 103) 5 (gj_dk okX11_count 5 rfl) c9_5 ⟨by decide, by decide, rfl⟩ (by decide) ?_
    refine gj_aload_n (q := 113) (gj_dk okX11_count 38 rfl) rfl rfl ?_
    refine gj_gR (q := 116) (j := 0) (gj_dk okX11_count 39 rfl) ff_X11_10 (sh0 hst) (by decide) rfl (rf0_0 hst) rfl ?_
    refine gj_callV (q := 119) (z := 1) (ci := 8) [] rfl (w_X9_length hst  ) (gj_dk okX11_count 40 rfl) ml_X11_99 me_X9_length (sh1 hst) rfl (gj_nm rfl) rfl (gj_kI fun x6 S2 M2 h5 => ?_)
    obtain ⟨px6, eS, eM⟩ := h5; subst eS; subst eM
    exact gj_iret (gj_dk okX11_count 41 rfl) rfl ⟨_, rfl, rfl, rfl⟩
  refine gj_tabOut (tgt := 120) (gj_dk okX11_count 5 rfl) (by omega) (by decide) ?_
  refine gj_iconst (q := 121) (gj_dk okX11_count 42 rfl) (by decide) rfl ?_
  exact gj_iret (gj_dk okX11_count 43 rfl) rfl ⟨_, rfl, rfl, rfl⟩

end GJW
